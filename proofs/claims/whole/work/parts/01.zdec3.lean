theorem d_X10_lack_0 : decode prog_1_method_24_code 0 = .ok (.aload_n 0, 1) := by decide +kernel
theorem d_X10_lack_1 : decode prog_1_method_24_code 1 = .ok (.aload_n 0, 1) := by decide +kernel
theorem d_X10_lack_2 : decode prog_1_method_24_code 2 = .ok (.iload_n 1, 1) := by decide +kernel
theorem d_X10_lack_3 : decode prog_1_method_24_code 3 = .ok (.iconst 1, 1) := by decide +kernel
theorem d_X10_lack_4 : decode prog_1_method_24_code 4 = .ok (.invokevirtual 235, 3) := by decide +kernel
theorem d_X10_lack_7 : decode prog_1_method_24_code 7 = .ok (.invokevirtual 266, 3) := by decide +kernel
theorem d_X10_lack_10 : decode prog_1_method_24_code 10 = .ok (.ireturn, 1) := by decide +kernel
theorem d_X10_find_0 : decode prog_1_method_25_code 0 = .ok (.aload_n 0, 1) := by decide +kernel
theorem d_X10_find_1 : decode prog_1_method_25_code 1 = .ok (.aload_n 0, 1) := by decide +kernel
theorem d_X10_find_2 : decode prog_1_method_25_code 2 = .ok (.iload_n 1, 1) := by decide +kernel
theorem d_X10_find_3 : decode prog_1_method_25_code 3 = .ok (.iconst 0, 1) := by decide +kernel
theorem d_X10_find_4 : decode prog_1_method_25_code 4 = .ok (.invokevirtual 235, 3) := by decide +kernel
theorem d_X10_find_7 : decode prog_1_method_25_code 7 = .ok (.invokevirtual 266, 3) := by decide +kernel
theorem d_X10_find_10 : decode prog_1_method_25_code 10 = .ok (.ireturn, 1) := by decide +kernel
theorem d_X10_weigh_0 : decode prog_1_method_26_code 0 = .ok (.aload_n 0, 1) := by decide +kernel
theorem d_X10_weigh_1 : decode prog_1_method_26_code 1 = .ok (.aload_n 0, 1) := by decide +kernel
theorem d_X10_weigh_2 : decode prog_1_method_26_code 2 = .ok (.iload_n 1, 1) := by decide +kernel
theorem d_X10_weigh_3 : decode prog_1_method_26_code 3 = .ok (.iload_n 2, 1) := by decide +kernel
theorem d_X10_weigh_4 : decode prog_1_method_26_code 4 = .ok (.invokevirtual 238, 3) := by decide +kernel
theorem d_X10_weigh_7 : decode prog_1_method_26_code 7 = .ok (.invokevirtual 266, 3) := by decide +kernel
theorem d_X10_weigh_10 : decode prog_1_method_26_code 10 = .ok (.ireturn, 1) := by decide +kernel
theorem d_X10_pass_0 : decode prog_1_method_27_code 0 = .ok (.aload_n 0, 1) := by decide +kernel
theorem d_X10_pass_1 : decode prog_1_method_27_code 1 = .ok (.aload_n 0, 1) := by decide +kernel
theorem d_X10_pass_2 : decode prog_1_method_27_code 2 = .ok (.invokevirtual 241, 3) := by decide +kernel
theorem d_X10_pass_5 : decode prog_1_method_27_code 5 = .ok (.invokevirtual 266, 3) := by decide +kernel
theorem d_X10_pass_8 : decode prog_1_method_27_code 8 = .ok (.ireturn, 1) := by decide +kernel
theorem d_X10_undo_0 : decode prog_1_method_28_code 0 = .ok (.aload_n 0, 1) := by decide +kernel
theorem d_X10_undo_1 : decode prog_1_method_28_code 1 = .ok (.getfield 35, 3) := by decide +kernel
theorem d_X10_undo_4 : decode prog_1_method_28_code 4 = .ok (.getfield 269, 3) := by decide +kernel
theorem d_X10_undo_7 : decode prog_1_method_28_code 7 = .ok (.ifCond .ne 10, 3) := by decide +kernel
theorem d_X10_undo_10 : decode prog_1_method_28_code 10 = .ok (.aload_n 0, 1) := by decide +kernel
theorem d_X10_undo_11 : decode prog_1_method_28_code 11 = .ok (.bipush (-3), 2) := by decide +kernel
theorem d_X10_undo_13 : decode prog_1_method_28_code 13 = .ok (.invokevirtual 119, 3) := by decide +kernel
theorem d_X10_undo_16 : decode prog_1_method_28_code 16 = .ok (.ireturn, 1) := by decide +kernel
theorem d_X10_undo_17 : decode prog_1_method_28_code 17 = .ok (.aload_n 0, 1) := by decide +kernel
theorem d_X10_undo_18 : decode prog_1_method_28_code 18 = .ok (.aload_n 0, 1) := by decide +kernel
theorem d_X10_undo_19 : decode prog_1_method_28_code 19 = .ok (.getfield 35, 3) := by decide +kernel
theorem d_X10_undo_22 : decode prog_1_method_28_code 22 = .ok (.aload_n 0, 1) := by decide +kernel
theorem d_X10_undo_23 : decode prog_1_method_28_code 23 = .ok (.getfield 14, 3) := by decide +kernel
theorem d_X10_undo_26 : decode prog_1_method_28_code 26 = .ok (.invokevirtual 272, 3) := by decide +kernel
theorem d_X10_undo_29 : decode prog_1_method_28_code 29 = .ok (.invokevirtual 133, 3) := by decide +kernel
theorem d_X10_undo_32 : decode prog_1_method_28_code 32 = .ok (.ireturn, 1) := by decide +kernel
theorem d_X10_figure_0 : decode prog_1_method_29_code 0 = .ok (.iload_n 1, 1) := by decide +kernel
theorem d_X10_figure_1 : decode prog_1_method_29_code 1 = .ok (.iconst 0, 1) := by decide +kernel
theorem d_X10_figure_2 : decode prog_1_method_29_code 2 = .ok (.iconst 3, 1) := by decide +kernel
theorem d_X10_figure_3 : decode prog_1_method_29_code 3 = .ok (.invokestatic 115, 3) := by decide +kernel
theorem d_X10_figure_6 : decode prog_1_method_29_code 6 = .ok (.ifCond .eq 12, 3) := by decide +kernel
theorem d_X10_figure_9 : decode prog_1_method_29_code 9 = .ok (.iload_n 2, 1) := by decide +kernel
theorem d_X10_figure_10 : decode prog_1_method_29_code 10 = .ok (.iconst 0, 1) := by decide +kernel
theorem d_X10_figure_11 : decode prog_1_method_29_code 11 = .ok (.iconst 1, 1) := by decide +kernel
theorem d_X10_figure_12 : decode prog_1_method_29_code 12 = .ok (.invokestatic 115, 3) := by decide +kernel
theorem d_X10_figure_15 : decode prog_1_method_29_code 15 = .ok (.ifCond .ne 7, 3) := by decide +kernel
theorem d_X10_figure_18 : decode prog_1_method_29_code 18 = .ok (.ldc2_w 276, 3) := by decide +kernel
theorem d_X10_figure_21 : decode prog_1_method_29_code 21 = .ok (.lreturn, 1) := by decide +kernel
theorem d_X10_figure_22 : decode prog_1_method_29_code 22 = .ok (.aload_n 0, 1) := by decide +kernel
theorem d_X10_figure_23 : decode prog_1_method_29_code 23 = .ok (.getfield 79, 3) := by decide +kernel
theorem d_X10_figure_26 : decode prog_1_method_29_code 26 = .ok (.aload_n 0, 1) := by decide +kernel
theorem d_X10_figure_27 : decode prog_1_method_29_code 27 = .ok (.getfield 14, 3) := by decide +kernel
theorem d_X10_figure_30 : decode prog_1_method_29_code 30 = .ok (.aload_n 0, 1) := by decide +kernel
theorem d_X10_figure_31 : decode prog_1_method_29_code 31 = .ok (.getfield 14, 3) := by decide +kernel
theorem d_X10_figure_34 : decode prog_1_method_29_code 34 = .ok (.invokevirtual 145, 3) := by decide +kernel
theorem d_X10_figure_37 : decode prog_1_method_29_code 37 = .ok (.invokevirtual 252, 3) := by decide +kernel
theorem d_X10_figure_40 : decode prog_1_method_29_code 40 = .ok (.aload_n 0, 1) := by decide +kernel
theorem d_X10_figure_41 : decode prog_1_method_29_code 41 = .ok (.getfield 79, 3) := by decide +kernel
theorem d_X10_figure_44 : decode prog_1_method_29_code 44 = .ok (.iload_n 1, 1) := by decide +kernel
theorem d_X10_figure_45 : decode prog_1_method_29_code 45 = .ok (.invokevirtual 278, 3) := by decide +kernel
theorem d_X10_figure_48 : decode prog_1_method_29_code 48 = .ok (.iload_n 2, 1) := by decide +kernel
theorem d_X10_figure_49 : decode prog_1_method_29_code 49 = .ok (.invokevirtual 282, 3) := by decide +kernel
theorem d_X10_figure_52 : decode prog_1_method_29_code 52 = .ok (.lreturn, 1) := by decide +kernel
theorem d_X10_turned_0 : decode prog_1_method_30_code 0 = .ok (.iload_n 1, 1) := by decide +kernel
theorem d_X10_turned_1 : decode prog_1_method_30_code 1 = .ok (.iconst 0, 1) := by decide +kernel
theorem d_X10_turned_2 : decode prog_1_method_30_code 2 = .ok (.iconst 3, 1) := by decide +kernel
theorem d_X10_turned_3 : decode prog_1_method_30_code 3 = .ok (.invokestatic 115, 3) := by decide +kernel
theorem d_X10_turned_6 : decode prog_1_method_30_code 6 = .ok (.ifCond .eq 12, 3) := by decide +kernel
theorem d_X10_turned_9 : decode prog_1_method_30_code 9 = .ok (.iload_n 2, 1) := by decide +kernel
theorem d_X10_turned_10 : decode prog_1_method_30_code 10 = .ok (.iconst 0, 1) := by decide +kernel
theorem d_X10_turned_11 : decode prog_1_method_30_code 11 = .ok (.iconst 1, 1) := by decide +kernel
theorem d_X10_turned_12 : decode prog_1_method_30_code 12 = .ok (.invokestatic 115, 3) := by decide +kernel
theorem d_X10_turned_15 : decode prog_1_method_30_code 15 = .ok (.ifCond .ne 7, 3) := by decide +kernel
theorem d_X10_turned_18 : decode prog_1_method_30_code 18 = .ok (.ldc2_w 276, 3) := by decide +kernel
theorem d_X10_turned_21 : decode prog_1_method_30_code 21 = .ok (.lreturn, 1) := by decide +kernel
theorem d_X10_turned_22 : decode prog_1_method_30_code 22 = .ok (.aload_n 0, 1) := by decide +kernel
theorem d_X10_turned_23 : decode prog_1_method_30_code 23 = .ok (.getfield 79, 3) := by decide +kernel
theorem d_X10_turned_26 : decode prog_1_method_30_code 26 = .ok (.aload_n 0, 1) := by decide +kernel
theorem d_X10_turned_27 : decode prog_1_method_30_code 27 = .ok (.getfield 14, 3) := by decide +kernel
theorem d_X10_turned_30 : decode prog_1_method_30_code 30 = .ok (.aload_n 0, 1) := by decide +kernel
theorem d_X10_turned_31 : decode prog_1_method_30_code 31 = .ok (.getfield 14, 3) := by decide +kernel
theorem d_X10_turned_34 : decode prog_1_method_30_code 34 = .ok (.invokevirtual 145, 3) := by decide +kernel
theorem d_X10_turned_37 : decode prog_1_method_30_code 37 = .ok (.invokevirtual 252, 3) := by decide +kernel
theorem d_X10_turned_40 : decode prog_1_method_30_code 40 = .ok (.aload_n 0, 1) := by decide +kernel
theorem d_X10_turned_41 : decode prog_1_method_30_code 41 = .ok (.getfield 79, 3) := by decide +kernel
theorem d_X10_turned_44 : decode prog_1_method_30_code 44 = .ok (.iload_n 1, 1) := by decide +kernel
theorem d_X10_turned_45 : decode prog_1_method_30_code 45 = .ok (.invokevirtual 288, 3) := by decide +kernel
theorem d_X10_turned_48 : decode prog_1_method_30_code 48 = .ok (.iload_n 2, 1) := by decide +kernel
theorem d_X10_turned_49 : decode prog_1_method_30_code 49 = .ok (.invokevirtual 282, 3) := by decide +kernel
theorem d_X10_turned_52 : decode prog_1_method_30_code 52 = .ok (.lreturn, 1) := by decide +kernel
theorem d_X10_pension_0 : decode prog_1_method_31_code 0 = .ok (.aload_n 0, 1) := by decide +kernel
theorem d_X10_pension_1 : decode prog_1_method_31_code 1 = .ok (.getfield 79, 3) := by decide +kernel
theorem d_X10_pension_4 : decode prog_1_method_31_code 4 = .ok (.aload_n 0, 1) := by decide +kernel
theorem d_X10_pension_5 : decode prog_1_method_31_code 5 = .ok (.getfield 14, 3) := by decide +kernel
theorem d_X10_pension_8 : decode prog_1_method_31_code 8 = .ok (.aload_n 0, 1) := by decide +kernel
theorem d_X10_pension_9 : decode prog_1_method_31_code 9 = .ok (.getfield 14, 3) := by decide +kernel
theorem d_X10_pension_12 : decode prog_1_method_31_code 12 = .ok (.invokevirtual 145, 3) := by decide +kernel
theorem d_X10_pension_15 : decode prog_1_method_31_code 15 = .ok (.invokevirtual 252, 3) := by decide +kernel
theorem d_X10_pension_18 : decode prog_1_method_31_code 18 = .ok (.aload_n 0, 1) := by decide +kernel
theorem d_X10_pension_19 : decode prog_1_method_31_code 19 = .ok (.getfield 79, 3) := by decide +kernel
theorem d_X10_pension_22 : decode prog_1_method_31_code 22 = .ok (.invokevirtual 256, 3) := by decide +kernel
theorem d_X10_pension_25 : decode prog_1_method_31_code 25 = .ok (.ireturn, 1) := by decide +kernel
theorem d_X10_glad_0 : decode prog_1_method_32_code 0 = .ok (.iload_n 1, 1) := by decide +kernel
theorem d_X10_glad_1 : decode prog_1_method_32_code 1 = .ok (.iconst 0, 1) := by decide +kernel
theorem d_X10_glad_2 : decode prog_1_method_32_code 2 = .ok (.bipush 99, 2) := by decide +kernel
theorem d_X10_glad_4 : decode prog_1_method_32_code 4 = .ok (.invokestatic 115, 3) := by decide +kernel
theorem d_X10_glad_7 : decode prog_1_method_32_code 7 = .ok (.ifCond .eq 18, 3) := by decide +kernel
theorem d_X10_glad_10 : decode prog_1_method_32_code 10 = .ok (.iload_n 2, 1) := by decide +kernel
theorem d_X10_glad_11 : decode prog_1_method_32_code 11 = .ok (.iconst 0, 1) := by decide +kernel
theorem d_X10_glad_12 : decode prog_1_method_32_code 12 = .ok (.aload_n 0, 1) := by decide +kernel
theorem d_X10_glad_13 : decode prog_1_method_32_code 13 = .ok (.getfield 14, 3) := by decide +kernel
theorem d_X10_glad_16 : decode prog_1_method_32_code 16 = .ok (.getfield 123, 3) := by decide +kernel
theorem d_X10_glad_19 : decode prog_1_method_32_code 19 = .ok (.invokestatic 115, 3) := by decide +kernel
theorem d_X10_glad_22 : decode prog_1_method_32_code 22 = .ok (.ifCond .ne 5, 3) := by decide +kernel
theorem d_X10_glad_25 : decode prog_1_method_32_code 25 = .ok (.iconst (-1), 1) := by decide +kernel
theorem d_X10_glad_26 : decode prog_1_method_32_code 26 = .ok (.ireturn, 1) := by decide +kernel
theorem d_X10_glad_27 : decode prog_1_method_32_code 27 = .ok (.aload_n 0, 1) := by decide +kernel
theorem d_X10_glad_28 : decode prog_1_method_32_code 28 = .ok (.getfield 88, 3) := by decide +kernel
theorem d_X10_glad_31 : decode prog_1_method_32_code 31 = .ok (.aload_n 0, 1) := by decide +kernel
theorem d_X10_glad_32 : decode prog_1_method_32_code 32 = .ok (.getfield 14, 3) := by decide +kernel
theorem d_X10_glad_35 : decode prog_1_method_32_code 35 = .ok (.iload_n 1, 1) := by decide +kernel
theorem d_X10_glad_36 : decode prog_1_method_32_code 36 = .ok (.invokevirtual 291, 3) := by decide +kernel
theorem d_X10_glad_39 : decode prog_1_method_32_code 39 = .ok (.istore_n 3, 1) := by decide +kernel
theorem d_X10_glad_40 : decode prog_1_method_32_code 40 = .ok (.iload_n 3, 1) := by decide +kernel
theorem d_X10_glad_41 : decode prog_1_method_32_code 41 = .ok (.iconst (-1), 1) := by decide +kernel
theorem d_X10_glad_42 : decode prog_1_method_32_code 42 = .ok (.if_icmp .eq 7, 3) := by decide +kernel
theorem d_X10_glad_45 : decode prog_1_method_32_code 45 = .ok (.iload_n 2, 1) := by decide +kernel
theorem d_X10_glad_46 : decode prog_1_method_32_code 46 = .ok (.ifCond .ne 7, 3) := by decide +kernel
theorem d_X10_glad_49 : decode prog_1_method_32_code 49 = .ok (.iload_n 3, 1) := by decide +kernel
theorem d_X10_glad_50 : decode prog_1_method_32_code 50 = .ok (.goto 13, 3) := by decide +kernel
theorem d_X10_glad_53 : decode prog_1_method_32_code 53 = .ok (.aload_n 0, 1) := by decide +kernel
theorem d_X10_glad_54 : decode prog_1_method_32_code 54 = .ok (.getfield 88, 3) := by decide +kernel
theorem d_X10_glad_57 : decode prog_1_method_32_code 57 = .ok (.iload_n 2, 1) := by decide +kernel
theorem d_X10_glad_58 : decode prog_1_method_32_code 58 = .ok (.iconst 1, 1) := by decide +kernel
theorem d_X10_glad_59 : decode prog_1_method_32_code 59 = .ok (.isub, 1) := by decide +kernel
theorem d_X10_glad_60 : decode prog_1_method_32_code 60 = .ok (.invokevirtual 295, 3) := by decide +kernel
theorem d_X10_glad_63 : decode prog_1_method_32_code 63 = .ok (.ireturn, 1) := by decide +kernel
theorem d_X10_round_0 : decode prog_1_method_33_code 0 = .ok (.iload_n 1, 1) := by decide +kernel
theorem d_X10_round_1 : decode prog_1_method_33_code 1 = .ok (.iconst 0, 1) := by decide +kernel
theorem d_X10_round_2 : decode prog_1_method_33_code 2 = .ok (.bipush 24, 2) := by decide +kernel
theorem d_X10_round_4 : decode prog_1_method_33_code 4 = .ok (.invokestatic 115, 3) := by decide +kernel
theorem d_X10_round_7 : decode prog_1_method_33_code 7 = .ok (.ifCond .ne 5, 3) := by decide +kernel
theorem d_X10_round_10 : decode prog_1_method_33_code 10 = .ok (.iconst (-1), 1) := by decide +kernel
theorem d_X10_round_11 : decode prog_1_method_33_code 11 = .ok (.ireturn, 1) := by decide +kernel
theorem d_X10_round_12 : decode prog_1_method_33_code 12 = .ok (.aload_n 0, 1) := by decide +kernel
theorem d_X10_round_13 : decode prog_1_method_33_code 13 = .ok (.getfield 88, 3) := by decide +kernel
theorem d_X10_round_16 : decode prog_1_method_33_code 16 = .ok (.aload_n 0, 1) := by decide +kernel
theorem d_X10_round_17 : decode prog_1_method_33_code 17 = .ok (.getfield 14, 3) := by decide +kernel
theorem d_X10_round_20 : decode prog_1_method_33_code 20 = .ok (.iload_n 1, 1) := by decide +kernel
theorem d_X10_round_21 : decode prog_1_method_33_code 21 = .ok (.invokevirtual 298, 3) := by decide +kernel
theorem d_X10_round_24 : decode prog_1_method_33_code 24 = .ok (.istore_n 3, 1) := by decide +kernel
theorem d_X10_round_25 : decode prog_1_method_33_code 25 = .ok (.iload_n 2, 1) := by decide +kernel
theorem d_X10_round_26 : decode prog_1_method_33_code 26 = .ok (.iconst (-1), 1) := by decide +kernel
theorem d_X10_round_27 : decode prog_1_method_33_code 27 = .ok (.if_icmp .ne 7, 3) := by decide +kernel
theorem d_X10_round_30 : decode prog_1_method_33_code 30 = .ok (.iload_n 3, 1) := by decide +kernel
theorem d_X10_round_31 : decode prog_1_method_33_code 31 = .ok (.goto 11, 3) := by decide +kernel
theorem d_X10_round_34 : decode prog_1_method_33_code 34 = .ok (.aload_n 0, 1) := by decide +kernel
theorem d_X10_round_35 : decode prog_1_method_33_code 35 = .ok (.getfield 88, 3) := by decide +kernel
theorem d_X10_round_38 : decode prog_1_method_33_code 38 = .ok (.iload_n 2, 1) := by decide +kernel
theorem d_X10_round_39 : decode prog_1_method_33_code 39 = .ok (.invokevirtual 301, 3) := by decide +kernel
theorem d_X10_round_42 : decode prog_1_method_33_code 42 = .ok (.ireturn, 1) := by decide +kernel
theorem d_X10_spent_0 : decode prog_1_method_34_code 0 = .ok (.iload_n 1, 1) := by decide +kernel
theorem d_X10_spent_1 : decode prog_1_method_34_code 1 = .ok (.iconst 0, 1) := by decide +kernel
theorem d_X10_spent_2 : decode prog_1_method_34_code 2 = .ok (.bipush 99, 2) := by decide +kernel
theorem d_X10_spent_4 : decode prog_1_method_34_code 4 = .ok (.invokestatic 115, 3) := by decide +kernel
theorem d_X10_spent_7 : decode prog_1_method_34_code 7 = .ok (.ifCond .eq 13, 3) := by decide +kernel
theorem d_X10_spent_10 : decode prog_1_method_34_code 10 = .ok (.iload_n 2, 1) := by decide +kernel
theorem d_X10_spent_11 : decode prog_1_method_34_code 11 = .ok (.iconst 0, 1) := by decide +kernel
theorem d_X10_spent_12 : decode prog_1_method_34_code 12 = .ok (.bipush 99, 2) := by decide +kernel
theorem d_X10_spent_14 : decode prog_1_method_34_code 14 = .ok (.invokestatic 115, 3) := by decide +kernel
theorem d_X10_spent_17 : decode prog_1_method_34_code 17 = .ok (.ifCond .ne 5, 3) := by decide +kernel
theorem d_X10_spent_20 : decode prog_1_method_34_code 20 = .ok (.iconst (-1), 1) := by decide +kernel
theorem d_X10_spent_21 : decode prog_1_method_34_code 21 = .ok (.ireturn, 1) := by decide +kernel
theorem d_X10_spent_22 : decode prog_1_method_34_code 22 = .ok (.aload_n 0, 1) := by decide +kernel
theorem d_X10_spent_23 : decode prog_1_method_34_code 23 = .ok (.getfield 88, 3) := by decide +kernel
theorem d_X10_spent_26 : decode prog_1_method_34_code 26 = .ok (.aload_n 0, 1) := by decide +kernel
theorem d_X10_spent_27 : decode prog_1_method_34_code 27 = .ok (.getfield 14, 3) := by decide +kernel
theorem d_X10_spent_30 : decode prog_1_method_34_code 30 = .ok (.iload_n 1, 1) := by decide +kernel
theorem d_X10_spent_31 : decode prog_1_method_34_code 31 = .ok (.iload_n 2, 1) := by decide +kernel
theorem d_X10_spent_32 : decode prog_1_method_34_code 32 = .ok (.invokevirtual 304, 3) := by decide +kernel
theorem d_X10_spent_35 : decode prog_1_method_34_code 35 = .ok (.istore 4, 2) := by decide +kernel
theorem d_X10_spent_37 : decode prog_1_method_34_code 37 = .ok (.iload_n 3, 1) := by decide +kernel
theorem d_X10_spent_38 : decode prog_1_method_34_code 38 = .ok (.iconst (-1), 1) := by decide +kernel
theorem d_X10_spent_39 : decode prog_1_method_34_code 39 = .ok (.if_icmp .ne 8, 3) := by decide +kernel
theorem d_X10_spent_42 : decode prog_1_method_34_code 42 = .ok (.iload 4, 2) := by decide +kernel
theorem d_X10_spent_44 : decode prog_1_method_34_code 44 = .ok (.goto 11, 3) := by decide +kernel
theorem d_X10_spent_47 : decode prog_1_method_34_code 47 = .ok (.aload_n 0, 1) := by decide +kernel
theorem d_X10_spent_48 : decode prog_1_method_34_code 48 = .ok (.getfield 88, 3) := by decide +kernel
theorem d_X10_spent_51 : decode prog_1_method_34_code 51 = .ok (.iload_n 3, 1) := by decide +kernel
theorem d_X10_spent_52 : decode prog_1_method_34_code 52 = .ok (.invokevirtual 308, 3) := by decide +kernel
theorem d_X10_spent_55 : decode prog_1_method_34_code 55 = .ok (.ireturn, 1) := by decide +kernel
theorem d_X10_ask_0 : decode prog_1_method_35_code 0 = .ok (.iload_n 1, 1) := by decide +kernel
theorem d_X10_ask_1 : decode prog_1_method_35_code 1 = .ok (.iconst 0, 1) := by decide +kernel
theorem d_X10_ask_2 : decode prog_1_method_35_code 2 = .ok (.bipush 99, 2) := by decide +kernel
theorem d_X10_ask_4 : decode prog_1_method_35_code 4 = .ok (.invokestatic 115, 3) := by decide +kernel
theorem d_X10_ask_7 : decode prog_1_method_35_code 7 = .ok (.ifCond .eq 22, 3) := by decide +kernel
theorem d_X10_ask_10 : decode prog_1_method_35_code 10 = .ok (.iload_n 2, 1) := by decide +kernel
theorem d_X10_ask_11 : decode prog_1_method_35_code 11 = .ok (.iconst 0, 1) := by decide +kernel
theorem d_X10_ask_12 : decode prog_1_method_35_code 12 = .ok (.bipush 99, 2) := by decide +kernel
theorem d_X10_ask_14 : decode prog_1_method_35_code 14 = .ok (.invokestatic 115, 3) := by decide +kernel
theorem d_X10_ask_17 : decode prog_1_method_35_code 17 = .ok (.ifCond .eq 12, 3) := by decide +kernel
theorem d_X10_ask_20 : decode prog_1_method_35_code 20 = .ok (.iload_n 3, 1) := by decide +kernel
theorem d_X10_ask_21 : decode prog_1_method_35_code 21 = .ok (.iconst 0, 1) := by decide +kernel
theorem d_X10_ask_22 : decode prog_1_method_35_code 22 = .ok (.iconst 1, 1) := by decide +kernel
theorem d_X10_ask_23 : decode prog_1_method_35_code 23 = .ok (.invokestatic 115, 3) := by decide +kernel
theorem d_X10_ask_26 : decode prog_1_method_35_code 26 = .ok (.ifCond .ne 5, 3) := by decide +kernel
theorem d_X10_ask_29 : decode prog_1_method_35_code 29 = .ok (.iconst (-1), 1) := by decide +kernel
theorem d_X10_ask_30 : decode prog_1_method_35_code 30 = .ok (.ireturn, 1) := by decide +kernel
theorem d_X10_ask_31 : decode prog_1_method_35_code 31 = .ok (.aload_n 0, 1) := by decide +kernel
theorem d_X10_ask_32 : decode prog_1_method_35_code 32 = .ok (.getfield 88, 3) := by decide +kernel
theorem d_X10_ask_35 : decode prog_1_method_35_code 35 = .ok (.aload_n 0, 1) := by decide +kernel
theorem d_X10_ask_36 : decode prog_1_method_35_code 36 = .ok (.getfield 14, 3) := by decide +kernel
theorem d_X10_ask_39 : decode prog_1_method_35_code 39 = .ok (.iload_n 1, 1) := by decide +kernel
theorem d_X10_ask_40 : decode prog_1_method_35_code 40 = .ok (.iload_n 2, 1) := by decide +kernel
theorem d_X10_ask_41 : decode prog_1_method_35_code 41 = .ok (.invokevirtual 304, 3) := by decide +kernel
theorem d_X10_ask_44 : decode prog_1_method_35_code 44 = .ok (.istore 4, 2) := by decide +kernel
theorem d_X10_ask_46 : decode prog_1_method_35_code 46 = .ok (.iconst (-1), 1) := by decide +kernel
theorem d_X10_ask_47 : decode prog_1_method_35_code 47 = .ok (.istore 5, 2) := by decide +kernel
theorem d_X10_ask_49 : decode prog_1_method_35_code 49 = .ok (.iconst (-1), 1) := by decide +kernel
theorem d_X10_ask_50 : decode prog_1_method_35_code 50 = .ok (.istore 6, 2) := by decide +kernel
theorem d_X10_ask_52 : decode prog_1_method_35_code 52 = .ok (.iconst 0, 1) := by decide +kernel
theorem d_X10_ask_53 : decode prog_1_method_35_code 53 = .ok (.istore 7, 2) := by decide +kernel
theorem d_X10_ask_55 : decode prog_1_method_35_code 55 = .ok (.iload 7, 2) := by decide +kernel
theorem d_X10_ask_57 : decode prog_1_method_35_code 57 = .ok (.aload_n 0, 1) := by decide +kernel
theorem d_X10_ask_58 : decode prog_1_method_35_code 58 = .ok (.getfield 14, 3) := by decide +kernel
theorem d_X10_ask_61 : decode prog_1_method_35_code 61 = .ok (.getfield 123, 3) := by decide +kernel
theorem d_X10_ask_64 : decode prog_1_method_35_code 64 = .ok (.if_icmp .ge 58, 3) := by decide +kernel
theorem d_X10_ask_67 : decode prog_1_method_35_code 67 = .ok (.iload 4, 2) := by decide +kernel
theorem d_X10_ask_69 : decode prog_1_method_35_code 69 = .ok (.ifCond .le 53, 3) := by decide +kernel
theorem d_X10_ask_72 : decode prog_1_method_35_code 72 = .ok (.aload_n 0, 1) := by decide +kernel
theorem d_X10_ask_73 : decode prog_1_method_35_code 73 = .ok (.getfield 88, 3) := by decide +kernel
theorem d_X10_ask_76 : decode prog_1_method_35_code 76 = .ok (.iload 7, 2) := by decide +kernel
theorem d_X10_ask_78 : decode prog_1_method_35_code 78 = .ok (.invokevirtual 311, 3) := by decide +kernel
theorem d_X10_ask_81 : decode prog_1_method_35_code 81 = .ok (.istore 8, 2) := by decide +kernel
theorem d_X10_ask_83 : decode prog_1_method_35_code 83 = .ok (.iload 8, 2) := by decide +kernel
theorem d_X10_ask_85 : decode prog_1_method_35_code 85 = .ok (.iload 4, 2) := by decide +kernel
theorem d_X10_ask_87 : decode prog_1_method_35_code 87 = .ok (.iload 8, 2) := by decide +kernel
theorem d_X10_ask_89 : decode prog_1_method_35_code 89 = .ok (.isub, 1) := by decide +kernel
theorem d_X10_ask_90 : decode prog_1_method_35_code 90 = .ok (.invokestatic 314, 3) := by decide +kernel
theorem d_X10_ask_93 : decode prog_1_method_35_code 93 = .ok (.istore 9, 2) := by decide +kernel
theorem d_X10_ask_95 : decode prog_1_method_35_code 95 = .ok (.iload 5, 2) := by decide +kernel
theorem d_X10_ask_97 : decode prog_1_method_35_code 97 = .ok (.iconst (-1), 1) := by decide +kernel
theorem d_X10_ask_98 : decode prog_1_method_35_code 98 = .ok (.if_icmp .eq 10, 3) := by decide +kernel
theorem d_X10_ask_101 : decode prog_1_method_35_code 101 = .ok (.iload 9, 2) := by decide +kernel
theorem d_X10_ask_103 : decode prog_1_method_35_code 103 = .ok (.iload 6, 2) := by decide +kernel
theorem d_X10_ask_105 : decode prog_1_method_35_code 105 = .ok (.if_icmp .ge 11, 3) := by decide +kernel
theorem d_X10_ask_108 : decode prog_1_method_35_code 108 = .ok (.iload 7, 2) := by decide +kernel
theorem d_X10_ask_110 : decode prog_1_method_35_code 110 = .ok (.istore 5, 2) := by decide +kernel
theorem d_X10_ask_112 : decode prog_1_method_35_code 112 = .ok (.iload 9, 2) := by decide +kernel
theorem d_X10_ask_114 : decode prog_1_method_35_code 114 = .ok (.istore 6, 2) := by decide +kernel
theorem d_X10_ask_116 : decode prog_1_method_35_code 116 = .ok (.iinc 7 1, 3) := by decide +kernel
theorem d_X10_ask_119 : decode prog_1_method_35_code 119 = .ok (.goto (-64), 3) := by decide +kernel
theorem d_X10_ask_122 : decode prog_1_method_35_code 122 = .ok (.iload_n 3, 1) := by decide +kernel
theorem d_X10_ask_123 : decode prog_1_method_35_code 123 = .ok (.ifCond .ne 8, 3) := by decide +kernel
theorem d_X10_ask_126 : decode prog_1_method_35_code 126 = .ok (.iload 5, 2) := by decide +kernel
theorem d_X10_ask_128 : decode prog_1_method_35_code 128 = .ok (.goto 5, 3) := by decide +kernel
theorem d_X10_ask_131 : decode prog_1_method_35_code 131 = .ok (.iload 6, 2) := by decide +kernel
theorem d_X10_ask_133 : decode prog_1_method_35_code 133 = .ok (.ireturn, 1) := by decide +kernel
theorem d_X10_fair_0 : decode prog_1_method_36_code 0 = .ok (.aload_n 0, 1) := by decide +kernel
theorem d_X10_fair_1 : decode prog_1_method_36_code 1 = .ok (.getfield 14, 3) := by decide +kernel
theorem d_X10_fair_4 : decode prog_1_method_36_code 4 = .ok (.iload_n 1, 1) := by decide +kernel
theorem d_X10_fair_5 : decode prog_1_method_36_code 5 = .ok (.invokevirtual 140, 3) := by decide +kernel
theorem d_X10_fair_8 : decode prog_1_method_36_code 8 = .ok (.ifCond .eq 12, 3) := by decide +kernel
theorem d_X10_fair_11 : decode prog_1_method_36_code 11 = .ok (.iload_n 2, 1) := by decide +kernel
theorem d_X10_fair_12 : decode prog_1_method_36_code 12 = .ok (.iconst 0, 1) := by decide +kernel
theorem d_X10_fair_13 : decode prog_1_method_36_code 13 = .ok (.iconst 1, 1) := by decide +kernel
theorem d_X10_fair_14 : decode prog_1_method_36_code 14 = .ok (.invokestatic 115, 3) := by decide +kernel
theorem d_X10_fair_17 : decode prog_1_method_36_code 17 = .ok (.ifCond .ne 5, 3) := by decide +kernel
theorem d_X10_fair_20 : decode prog_1_method_36_code 20 = .ok (.iconst (-1), 1) := by decide +kernel
theorem d_X10_fair_21 : decode prog_1_method_36_code 21 = .ok (.ireturn, 1) := by decide +kernel
theorem d_X10_fair_22 : decode prog_1_method_36_code 22 = .ok (.iconst (-1), 1) := by decide +kernel
theorem d_X10_fair_23 : decode prog_1_method_36_code 23 = .ok (.istore_n 3, 1) := by decide +kernel
theorem d_X10_fair_24 : decode prog_1_method_36_code 24 = .ok (.iconst 0, 1) := by decide +kernel
theorem d_X10_fair_25 : decode prog_1_method_36_code 25 = .ok (.istore 4, 2) := by decide +kernel
theorem d_X10_fair_27 : decode prog_1_method_36_code 27 = .ok (.iconst 0, 1) := by decide +kernel
theorem d_X10_fair_28 : decode prog_1_method_36_code 28 = .ok (.istore 5, 2) := by decide +kernel
theorem d_X10_fair_30 : decode prog_1_method_36_code 30 = .ok (.iload 5, 2) := by decide +kernel
theorem d_X10_fair_32 : decode prog_1_method_36_code 32 = .ok (.bipush 9, 2) := by decide +kernel
theorem d_X10_fair_34 : decode prog_1_method_36_code 34 = .ok (.if_icmp .gt 73, 3) := by decide +kernel
theorem d_X10_fair_37 : decode prog_1_method_36_code 37 = .ok (.iconst 0, 1) := by decide +kernel
theorem d_X10_fair_38 : decode prog_1_method_36_code 38 = .ok (.istore 6, 2) := by decide +kernel
theorem d_X10_fair_40 : decode prog_1_method_36_code 40 = .ok (.iconst 0, 1) := by decide +kernel
theorem d_X10_fair_41 : decode prog_1_method_36_code 41 = .ok (.istore 7, 2) := by decide +kernel
theorem d_X10_fair_43 : decode prog_1_method_36_code 43 = .ok (.iload 7, 2) := by decide +kernel
theorem d_X10_fair_45 : decode prog_1_method_36_code 45 = .ok (.aload_n 0, 1) := by decide +kernel
theorem d_X10_fair_46 : decode prog_1_method_36_code 46 = .ok (.getfield 14, 3) := by decide +kernel
theorem d_X10_fair_49 : decode prog_1_method_36_code 49 = .ok (.getfield 157, 3) := by decide +kernel
theorem d_X10_fair_52 : decode prog_1_method_36_code 52 = .ok (.if_icmp .ge 30, 3) := by decide +kernel
theorem d_X10_fair_55 : decode prog_1_method_36_code 55 = .ok (.iload 6, 2) := by decide +kernel
theorem d_X10_fair_57 : decode prog_1_method_36_code 57 = .ok (.aload_n 0, 1) := by decide +kernel
theorem d_X10_fair_58 : decode prog_1_method_36_code 58 = .ok (.getfield 14, 3) := by decide +kernel
theorem d_X10_fair_61 : decode prog_1_method_36_code 61 = .ok (.iload 7, 2) := by decide +kernel
theorem d_X10_fair_63 : decode prog_1_method_36_code 63 = .ok (.iload_n 1, 1) := by decide +kernel
theorem d_X10_fair_64 : decode prog_1_method_36_code 64 = .ok (.invokevirtual 160, 3) := by decide +kernel
theorem d_X10_fair_67 : decode prog_1_method_36_code 67 = .ok (.iload 5, 2) := by decide +kernel
theorem d_X10_fair_69 : decode prog_1_method_36_code 69 = .ok (.isub, 1) := by decide +kernel
theorem d_X10_fair_70 : decode prog_1_method_36_code 70 = .ok (.invokestatic 319, 3) := by decide +kernel
theorem d_X10_fair_73 : decode prog_1_method_36_code 73 = .ok (.iadd, 1) := by decide +kernel
theorem d_X10_fair_74 : decode prog_1_method_36_code 74 = .ok (.istore 6, 2) := by decide +kernel
theorem d_X10_fair_76 : decode prog_1_method_36_code 76 = .ok (.iinc 7 1, 3) := by decide +kernel
theorem d_X10_fair_79 : decode prog_1_method_36_code 79 = .ok (.goto (-36), 3) := by decide +kernel
theorem d_X10_fair_82 : decode prog_1_method_36_code 82 = .ok (.iload_n 3, 1) := by decide +kernel
theorem d_X10_fair_83 : decode prog_1_method_36_code 83 = .ok (.iconst (-1), 1) := by decide +kernel
theorem d_X10_fair_84 : decode prog_1_method_36_code 84 = .ok (.if_icmp .eq 10, 3) := by decide +kernel
theorem d_X10_fair_87 : decode prog_1_method_36_code 87 = .ok (.iload 6, 2) := by decide +kernel
theorem d_X10_fair_89 : decode prog_1_method_36_code 89 = .ok (.iload 4, 2) := by decide +kernel
theorem d_X10_fair_91 : decode prog_1_method_36_code 91 = .ok (.if_icmp .ge 10, 3) := by decide +kernel
theorem d_X10_fair_94 : decode prog_1_method_36_code 94 = .ok (.iload 5, 2) := by decide +kernel
theorem d_X10_fair_96 : decode prog_1_method_36_code 96 = .ok (.istore_n 3, 1) := by decide +kernel
theorem d_X10_fair_97 : decode prog_1_method_36_code 97 = .ok (.iload 6, 2) := by decide +kernel
theorem d_X10_fair_99 : decode prog_1_method_36_code 99 = .ok (.istore 4, 2) := by decide +kernel
theorem d_X10_fair_101 : decode prog_1_method_36_code 101 = .ok (.iinc 5 1, 3) := by decide +kernel
theorem d_X10_fair_104 : decode prog_1_method_36_code 104 = .ok (.goto (-74), 3) := by decide +kernel
theorem d_X10_fair_107 : decode prog_1_method_36_code 107 = .ok (.iload_n 2, 1) := by decide +kernel
theorem d_X10_fair_108 : decode prog_1_method_36_code 108 = .ok (.ifCond .ne 7, 3) := by decide +kernel
theorem d_X10_fair_111 : decode prog_1_method_36_code 111 = .ok (.iload_n 3, 1) := by decide +kernel
theorem d_X10_fair_112 : decode prog_1_method_36_code 112 = .ok (.goto 5, 3) := by decide +kernel
theorem d_X10_fair_115 : decode prog_1_method_36_code 115 = .ok (.iload 4, 2) := by decide +kernel
theorem d_X10_fair_117 : decode prog_1_method_36_code 117 = .ok (.ireturn, 1) := by decide +kernel
theorem d_X10_hear_0 : decode prog_1_method_37_code 0 = .ok (.iload_n 1, 1) := by decide +kernel
theorem d_X10_hear_1 : decode prog_1_method_37_code 1 = .ok (.iconst 0, 1) := by decide +kernel
theorem d_X10_hear_2 : decode prog_1_method_37_code 2 = .ok (.sipush 999, 3) := by decide +kernel
theorem d_X10_hear_5 : decode prog_1_method_37_code 5 = .ok (.invokestatic 115, 3) := by decide +kernel
theorem d_X10_hear_8 : decode prog_1_method_37_code 8 = .ok (.ifCond .ne 9, 3) := by decide +kernel
theorem d_X10_hear_11 : decode prog_1_method_37_code 11 = .ok (.aload_n 0, 1) := by decide +kernel
theorem d_X10_hear_12 : decode prog_1_method_37_code 12 = .ok (.iconst (-1), 1) := by decide +kernel
theorem d_X10_hear_13 : decode prog_1_method_37_code 13 = .ok (.invokevirtual 119, 3) := by decide +kernel
theorem d_X10_hear_16 : decode prog_1_method_37_code 16 = .ok (.ireturn, 1) := by decide +kernel
theorem d_X10_hear_17 : decode prog_1_method_37_code 17 = .ok (.aload_n 0, 1) := by decide +kernel
theorem d_X10_hear_18 : decode prog_1_method_37_code 18 = .ok (.getfield 14, 3) := by decide +kernel
theorem d_X10_hear_21 : decode prog_1_method_37_code 21 = .ok (.getfield 322, 3) := by decide +kernel
theorem d_X10_hear_24 : decode prog_1_method_37_code 24 = .ok (.bipush 12, 2) := by decide +kernel
theorem d_X10_hear_26 : decode prog_1_method_37_code 26 = .ok (.if_icmp .lt 10, 3) := by decide +kernel
theorem d_X10_hear_29 : decode prog_1_method_37_code 29 = .ok (.aload_n 0, 1) := by decide +kernel
theorem d_X10_hear_30 : decode prog_1_method_37_code 30 = .ok (.bipush (-5), 2) := by decide +kernel
theorem d_X10_hear_32 : decode prog_1_method_37_code 32 = .ok (.invokevirtual 119, 3) := by decide +kernel
theorem d_X10_hear_35 : decode prog_1_method_37_code 35 = .ok (.ireturn, 1) := by decide +kernel
theorem d_X10_hear_36 : decode prog_1_method_37_code 36 = .ok (.aload_n 0, 1) := by decide +kernel
theorem d_X10_hear_37 : decode prog_1_method_37_code 37 = .ok (.getfield 14, 3) := by decide +kernel
theorem d_X10_hear_40 : decode prog_1_method_37_code 40 = .ok (.getfield 325, 3) := by decide +kernel
theorem d_X10_hear_43 : decode prog_1_method_37_code 43 = .ok (.aload_n 0, 1) := by decide +kernel
theorem d_X10_hear_44 : decode prog_1_method_37_code 44 = .ok (.getfield 14, 3) := by decide +kernel
theorem d_X10_hear_47 : decode prog_1_method_37_code 47 = .ok (.getfield 322, 3) := by decide +kernel
theorem d_X10_hear_50 : decode prog_1_method_37_code 50 = .ok (.iload_n 1, 1) := by decide +kernel
theorem d_X10_hear_51 : decode prog_1_method_37_code 51 = .ok (.iastore, 1) := by decide +kernel
theorem d_X10_hear_52 : decode prog_1_method_37_code 52 = .ok (.aload_n 0, 1) := by decide +kernel
theorem d_X10_hear_53 : decode prog_1_method_37_code 53 = .ok (.getfield 14, 3) := by decide +kernel
theorem d_X10_hear_56 : decode prog_1_method_37_code 56 = .ok (.dup, 1) := by decide +kernel
theorem d_X10_hear_57 : decode prog_1_method_37_code 57 = .ok (.getfield 322, 3) := by decide +kernel
theorem d_X10_hear_60 : decode prog_1_method_37_code 60 = .ok (.iconst 1, 1) := by decide +kernel
theorem d_X10_hear_61 : decode prog_1_method_37_code 61 = .ok (.iadd, 1) := by decide +kernel
theorem d_X10_hear_62 : decode prog_1_method_37_code 62 = .ok (.putfield 322, 3) := by decide +kernel
theorem d_X10_hear_65 : decode prog_1_method_37_code 65 = .ok (.aload_n 0, 1) := by decide +kernel
theorem d_X10_hear_66 : decode prog_1_method_37_code 66 = .ok (.aload_n 0, 1) := by decide +kernel
theorem d_X10_hear_67 : decode prog_1_method_37_code 67 = .ok (.getfield 14, 3) := by decide +kernel
theorem d_X10_hear_70 : decode prog_1_method_37_code 70 = .ok (.getfield 322, 3) := by decide +kernel
theorem d_X10_hear_73 : decode prog_1_method_37_code 73 = .ok (.invokevirtual 133, 3) := by decide +kernel
theorem d_X10_hear_76 : decode prog_1_method_37_code 76 = .ok (.ireturn, 1) := by decide +kernel
theorem d_X10_forget_0 : decode prog_1_method_38_code 0 = .ok (.aload_n 0, 1) := by decide +kernel
theorem d_X10_forget_1 : decode prog_1_method_38_code 1 = .ok (.getfield 14, 3) := by decide +kernel
theorem d_X10_forget_4 : decode prog_1_method_38_code 4 = .ok (.getfield 322, 3) := by decide +kernel
theorem d_X10_forget_7 : decode prog_1_method_38_code 7 = .ok (.istore_n 1, 1) := by decide +kernel
theorem d_X10_forget_8 : decode prog_1_method_38_code 8 = .ok (.aload_n 0, 1) := by decide +kernel
theorem d_X10_forget_9 : decode prog_1_method_38_code 9 = .ok (.getfield 14, 3) := by decide +kernel
theorem d_X10_forget_12 : decode prog_1_method_38_code 12 = .ok (.iconst 0, 1) := by decide +kernel
theorem d_X10_forget_13 : decode prog_1_method_38_code 13 = .ok (.putfield 322, 3) := by decide +kernel
theorem d_X10_forget_16 : decode prog_1_method_38_code 16 = .ok (.iload_n 1, 1) := by decide +kernel
theorem d_X10_forget_17 : decode prog_1_method_38_code 17 = .ok (.ireturn, 1) := by decide +kernel
theorem d_X10_trend_0 : decode prog_1_method_39_code 0 = .ok (.aload_n 0, 1) := by decide +kernel
theorem d_X10_trend_1 : decode prog_1_method_39_code 1 = .ok (.getfield 14, 3) := by decide +kernel
theorem d_X10_trend_4 : decode prog_1_method_39_code 4 = .ok (.getfield 322, 3) := by decide +kernel
theorem d_X10_trend_7 : decode prog_1_method_39_code 7 = .ok (.iconst 2, 1) := by decide +kernel
theorem d_X10_trend_8 : decode prog_1_method_39_code 8 = .ok (.if_icmp .lt 12, 3) := by decide +kernel
theorem d_X10_trend_11 : decode prog_1_method_39_code 11 = .ok (.iload_n 1, 1) := by decide +kernel
theorem d_X10_trend_12 : decode prog_1_method_39_code 12 = .ok (.iconst 0, 1) := by decide +kernel
theorem d_X10_trend_13 : decode prog_1_method_39_code 13 = .ok (.iconst 3, 1) := by decide +kernel
theorem d_X10_trend_14 : decode prog_1_method_39_code 14 = .ok (.invokestatic 115, 3) := by decide +kernel
theorem d_X10_trend_17 : decode prog_1_method_39_code 17 = .ok (.ifCond .ne 6, 3) := by decide +kernel
theorem d_X10_trend_20 : decode prog_1_method_39_code 20 = .ok (.ldc 144, 2) := by decide +kernel
theorem d_X10_trend_22 : decode prog_1_method_39_code 22 = .ok (.ireturn, 1) := by decide +kernel
theorem d_X10_trend_23 : decode prog_1_method_39_code 23 = .ok (.iload_n 1, 1) := by decide +kernel
theorem d_X10_trend_24 : decode prog_1_method_39_code 24 = .ok (.iconst 2, 1) := by decide +kernel
theorem d_X10_trend_25 : decode prog_1_method_39_code 25 = .ok (.if_icmp .ge 17, 3) := by decide +kernel
theorem d_X10_trend_28 : decode prog_1_method_39_code 28 = .ok (.aload_n 0, 1) := by decide +kernel
theorem d_X10_trend_29 : decode prog_1_method_39_code 29 = .ok (.getfield 88, 3) := by decide +kernel
theorem d_X10_trend_32 : decode prog_1_method_39_code 32 = .ok (.aload_n 0, 1) := by decide +kernel
theorem d_X10_trend_33 : decode prog_1_method_39_code 33 = .ok (.getfield 14, 3) := by decide +kernel
theorem d_X10_trend_36 : decode prog_1_method_39_code 36 = .ok (.invokevirtual 328, 3) := by decide +kernel
theorem d_X10_trend_39 : decode prog_1_method_39_code 39 = .ok (.goto 14, 3) := by decide +kernel
theorem d_X10_trend_42 : decode prog_1_method_39_code 42 = .ok (.aload_n 0, 1) := by decide +kernel
theorem d_X10_trend_43 : decode prog_1_method_39_code 43 = .ok (.getfield 88, 3) := by decide +kernel
theorem d_X10_trend_46 : decode prog_1_method_39_code 46 = .ok (.aload_n 0, 1) := by decide +kernel
theorem d_X10_trend_47 : decode prog_1_method_39_code 47 = .ok (.getfield 14, 3) := by decide +kernel
theorem d_X10_trend_50 : decode prog_1_method_39_code 50 = .ok (.invokevirtual 332, 3) := by decide +kernel
theorem d_X10_trend_53 : decode prog_1_method_39_code 53 = .ok (.astore_n 2, 1) := by decide +kernel
theorem d_X10_trend_54 : decode prog_1_method_39_code 54 = .ok (.aload_n 2, 1) := by decide +kernel
theorem d_X10_trend_55 : decode prog_1_method_39_code 55 = .ok (.iload_n 1, 1) := by decide +kernel
theorem d_X10_trend_56 : decode prog_1_method_39_code 56 = .ok (.iconst 2, 1) := by decide +kernel
theorem d_X10_trend_57 : decode prog_1_method_39_code 57 = .ok (.irem, 1) := by decide +kernel
theorem d_X10_trend_58 : decode prog_1_method_39_code 58 = .ok (.invokevirtual 282, 3) := by decide +kernel
theorem d_X10_trend_61 : decode prog_1_method_39_code 61 = .ok (.l2i, 1) := by decide +kernel
theorem d_X10_trend_62 : decode prog_1_method_39_code 62 = .ok (.ireturn, 1) := by decide +kernel
theorem d_X10_does_0 : decode prog_1_method_40_code 0 = .ok (.aload_n 0, 1) := by decide +kernel
theorem d_X10_does_1 : decode prog_1_method_40_code 1 = .ok (.getfield 14, 3) := by decide +kernel
theorem d_X10_does_4 : decode prog_1_method_40_code 4 = .ok (.iload_n 1, 1) := by decide +kernel
theorem d_X10_does_5 : decode prog_1_method_40_code 5 = .ok (.invokevirtual 140, 3) := by decide +kernel
theorem d_X10_does_8 : decode prog_1_method_40_code 8 = .ok (.ifCond .ne 6, 3) := by decide +kernel
theorem d_X10_does_11 : decode prog_1_method_40_code 11 = .ok (.ldc 144, 2) := by decide +kernel
theorem d_X10_does_13 : decode prog_1_method_40_code 13 = .ok (.ireturn, 1) := by decide +kernel
theorem d_X10_does_14 : decode prog_1_method_40_code 14 = .ok (.aload_n 0, 1) := by decide +kernel
theorem d_X10_does_15 : decode prog_1_method_40_code 15 = .ok (.getfield 79, 3) := by decide +kernel
theorem d_X10_does_18 : decode prog_1_method_40_code 18 = .ok (.aload_n 0, 1) := by decide +kernel
theorem d_X10_does_19 : decode prog_1_method_40_code 19 = .ok (.getfield 14, 3) := by decide +kernel
theorem d_X10_does_22 : decode prog_1_method_40_code 22 = .ok (.aload_n 0, 1) := by decide +kernel
theorem d_X10_does_23 : decode prog_1_method_40_code 23 = .ok (.getfield 14, 3) := by decide +kernel
theorem d_X10_does_26 : decode prog_1_method_40_code 26 = .ok (.invokevirtual 145, 3) := by decide +kernel
theorem d_X10_does_29 : decode prog_1_method_40_code 29 = .ok (.invokevirtual 252, 3) := by decide +kernel
theorem d_X10_does_32 : decode prog_1_method_40_code 32 = .ok (.aload_n 0, 1) := by decide +kernel
theorem d_X10_does_33 : decode prog_1_method_40_code 33 = .ok (.getfield 79, 3) := by decide +kernel
theorem d_X10_does_36 : decode prog_1_method_40_code 36 = .ok (.invokevirtual 335, 3) := by decide +kernel
theorem d_X10_does_39 : decode prog_1_method_40_code 39 = .ok (.istore_n 2, 1) := by decide +kernel
theorem d_X10_does_40 : decode prog_1_method_40_code 40 = .ok (.aload_n 0, 1) := by decide +kernel
theorem d_X10_does_41 : decode prog_1_method_40_code 41 = .ok (.getfield 79, 3) := by decide +kernel
theorem d_X10_does_44 : decode prog_1_method_40_code 44 = .ok (.getfield 338, 3) := by decide +kernel
theorem d_X10_does_47 : decode prog_1_method_40_code 47 = .ok (.iload_n 1, 1) := by decide +kernel
theorem d_X10_does_48 : decode prog_1_method_40_code 48 = .ok (.iconst 0, 1) := by decide +kernel
theorem d_X10_does_49 : decode prog_1_method_40_code 49 = .ok (.iastore, 1) := by decide +kernel
theorem d_X10_does_50 : decode prog_1_method_40_code 50 = .ok (.iload_n 2, 1) := by decide +kernel
theorem d_X10_does_51 : decode prog_1_method_40_code 51 = .ok (.aload_n 0, 1) := by decide +kernel
theorem d_X10_does_52 : decode prog_1_method_40_code 52 = .ok (.getfield 79, 3) := by decide +kernel
theorem d_X10_does_55 : decode prog_1_method_40_code 55 = .ok (.invokevirtual 335, 3) := by decide +kernel
theorem d_X10_does_58 : decode prog_1_method_40_code 58 = .ok (.isub, 1) := by decide +kernel
theorem d_X10_does_59 : decode prog_1_method_40_code 59 = .ok (.ireturn, 1) := by decide +kernel
theorem d_X10_compare_0 : decode prog_1_method_41_code 0 = .ok (.iload_n 1, 1) := by decide +kernel
theorem d_X10_compare_1 : decode prog_1_method_41_code 1 = .ok (.iconst (-1), 1) := by decide +kernel
theorem d_X10_compare_2 : decode prog_1_method_41_code 2 = .ok (.if_icmp .eq 22, 3) := by decide +kernel
theorem d_X10_compare_5 : decode prog_1_method_41_code 5 = .ok (.iload_n 1, 1) := by decide +kernel
theorem d_X10_compare_6 : decode prog_1_method_41_code 6 = .ok (.iconst 0, 1) := by decide +kernel
theorem d_X10_compare_7 : decode prog_1_method_41_code 7 = .ok (.aload_n 0, 1) := by decide +kernel
theorem d_X10_compare_8 : decode prog_1_method_41_code 8 = .ok (.getfield 14, 3) := by decide +kernel
theorem d_X10_compare_11 : decode prog_1_method_41_code 11 = .ok (.getfield 185, 3) := by decide +kernel
theorem d_X10_compare_14 : decode prog_1_method_41_code 14 = .ok (.iconst 1, 1) := by decide +kernel
theorem d_X10_compare_15 : decode prog_1_method_41_code 15 = .ok (.isub, 1) := by decide +kernel
theorem d_X10_compare_16 : decode prog_1_method_41_code 16 = .ok (.invokestatic 115, 3) := by decide +kernel
theorem d_X10_compare_19 : decode prog_1_method_41_code 19 = .ok (.ifCond .ne 5, 3) := by decide +kernel
theorem d_X10_compare_22 : decode prog_1_method_41_code 22 = .ok (.iconst (-1), 1) := by decide +kernel
theorem d_X10_compare_23 : decode prog_1_method_41_code 23 = .ok (.ireturn, 1) := by decide +kernel
theorem d_X10_compare_24 : decode prog_1_method_41_code 24 = .ok (.aload_n 0, 1) := by decide +kernel
theorem d_X10_compare_25 : decode prog_1_method_41_code 25 = .ok (.getfield 79, 3) := by decide +kernel
theorem d_X10_compare_28 : decode prog_1_method_41_code 28 = .ok (.aload_n 0, 1) := by decide +kernel
theorem d_X10_compare_29 : decode prog_1_method_41_code 29 = .ok (.getfield 14, 3) := by decide +kernel
theorem d_X10_compare_32 : decode prog_1_method_41_code 32 = .ok (.aload_n 0, 1) := by decide +kernel
theorem d_X10_compare_33 : decode prog_1_method_41_code 33 = .ok (.getfield 14, 3) := by decide +kernel
theorem d_X10_compare_36 : decode prog_1_method_41_code 36 = .ok (.iload_n 1, 1) := by decide +kernel
theorem d_X10_compare_37 : decode prog_1_method_41_code 37 = .ok (.invokevirtual 341, 3) := by decide +kernel
theorem d_X10_compare_40 : decode prog_1_method_41_code 40 = .ok (.invokevirtual 252, 3) := by decide +kernel
theorem d_X10_compare_43 : decode prog_1_method_41_code 43 = .ok (.aload_n 0, 1) := by decide +kernel
theorem d_X10_compare_44 : decode prog_1_method_41_code 44 = .ok (.getfield 79, 3) := by decide +kernel
theorem d_X10_compare_47 : decode prog_1_method_41_code 47 = .ok (.invokevirtual 335, 3) := by decide +kernel
theorem d_X10_compare_50 : decode prog_1_method_41_code 50 = .ok (.ireturn, 1) := by decide +kernel
theorem d_X10_gets_0 : decode prog_1_method_42_code 0 = .ok (.aload_n 0, 1) := by decide +kernel
theorem d_X10_gets_1 : decode prog_1_method_42_code 1 = .ok (.getfield 14, 3) := by decide +kernel
theorem d_X10_gets_4 : decode prog_1_method_42_code 4 = .ok (.iload_n 1, 1) := by decide +kernel
theorem d_X10_gets_5 : decode prog_1_method_42_code 5 = .ok (.invokevirtual 140, 3) := by decide +kernel
theorem d_X10_gets_8 : decode prog_1_method_42_code 8 = .ok (.ifCond .eq 13, 3) := by decide +kernel
theorem d_X10_gets_11 : decode prog_1_method_42_code 11 = .ok (.iload_n 2, 1) := by decide +kernel
theorem d_X10_gets_12 : decode prog_1_method_42_code 12 = .ok (.iconst 0, 1) := by decide +kernel
theorem d_X10_gets_13 : decode prog_1_method_42_code 13 = .ok (.bipush 60, 2) := by decide +kernel
theorem d_X10_gets_15 : decode prog_1_method_42_code 15 = .ok (.invokestatic 115, 3) := by decide +kernel
theorem d_X10_gets_18 : decode prog_1_method_42_code 18 = .ok (.ifCond .ne 7, 3) := by decide +kernel
theorem d_X10_gets_21 : decode prog_1_method_42_code 21 = .ok (.ldc2_w 276, 3) := by decide +kernel
theorem d_X10_gets_24 : decode prog_1_method_42_code 24 = .ok (.lreturn, 1) := by decide +kernel
theorem d_X10_gets_25 : decode prog_1_method_42_code 25 = .ok (.aload_n 0, 1) := by decide +kernel
theorem d_X10_gets_26 : decode prog_1_method_42_code 26 = .ok (.getfield 88, 3) := by decide +kernel
theorem d_X10_gets_29 : decode prog_1_method_42_code 29 = .ok (.aload_n 0, 1) := by decide +kernel
theorem d_X10_gets_30 : decode prog_1_method_42_code 30 = .ok (.getfield 14, 3) := by decide +kernel
theorem d_X10_gets_33 : decode prog_1_method_42_code 33 = .ok (.iload_n 1, 1) := by decide +kernel
theorem d_X10_gets_34 : decode prog_1_method_42_code 34 = .ok (.iconst 1, 1) := by decide +kernel
theorem d_X10_gets_35 : decode prog_1_method_42_code 35 = .ok (.invokevirtual 136, 3) := by decide +kernel
theorem d_X10_gets_38 : decode prog_1_method_42_code 38 = .ok (.aload_n 0, 1) := by decide +kernel
theorem d_X10_gets_39 : decode prog_1_method_42_code 39 = .ok (.getfield 14, 3) := by decide +kernel
theorem d_X10_gets_42 : decode prog_1_method_42_code 42 = .ok (.getfield 169, 3) := by decide +kernel
theorem d_X10_gets_45 : decode prog_1_method_42_code 45 = .ok (.iconst 1, 1) := by decide +kernel
theorem d_X10_gets_46 : decode prog_1_method_42_code 46 = .ok (.iaload, 1) := by decide +kernel
theorem d_X10_gets_47 : decode prog_1_method_42_code 47 = .ok (.iload_n 2, 1) := by decide +kernel
theorem d_X10_gets_48 : decode prog_1_method_42_code 48 = .ok (.invokevirtual 345, 3) := by decide +kernel
theorem d_X10_gets_51 : decode prog_1_method_42_code 51 = .ok (.lreturn, 1) := by decide +kernel
theorem d_X10_years_0 : decode prog_1_method_43_code 0 = .ok (.iload_n 1, 1) := by decide +kernel
theorem d_X10_years_1 : decode prog_1_method_43_code 1 = .ok (.iconst 0, 1) := by decide +kernel
theorem d_X10_years_2 : decode prog_1_method_43_code 2 = .ok (.ldc_w 349, 3) := by decide +kernel
theorem d_X10_years_5 : decode prog_1_method_43_code 5 = .ok (.invokestatic 115, 3) := by decide +kernel
theorem d_X10_years_8 : decode prog_1_method_43_code 8 = .ok (.ifCond .eq 13, 3) := by decide +kernel
theorem d_X10_years_11 : decode prog_1_method_43_code 11 = .ok (.iload_n 2, 1) := by decide +kernel
theorem d_X10_years_12 : decode prog_1_method_43_code 12 = .ok (.iconst 1, 1) := by decide +kernel
theorem d_X10_years_13 : decode prog_1_method_43_code 13 = .ok (.bipush 60, 2) := by decide +kernel
theorem d_X10_years_15 : decode prog_1_method_43_code 15 = .ok (.invokestatic 115, 3) := by decide +kernel
theorem d_X10_years_18 : decode prog_1_method_43_code 18 = .ok (.ifCond .ne 9, 3) := by decide +kernel
theorem d_X10_years_21 : decode prog_1_method_43_code 21 = .ok (.aload_n 0, 1) := by decide +kernel
theorem d_X10_years_22 : decode prog_1_method_43_code 22 = .ok (.iconst (-1), 1) := by decide +kernel
theorem d_X10_years_23 : decode prog_1_method_43_code 23 = .ok (.invokevirtual 119, 3) := by decide +kernel
theorem d_X10_years_26 : decode prog_1_method_43_code 26 = .ok (.ireturn, 1) := by decide +kernel
theorem d_X10_years_27 : decode prog_1_method_43_code 27 = .ok (.aload_n 0, 1) := by decide +kernel
theorem d_X10_years_28 : decode prog_1_method_43_code 28 = .ok (.getfield 14, 3) := by decide +kernel
theorem d_X10_years_31 : decode prog_1_method_43_code 31 = .ok (.getfield 123, 3) := by decide +kernel
theorem d_X10_years_34 : decode prog_1_method_43_code 34 = .ok (.ifCond .ne 10, 3) := by decide +kernel
theorem d_X10_years_37 : decode prog_1_method_43_code 37 = .ok (.aload_n 0, 1) := by decide +kernel
theorem d_X10_years_38 : decode prog_1_method_43_code 38 = .ok (.bipush (-3), 2) := by decide +kernel
theorem d_X10_years_40 : decode prog_1_method_43_code 40 = .ok (.invokevirtual 119, 3) := by decide +kernel
theorem d_X10_years_43 : decode prog_1_method_43_code 43 = .ok (.ireturn, 1) := by decide +kernel
theorem d_X10_years_44 : decode prog_1_method_43_code 44 = .ok (.aload_n 0, 1) := by decide +kernel
theorem d_X10_years_45 : decode prog_1_method_43_code 45 = .ok (.getfield 21, 3) := by decide +kernel
theorem d_X10_years_48 : decode prog_1_method_43_code 48 = .ok (.aload_n 0, 1) := by decide +kernel
theorem d_X10_years_49 : decode prog_1_method_43_code 49 = .ok (.getfield 14, 3) := by decide +kernel
theorem d_X10_years_52 : decode prog_1_method_43_code 52 = .ok (.invokevirtual 204, 3) := by decide +kernel
theorem d_X10_years_55 : decode prog_1_method_43_code 55 = .ok (.iconst 0, 1) := by decide +kernel
theorem d_X10_years_56 : decode prog_1_method_43_code 56 = .ok (.istore_n 3, 1) := by decide +kernel
theorem d_X10_years_57 : decode prog_1_method_43_code 57 = .ok (.iload_n 1, 1) := by decide +kernel
theorem d_X10_years_58 : decode prog_1_method_43_code 58 = .ok (.istore 4, 2) := by decide +kernel
theorem d_X10_years_60 : decode prog_1_method_43_code 60 = .ok (.iconst 0, 1) := by decide +kernel
theorem d_X10_years_61 : decode prog_1_method_43_code 61 = .ok (.istore 5, 2) := by decide +kernel
theorem d_X10_years_63 : decode prog_1_method_43_code 63 = .ok (.iload 5, 2) := by decide +kernel
theorem d_X10_years_65 : decode prog_1_method_43_code 65 = .ok (.iload_n 2, 1) := by decide +kernel
theorem d_X10_years_66 : decode prog_1_method_43_code 66 = .ok (.if_icmp .ge 110, 3) := by decide +kernel
theorem d_X10_years_69 : decode prog_1_method_43_code 69 = .ok (.aload_n 0, 1) := by decide +kernel
theorem d_X10_years_70 : decode prog_1_method_43_code 70 = .ok (.getfield 21, 3) := by decide +kernel
theorem d_X10_years_73 : decode prog_1_method_43_code 73 = .ok (.getfield 169, 3) := by decide +kernel
theorem d_X10_years_76 : decode prog_1_method_43_code 76 = .ok (.iconst 0, 1) := by decide +kernel
theorem d_X10_years_77 : decode prog_1_method_43_code 77 = .ok (.iaload, 1) := by decide +kernel
theorem d_X10_years_78 : decode prog_1_method_43_code 78 = .ok (.sipush 999, 3) := by decide +kernel
theorem d_X10_years_81 : decode prog_1_method_43_code 81 = .ok (.if_icmp .ge 95, 3) := by decide +kernel
theorem d_X10_years_84 : decode prog_1_method_43_code 84 = .ok (.iload 4, 2) := by decide +kernel
theorem d_X10_years_86 : decode prog_1_method_43_code 86 = .ok (.invokestatic 350, 3) := by decide +kernel
theorem d_X10_years_89 : decode prog_1_method_43_code 89 = .ok (.istore 4, 2) := by decide +kernel
theorem d_X10_years_91 : decode prog_1_method_43_code 91 = .ok (.iload 4, 2) := by decide +kernel
theorem d_X10_years_93 : decode prog_1_method_43_code 93 = .ok (.iconst 1, 1) := by decide +kernel
theorem d_X10_years_94 : decode prog_1_method_43_code 94 = .ok (.aload_n 0, 1) := by decide +kernel
theorem d_X10_years_95 : decode prog_1_method_43_code 95 = .ok (.getfield 21, 3) := by decide +kernel
theorem d_X10_years_98 : decode prog_1_method_43_code 98 = .ok (.getfield 123, 3) := by decide +kernel
theorem d_X10_years_101 : decode prog_1_method_43_code 101 = .ok (.invokestatic 314, 3) := by decide +kernel
theorem d_X10_years_104 : decode prog_1_method_43_code 104 = .ok (.invokestatic 353, 3) := by decide +kernel
theorem d_X10_years_107 : decode prog_1_method_43_code 107 = .ok (.istore 6, 2) := by decide +kernel
theorem d_X10_years_109 : decode prog_1_method_43_code 109 = .ok (.iload 4, 2) := by decide +kernel
theorem d_X10_years_111 : decode prog_1_method_43_code 111 = .ok (.invokestatic 350, 3) := by decide +kernel
theorem d_X10_years_114 : decode prog_1_method_43_code 114 = .ok (.istore 4, 2) := by decide +kernel
theorem d_X10_years_116 : decode prog_1_method_43_code 116 = .ok (.aload_n 0, 1) := by decide +kernel
theorem d_X10_years_117 : decode prog_1_method_43_code 117 = .ok (.getfield 21, 3) := by decide +kernel
theorem d_X10_years_120 : decode prog_1_method_43_code 120 = .ok (.iload 6, 2) := by decide +kernel
theorem d_X10_years_122 : decode prog_1_method_43_code 122 = .ok (.iload 4, 2) := by decide +kernel
theorem d_X10_years_124 : decode prog_1_method_43_code 124 = .ok (.iconst 4, 1) := by decide +kernel
theorem d_X10_years_125 : decode prog_1_method_43_code 125 = .ok (.irem, 1) := by decide +kernel
theorem d_X10_years_126 : decode prog_1_method_43_code 126 = .ok (.invokevirtual 356, 3) := by decide +kernel
theorem d_X10_years_129 : decode prog_1_method_43_code 129 = .ok (.aload_n 0, 1) := by decide +kernel
theorem d_X10_years_130 : decode prog_1_method_43_code 130 = .ok (.getfield 70, 3) := by decide +kernel
theorem d_X10_years_133 : decode prog_1_method_43_code 133 = .ok (.aload_n 0, 1) := by decide +kernel
theorem d_X10_years_134 : decode prog_1_method_43_code 134 = .ok (.getfield 21, 3) := by decide +kernel
theorem d_X10_years_137 : decode prog_1_method_43_code 137 = .ok (.invokevirtual 263, 3) := by decide +kernel
theorem d_X10_years_140 : decode prog_1_method_43_code 140 = .ok (.aload_n 0, 1) := by decide +kernel
theorem d_X10_years_141 : decode prog_1_method_43_code 141 = .ok (.getfield 79, 3) := by decide +kernel
theorem d_X10_years_144 : decode prog_1_method_43_code 144 = .ok (.aload_n 0, 1) := by decide +kernel
theorem d_X10_years_145 : decode prog_1_method_43_code 145 = .ok (.getfield 21, 3) := by decide +kernel
theorem d_X10_years_148 : decode prog_1_method_43_code 148 = .ok (.aload_n 0, 1) := by decide +kernel
theorem d_X10_years_149 : decode prog_1_method_43_code 149 = .ok (.getfield 21, 3) := by decide +kernel
theorem d_X10_years_152 : decode prog_1_method_43_code 152 = .ok (.invokevirtual 145, 3) := by decide +kernel
theorem d_X10_years_155 : decode prog_1_method_43_code 155 = .ok (.invokevirtual 252, 3) := by decide +kernel
theorem d_X10_years_158 : decode prog_1_method_43_code 158 = .ok (.iload_n 3, 1) := by decide +kernel
theorem d_X10_years_159 : decode prog_1_method_43_code 159 = .ok (.aload_n 0, 1) := by decide +kernel
theorem d_X10_years_160 : decode prog_1_method_43_code 160 = .ok (.getfield 79, 3) := by decide +kernel
theorem d_X10_years_163 : decode prog_1_method_43_code 163 = .ok (.invokevirtual 256, 3) := by decide +kernel
theorem d_X10_years_166 : decode prog_1_method_43_code 166 = .ok (.invokestatic 314, 3) := by decide +kernel
theorem d_X10_years_169 : decode prog_1_method_43_code 169 = .ok (.istore_n 3, 1) := by decide +kernel
theorem d_X10_years_170 : decode prog_1_method_43_code 170 = .ok (.iinc 5 1, 3) := by decide +kernel
theorem d_X10_years_173 : decode prog_1_method_43_code 173 = .ok (.goto (-110), 3) := by decide +kernel
theorem d_X10_years_176 : decode prog_1_method_43_code 176 = .ok (.aload_n 0, 1) := by decide +kernel
theorem d_X10_years_177 : decode prog_1_method_43_code 177 = .ok (.iload_n 3, 1) := by decide +kernel
theorem d_X10_years_178 : decode prog_1_method_43_code 178 = .ok (.invokevirtual 133, 3) := by decide +kernel
theorem d_X10_years_181 : decode prog_1_method_43_code 181 = .ok (.ireturn, 1) := by decide +kernel
theorem d_X10_nextDraw_0 : decode prog_1_method_44_code 0 = .ok (.iload_n 0, 1) := by decide +kernel
theorem d_X10_nextDraw_1 : decode prog_1_method_44_code 1 = .ok (.i2l, 1) := by decide +kernel
theorem d_X10_nextDraw_2 : decode prog_1_method_44_code 2 = .ok (.ldc2_w 360, 3) := by decide +kernel
theorem d_X10_nextDraw_5 : decode prog_1_method_44_code 5 = .ok (.lmul, 1) := by decide +kernel
theorem d_X10_nextDraw_6 : decode prog_1_method_44_code 6 = .ok (.ldc2_w 362, 3) := by decide +kernel
theorem d_X10_nextDraw_9 : decode prog_1_method_44_code 9 = .ok (.ladd, 1) := by decide +kernel
theorem d_X10_nextDraw_10 : decode prog_1_method_44_code 10 = .ok (.ldc2_w 364, 3) := by decide +kernel
theorem d_X10_nextDraw_13 : decode prog_1_method_44_code 13 = .ok (.lrem, 1) := by decide +kernel
theorem d_X10_nextDraw_14 : decode prog_1_method_44_code 14 = .ok (.l2i, 1) := by decide +kernel
theorem d_X10_nextDraw_15 : decode prog_1_method_44_code 15 = .ok (.ireturn, 1) := by decide +kernel
theorem d_X10_drawn_0 : decode prog_1_method_45_code 0 = .ok (.iload_n 2, 1) := by decide +kernel
theorem d_X10_drawn_1 : decode prog_1_method_45_code 1 = .ok (.iconst 0, 1) := by decide +kernel
theorem d_X10_drawn_2 : decode prog_1_method_45_code 2 = .ok (.iconst 1, 1) := by decide +kernel
theorem d_X10_drawn_3 : decode prog_1_method_45_code 3 = .ok (.invokestatic 115, 3) := by decide +kernel
theorem d_X10_drawn_6 : decode prog_1_method_45_code 6 = .ok (.ifCond .ne 5, 3) := by decide +kernel
theorem d_X10_drawn_9 : decode prog_1_method_45_code 9 = .ok (.iconst (-1), 1) := by decide +kernel
theorem d_X10_drawn_10 : decode prog_1_method_45_code 10 = .ok (.ireturn, 1) := by decide +kernel
theorem d_X10_drawn_11 : decode prog_1_method_45_code 11 = .ok (.aload_n 0, 1) := by decide +kernel
theorem d_X10_drawn_12 : decode prog_1_method_45_code 12 = .ok (.getfield 21, 3) := by decide +kernel
theorem d_X10_drawn_15 : decode prog_1_method_45_code 15 = .ok (.iload_n 1, 1) := by decide +kernel
theorem d_X10_drawn_16 : decode prog_1_method_45_code 16 = .ok (.iload_n 2, 1) := by decide +kernel
theorem d_X10_drawn_17 : decode prog_1_method_45_code 17 = .ok (.ifCond .ne 7, 3) := by decide +kernel
theorem d_X10_drawn_20 : decode prog_1_method_45_code 20 = .ok (.iconst 1, 1) := by decide +kernel
theorem d_X10_drawn_21 : decode prog_1_method_45_code 21 = .ok (.goto 4, 3) := by decide +kernel
theorem d_X10_drawn_24 : decode prog_1_method_45_code 24 = .ok (.iconst 5, 1) := by decide +kernel
theorem d_X10_drawn_25 : decode prog_1_method_45_code 25 = .ok (.invokevirtual 136, 3) := by decide +kernel
theorem d_X10_drawn_28 : decode prog_1_method_45_code 28 = .ok (.ireturn, 1) := by decide +kernel
theorem d_X10_image_0 : decode prog_1_method_46_code 0 = .ok (.iload_n 1, 1) := by decide +kernel
theorem d_X10_image_1 : decode prog_1_method_46_code 1 = .ok (.iconst 0, 1) := by decide +kernel
theorem d_X10_image_2 : decode prog_1_method_46_code 2 = .ok (.iconst 1, 1) := by decide +kernel
theorem d_X10_image_3 : decode prog_1_method_46_code 3 = .ok (.invokestatic 115, 3) := by decide +kernel
theorem d_X10_image_6 : decode prog_1_method_46_code 6 = .ok (.ifCond .ne 9, 3) := by decide +kernel
theorem d_X10_image_9 : decode prog_1_method_46_code 9 = .ok (.aload_n 0, 1) := by decide +kernel
theorem d_X10_image_10 : decode prog_1_method_46_code 10 = .ok (.iconst (-1), 1) := by decide +kernel
theorem d_X10_image_11 : decode prog_1_method_46_code 11 = .ok (.invokevirtual 119, 3) := by decide +kernel
theorem d_X10_image_14 : decode prog_1_method_46_code 14 = .ok (.ireturn, 1) := by decide +kernel
theorem d_X10_image_15 : decode prog_1_method_46_code 15 = .ok (.aload_n 0, 1) := by decide +kernel
theorem d_X10_image_16 : decode prog_1_method_46_code 16 = .ok (.getfield 24, 3) := by decide +kernel
theorem d_X10_image_19 : decode prog_1_method_46_code 19 = .ok (.iload_n 1, 1) := by decide +kernel
theorem d_X10_image_20 : decode prog_1_method_46_code 20 = .ok (.aaload, 1) := by decide +kernel
theorem d_X10_image_21 : decode prog_1_method_46_code 21 = .ok (.aload_n 0, 1) := by decide +kernel
theorem d_X10_image_22 : decode prog_1_method_46_code 22 = .ok (.getfield 14, 3) := by decide +kernel
theorem d_X10_image_25 : decode prog_1_method_46_code 25 = .ok (.invokevirtual 204, 3) := by decide +kernel
theorem d_X10_image_28 : decode prog_1_method_46_code 28 = .ok (.aload_n 0, 1) := by decide +kernel
theorem d_X10_image_29 : decode prog_1_method_46_code 29 = .ok (.getfield 28, 3) := by decide +kernel
theorem d_X10_image_32 : decode prog_1_method_46_code 32 = .ok (.iload_n 1, 1) := by decide +kernel
theorem d_X10_image_33 : decode prog_1_method_46_code 33 = .ok (.iconst 1, 1) := by decide +kernel
theorem d_X10_image_34 : decode prog_1_method_46_code 34 = .ok (.iastore, 1) := by decide +kernel
theorem d_X10_image_35 : decode prog_1_method_46_code 35 = .ok (.aload_n 0, 1) := by decide +kernel
theorem d_X10_image_36 : decode prog_1_method_46_code 36 = .ok (.iconst 0, 1) := by decide +kernel
theorem d_X10_image_37 : decode prog_1_method_46_code 37 = .ok (.invokevirtual 133, 3) := by decide +kernel
theorem d_X10_image_40 : decode prog_1_method_46_code 40 = .ok (.ireturn, 1) := by decide +kernel
theorem d_X10_back_0 : decode prog_1_method_47_code 0 = .ok (.iload_n 1, 1) := by decide +kernel
theorem d_X10_back_1 : decode prog_1_method_47_code 1 = .ok (.iconst 0, 1) := by decide +kernel
theorem d_X10_back_2 : decode prog_1_method_47_code 2 = .ok (.iconst 1, 1) := by decide +kernel
theorem d_X10_back_3 : decode prog_1_method_47_code 3 = .ok (.invokestatic 115, 3) := by decide +kernel
theorem d_X10_back_6 : decode prog_1_method_47_code 6 = .ok (.ifCond .ne 9, 3) := by decide +kernel
theorem d_X10_back_9 : decode prog_1_method_47_code 9 = .ok (.aload_n 0, 1) := by decide +kernel
theorem d_X10_back_10 : decode prog_1_method_47_code 10 = .ok (.iconst (-1), 1) := by decide +kernel
theorem d_X10_back_11 : decode prog_1_method_47_code 11 = .ok (.invokevirtual 119, 3) := by decide +kernel
theorem d_X10_back_14 : decode prog_1_method_47_code 14 = .ok (.ireturn, 1) := by decide +kernel
theorem d_X10_back_15 : decode prog_1_method_47_code 15 = .ok (.aload_n 0, 1) := by decide +kernel
theorem d_X10_back_16 : decode prog_1_method_47_code 16 = .ok (.getfield 28, 3) := by decide +kernel
theorem d_X10_back_19 : decode prog_1_method_47_code 19 = .ok (.iload_n 1, 1) := by decide +kernel
theorem d_X10_back_20 : decode prog_1_method_47_code 20 = .ok (.iaload, 1) := by decide +kernel
theorem d_X10_back_21 : decode prog_1_method_47_code 21 = .ok (.ifCond .ne 10, 3) := by decide +kernel
theorem d_X10_back_24 : decode prog_1_method_47_code 24 = .ok (.aload_n 0, 1) := by decide +kernel
theorem d_X10_back_25 : decode prog_1_method_47_code 25 = .ok (.bipush (-2), 2) := by decide +kernel
theorem d_X10_back_27 : decode prog_1_method_47_code 27 = .ok (.invokevirtual 119, 3) := by decide +kernel
theorem d_X10_back_30 : decode prog_1_method_47_code 30 = .ok (.ireturn, 1) := by decide +kernel
theorem d_X10_back_31 : decode prog_1_method_47_code 31 = .ok (.aload_n 0, 1) := by decide +kernel
theorem d_X10_back_32 : decode prog_1_method_47_code 32 = .ok (.getfield 14, 3) := by decide +kernel
theorem d_X10_back_35 : decode prog_1_method_47_code 35 = .ok (.aload_n 0, 1) := by decide +kernel
theorem d_X10_back_36 : decode prog_1_method_47_code 36 = .ok (.getfield 24, 3) := by decide +kernel
theorem d_X10_back_39 : decode prog_1_method_47_code 39 = .ok (.iload_n 1, 1) := by decide +kernel
theorem d_X10_back_40 : decode prog_1_method_47_code 40 = .ok (.aaload, 1) := by decide +kernel
theorem d_X10_back_41 : decode prog_1_method_47_code 41 = .ok (.invokevirtual 204, 3) := by decide +kernel
theorem d_X10_back_44 : decode prog_1_method_47_code 44 = .ok (.aload_n 0, 1) := by decide +kernel
theorem d_X10_back_45 : decode prog_1_method_47_code 45 = .ok (.getfield 35, 3) := by decide +kernel
theorem d_X10_back_48 : decode prog_1_method_47_code 48 = .ok (.invokevirtual 126, 3) := by decide +kernel
theorem d_X10_back_51 : decode prog_1_method_47_code 51 = .ok (.aload_n 0, 1) := by decide +kernel
theorem d_X10_back_52 : decode prog_1_method_47_code 52 = .ok (.iconst 0, 1) := by decide +kernel
theorem d_X10_back_53 : decode prog_1_method_47_code 53 = .ok (.invokevirtual 133, 3) := by decide +kernel
theorem d_X10_back_56 : decode prog_1_method_47_code 56 = .ok (.ireturn, 1) := by decide +kernel
theorem d_X10_count_0 : decode prog_1_method_48_code 0 = .ok (.iload_n 1, 1) := by decide +kernel
theorem d_X10_count_1 : decode prog_1_method_48_code 1 = .ok (.tableswitch 167 0 12 #[67, 75, 83, 91, 99, 107, 115, 123, 130, 137, 144, 151, 159], 67) := by decide +kernel
theorem d_X10_count_68 : decode prog_1_method_48_code 68 = .ok (.aload_n 0, 1) := by decide +kernel
theorem d_X10_count_69 : decode prog_1_method_48_code 69 = .ok (.getfield 14, 3) := by decide +kernel
theorem d_X10_count_72 : decode prog_1_method_48_code 72 = .ok (.getfield 123, 3) := by decide +kernel
theorem d_X10_count_75 : decode prog_1_method_48_code 75 = .ok (.ireturn, 1) := by decide +kernel
theorem d_X10_count_76 : decode prog_1_method_48_code 76 = .ok (.aload_n 0, 1) := by decide +kernel
theorem d_X10_count_77 : decode prog_1_method_48_code 77 = .ok (.getfield 14, 3) := by decide +kernel
theorem d_X10_count_80 : decode prog_1_method_48_code 80 = .ok (.invokevirtual 245, 3) := by decide +kernel
theorem d_X10_count_83 : decode prog_1_method_48_code 83 = .ok (.ireturn, 1) := by decide +kernel
theorem d_X10_count_84 : decode prog_1_method_48_code 84 = .ok (.aload_n 0, 1) := by decide +kernel
theorem d_X10_count_85 : decode prog_1_method_48_code 85 = .ok (.getfield 14, 3) := by decide +kernel
theorem d_X10_count_88 : decode prog_1_method_48_code 88 = .ok (.getfield 157, 3) := by decide +kernel
theorem d_X10_count_91 : decode prog_1_method_48_code 91 = .ok (.ireturn, 1) := by decide +kernel
theorem d_X10_count_92 : decode prog_1_method_48_code 92 = .ok (.aload_n 0, 1) := by decide +kernel
theorem d_X10_count_93 : decode prog_1_method_48_code 93 = .ok (.getfield 14, 3) := by decide +kernel
theorem d_X10_count_96 : decode prog_1_method_48_code 96 = .ok (.getfield 322, 3) := by decide +kernel
theorem d_X10_count_99 : decode prog_1_method_48_code 99 = .ok (.ireturn, 1) := by decide +kernel
theorem d_X10_count_100 : decode prog_1_method_48_code 100 = .ok (.aload_n 0, 1) := by decide +kernel
theorem d_X10_count_101 : decode prog_1_method_48_code 101 = .ok (.getfield 14, 3) := by decide +kernel
theorem d_X10_count_104 : decode prog_1_method_48_code 104 = .ok (.getfield 185, 3) := by decide +kernel
theorem d_X10_count_107 : decode prog_1_method_48_code 107 = .ok (.ireturn, 1) := by decide +kernel
theorem d_X10_count_108 : decode prog_1_method_48_code 108 = .ok (.aload_n 0, 1) := by decide +kernel
theorem d_X10_count_109 : decode prog_1_method_48_code 109 = .ok (.getfield 35, 3) := by decide +kernel
theorem d_X10_count_112 : decode prog_1_method_48_code 112 = .ok (.getfield 269, 3) := by decide +kernel
theorem d_X10_count_115 : decode prog_1_method_48_code 115 = .ok (.ireturn, 1) := by decide +kernel
theorem d_X10_count_116 : decode prog_1_method_48_code 116 = .ok (.aload_n 0, 1) := by decide +kernel
theorem d_X10_count_117 : decode prog_1_method_48_code 117 = .ok (.getfield 45, 3) := by decide +kernel
theorem d_X10_count_120 : decode prog_1_method_48_code 120 = .ok (.getfield 172, 3) := by decide +kernel
theorem d_X10_count_123 : decode prog_1_method_48_code 123 = .ok (.ireturn, 1) := by decide +kernel
theorem d_X10_count_124 : decode prog_1_method_48_code 124 = .ok (.aload_n 0, 1) := by decide +kernel
theorem d_X10_count_125 : decode prog_1_method_48_code 125 = .ok (.getfield 95, 3) := by decide +kernel
theorem d_X10_count_128 : decode prog_1_method_48_code 128 = .ok (.iconst 1, 1) := by decide +kernel
theorem d_X10_count_129 : decode prog_1_method_48_code 129 = .ok (.iaload, 1) := by decide +kernel
theorem d_X10_count_130 : decode prog_1_method_48_code 130 = .ok (.ireturn, 1) := by decide +kernel
theorem d_X10_count_131 : decode prog_1_method_48_code 131 = .ok (.aload_n 0, 1) := by decide +kernel
theorem d_X10_count_132 : decode prog_1_method_48_code 132 = .ok (.getfield 95, 3) := by decide +kernel
theorem d_X10_count_135 : decode prog_1_method_48_code 135 = .ok (.iconst 2, 1) := by decide +kernel
theorem d_X10_count_136 : decode prog_1_method_48_code 136 = .ok (.iaload, 1) := by decide +kernel
theorem d_X10_count_137 : decode prog_1_method_48_code 137 = .ok (.ireturn, 1) := by decide +kernel
theorem d_X10_count_138 : decode prog_1_method_48_code 138 = .ok (.aload_n 0, 1) := by decide +kernel
theorem d_X10_count_139 : decode prog_1_method_48_code 139 = .ok (.getfield 95, 3) := by decide +kernel
theorem d_X10_count_142 : decode prog_1_method_48_code 142 = .ok (.iconst 3, 1) := by decide +kernel
theorem d_X10_count_143 : decode prog_1_method_48_code 143 = .ok (.iaload, 1) := by decide +kernel
theorem d_X10_count_144 : decode prog_1_method_48_code 144 = .ok (.ireturn, 1) := by decide +kernel
theorem d_X10_count_145 : decode prog_1_method_48_code 145 = .ok (.aload_n 0, 1) := by decide +kernel
theorem d_X10_count_146 : decode prog_1_method_48_code 146 = .ok (.getfield 95, 3) := by decide +kernel
theorem d_X10_count_149 : decode prog_1_method_48_code 149 = .ok (.iconst 5, 1) := by decide +kernel
theorem d_X10_count_150 : decode prog_1_method_48_code 150 = .ok (.iaload, 1) := by decide +kernel
theorem d_X10_count_151 : decode prog_1_method_48_code 151 = .ok (.ireturn, 1) := by decide +kernel
theorem d_X10_count_152 : decode prog_1_method_48_code 152 = .ok (.aload_n 0, 1) := by decide +kernel
theorem d_X10_count_153 : decode prog_1_method_48_code 153 = .ok (.getfield 95, 3) := by decide +kernel
theorem d_X10_count_156 : decode prog_1_method_48_code 156 = .ok (.bipush 6, 2) := by decide +kernel
theorem d_X10_count_158 : decode prog_1_method_48_code 158 = .ok (.iaload, 1) := by decide +kernel
theorem d_X10_count_159 : decode prog_1_method_48_code 159 = .ok (.ireturn, 1) := by decide +kernel
theorem d_X10_count_160 : decode prog_1_method_48_code 160 = .ok (.aload_n 0, 1) := by decide +kernel
theorem d_X10_count_161 : decode prog_1_method_48_code 161 = .ok (.getfield 14, 3) := by decide +kernel
theorem d_X10_count_164 : decode prog_1_method_48_code 164 = .ok (.getfield 221, 3) := by decide +kernel
theorem d_X10_count_167 : decode prog_1_method_48_code 167 = .ok (.ireturn, 1) := by decide +kernel
theorem d_X10_count_168 : decode prog_1_method_48_code 168 = .ok (.iload_n 1, 1) := by decide +kernel
theorem d_X10_count_169 : decode prog_1_method_48_code 169 = .ok (.bipush 13, 2) := by decide +kernel
theorem d_X10_count_171 : decode prog_1_method_48_code 171 = .ok (.bipush 15, 2) := by decide +kernel
theorem d_X10_count_173 : decode prog_1_method_48_code 173 = .ok (.invokestatic 115, 3) := by decide +kernel
theorem d_X10_count_176 : decode prog_1_method_48_code 176 = .ok (.ifCond .eq 18, 3) := by decide +kernel
theorem d_X10_count_179 : decode prog_1_method_48_code 179 = .ok (.aload_n 0, 1) := by decide +kernel
theorem d_X10_count_180 : decode prog_1_method_48_code 180 = .ok (.getfield 14, 3) := by decide +kernel
theorem d_X10_count_183 : decode prog_1_method_48_code 183 = .ok (.getfield 169, 3) := by decide +kernel
theorem d_X10_count_186 : decode prog_1_method_48_code 186 = .ok (.iload_n 1, 1) := by decide +kernel
theorem d_X10_count_187 : decode prog_1_method_48_code 187 = .ok (.bipush 13, 2) := by decide +kernel
theorem d_X10_count_189 : decode prog_1_method_48_code 189 = .ok (.isub, 1) := by decide +kernel
theorem d_X10_count_190 : decode prog_1_method_48_code 190 = .ok (.iaload, 1) := by decide +kernel
theorem d_X10_count_191 : decode prog_1_method_48_code 191 = .ok (.goto 4, 3) := by decide +kernel
theorem d_X10_count_194 : decode prog_1_method_48_code 194 = .ok (.iconst (-1), 1) := by decide +kernel
theorem d_X10_count_195 : decode prog_1_method_48_code 195 = .ok (.ireturn, 1) := by decide +kernel
theorem d_X10_status_0 : decode prog_1_method_49_code 0 = .ok (.aload_n 0, 1) := by decide +kernel
theorem d_X10_status_1 : decode prog_1_method_49_code 1 = .ok (.getfield 108, 3) := by decide +kernel
theorem d_X10_status_4 : decode prog_1_method_49_code 4 = .ok (.ireturn, 1) := by decide +kernel
theorem d_X10_refuse_0 : decode prog_1_method_50_code 0 = .ok (.aload_n 0, 1) := by decide +kernel
theorem d_X10_refuse_1 : decode prog_1_method_50_code 1 = .ok (.iload_n 1, 1) := by decide +kernel
theorem d_X10_refuse_2 : decode prog_1_method_50_code 2 = .ok (.putfield 108, 3) := by decide +kernel
theorem d_X10_refuse_5 : decode prog_1_method_50_code 5 = .ok (.iload_n 1, 1) := by decide +kernel
theorem d_X10_refuse_6 : decode prog_1_method_50_code 6 = .ok (.ineg, 1) := by decide +kernel
theorem d_X10_refuse_7 : decode prog_1_method_50_code 7 = .ok (.iconst 0, 1) := by decide +kernel
theorem d_X10_refuse_8 : decode prog_1_method_50_code 8 = .ok (.aload_n 0, 1) := by decide +kernel
theorem d_X10_refuse_9 : decode prog_1_method_50_code 9 = .ok (.getfield 95, 3) := by decide +kernel
theorem d_X10_refuse_12 : decode prog_1_method_50_code 12 = .ok (.arraylength, 1) := by decide +kernel
theorem d_X10_refuse_13 : decode prog_1_method_50_code 13 = .ok (.iconst 1, 1) := by decide +kernel
theorem d_X10_refuse_14 : decode prog_1_method_50_code 14 = .ok (.isub, 1) := by decide +kernel
theorem d_X10_refuse_15 : decode prog_1_method_50_code 15 = .ok (.invokestatic 115, 3) := by decide +kernel
theorem d_X10_refuse_18 : decode prog_1_method_50_code 18 = .ok (.ifCond .eq 14, 3) := by decide +kernel
theorem d_X10_refuse_21 : decode prog_1_method_50_code 21 = .ok (.aload_n 0, 1) := by decide +kernel
theorem d_X10_refuse_22 : decode prog_1_method_50_code 22 = .ok (.getfield 95, 3) := by decide +kernel
theorem d_X10_refuse_25 : decode prog_1_method_50_code 25 = .ok (.iload_n 1, 1) := by decide +kernel
theorem d_X10_refuse_26 : decode prog_1_method_50_code 26 = .ok (.ineg, 1) := by decide +kernel
theorem d_X10_refuse_27 : decode prog_1_method_50_code 27 = .ok (.dup2, 1) := by decide +kernel
theorem d_X10_refuse_28 : decode prog_1_method_50_code 28 = .ok (.iaload, 1) := by decide +kernel
theorem d_X10_refuse_29 : decode prog_1_method_50_code 29 = .ok (.iconst 1, 1) := by decide +kernel
theorem d_X10_refuse_30 : decode prog_1_method_50_code 30 = .ok (.iadd, 1) := by decide +kernel
theorem d_X10_refuse_31 : decode prog_1_method_50_code 31 = .ok (.iastore, 1) := by decide +kernel
theorem d_X10_refuse_32 : decode prog_1_method_50_code 32 = .ok (.iload_n 1, 1) := by decide +kernel
theorem d_X10_refuse_33 : decode prog_1_method_50_code 33 = .ok (.ireturn, 1) := by decide +kernel
theorem d_X10_grant_0 : decode prog_1_method_51_code 0 = .ok (.aload_n 0, 1) := by decide +kernel
theorem d_X10_grant_1 : decode prog_1_method_51_code 1 = .ok (.iconst 0, 1) := by decide +kernel
theorem d_X10_grant_2 : decode prog_1_method_51_code 2 = .ok (.putfield 108, 3) := by decide +kernel
theorem d_X10_grant_5 : decode prog_1_method_51_code 5 = .ok (.iload_n 1, 1) := by decide +kernel
theorem d_X10_grant_6 : decode prog_1_method_51_code 6 = .ok (.ireturn, 1) := by decide +kernel
theorem d_X10_settle_0 : decode prog_1_method_52_code 0 = .ok (.iload_n 1, 1) := by decide +kernel
theorem d_X10_settle_1 : decode prog_1_method_52_code 1 = .ok (.ifCond .ge 11, 3) := by decide +kernel
theorem d_X10_settle_4 : decode prog_1_method_52_code 4 = .ok (.aload_n 0, 1) := by decide +kernel
theorem d_X10_settle_5 : decode prog_1_method_52_code 5 = .ok (.iload_n 1, 1) := by decide +kernel
theorem d_X10_settle_6 : decode prog_1_method_52_code 6 = .ok (.invokevirtual 119, 3) := by decide +kernel
theorem d_X10_settle_9 : decode prog_1_method_52_code 9 = .ok (.goto 8, 3) := by decide +kernel
theorem d_X10_settle_12 : decode prog_1_method_52_code 12 = .ok (.aload_n 0, 1) := by decide +kernel
theorem d_X10_settle_13 : decode prog_1_method_52_code 13 = .ok (.iload_n 1, 1) := by decide +kernel
theorem d_X10_settle_14 : decode prog_1_method_52_code 14 = .ok (.invokevirtual 133, 3) := by decide +kernel
theorem d_X10_settle_17 : decode prog_1_method_52_code 17 = .ok (.ireturn, 1) := by decide +kernel
theorem d_X10_within_0 : decode prog_1_method_53_code 0 = .ok (.iload_n 1, 1) := by decide +kernel
theorem d_X10_within_1 : decode prog_1_method_53_code 1 = .ok (.iload_n 0, 1) := by decide +kernel
theorem d_X10_within_2 : decode prog_1_method_53_code 2 = .ok (.if_icmp .gt 12, 3) := by decide +kernel
theorem d_X10_within_5 : decode prog_1_method_53_code 5 = .ok (.iload_n 0, 1) := by decide +kernel
theorem d_X10_within_6 : decode prog_1_method_53_code 6 = .ok (.iload_n 2, 1) := by decide +kernel
theorem d_X10_within_7 : decode prog_1_method_53_code 7 = .ok (.if_icmp .gt 7, 3) := by decide +kernel
theorem d_X10_within_10 : decode prog_1_method_53_code 10 = .ok (.iconst 1, 1) := by decide +kernel
theorem d_X10_within_11 : decode prog_1_method_53_code 11 = .ok (.goto 4, 3) := by decide +kernel
theorem d_X10_within_14 : decode prog_1_method_53_code 14 = .ok (.iconst 0, 1) := by decide +kernel
theorem d_X10_within_15 : decode prog_1_method_53_code 15 = .ok (.ireturn, 1) := by decide +kernel
theorem d_X10_nearest_0 : decode prog_1_method_54_code 0 = .ok (.iload_n 1, 1) := by decide +kernel
theorem d_X10_nearest_1 : decode prog_1_method_54_code 1 = .ok (.iload_n 2, 1) := by decide +kernel
theorem d_X10_nearest_2 : decode prog_1_method_54_code 2 = .ok (.iload_n 0, 1) := by decide +kernel
theorem d_X10_nearest_3 : decode prog_1_method_54_code 3 = .ok (.invokestatic 366, 3) := by decide +kernel
theorem d_X10_nearest_6 : decode prog_1_method_54_code 6 = .ok (.invokestatic 314, 3) := by decide +kernel
theorem d_X10_nearest_9 : decode prog_1_method_54_code 9 = .ok (.ireturn, 1) := by decide +kernel
theorem d_X10_canBeGood_0 : decode prog_1_method_55_code 0 = .ok (.iload_n 0, 1) := by decide +kernel
theorem d_X10_canBeGood_1 : decode prog_1_method_55_code 1 = .ok (.iconst 1, 1) := by decide +kernel
theorem d_X10_canBeGood_2 : decode prog_1_method_55_code 2 = .ok (.bipush 12, 2) := by decide +kernel
theorem d_X10_canBeGood_4 : decode prog_1_method_55_code 4 = .ok (.invokestatic 115, 3) := by decide +kernel
theorem d_X10_canBeGood_7 : decode prog_1_method_55_code 7 = .ok (.ifCond .eq 37, 3) := by decide +kernel
theorem d_X10_canBeGood_10 : decode prog_1_method_55_code 10 = .ok (.iload_n 1, 1) := by decide +kernel
theorem d_X10_canBeGood_11 : decode prog_1_method_55_code 11 = .ok (.iconst 1, 1) := by decide +kernel
theorem d_X10_canBeGood_12 : decode prog_1_method_55_code 12 = .ok (.bipush 12, 2) := by decide +kernel
theorem d_X10_canBeGood_14 : decode prog_1_method_55_code 14 = .ok (.invokestatic 115, 3) := by decide +kernel
theorem d_X10_canBeGood_17 : decode prog_1_method_55_code 17 = .ok (.ifCond .eq 27, 3) := by decide +kernel
theorem d_X10_canBeGood_20 : decode prog_1_method_55_code 20 = .ok (.iload_n 2, 1) := by decide +kernel
theorem d_X10_canBeGood_21 : decode prog_1_method_55_code 21 = .ok (.iconst 0, 1) := by decide +kernel
theorem d_X10_canBeGood_22 : decode prog_1_method_55_code 22 = .ok (.bipush 99, 2) := by decide +kernel
theorem d_X10_canBeGood_24 : decode prog_1_method_55_code 24 = .ok (.invokestatic 115, 3) := by decide +kernel
theorem d_X10_canBeGood_27 : decode prog_1_method_55_code 27 = .ok (.ifCond .eq 17, 3) := by decide +kernel
theorem d_X10_canBeGood_30 : decode prog_1_method_55_code 30 = .ok (.iload_n 3, 1) := by decide +kernel
theorem d_X10_canBeGood_31 : decode prog_1_method_55_code 31 = .ok (.iconst 0, 1) := by decide +kernel
theorem d_X10_canBeGood_32 : decode prog_1_method_55_code 32 = .ok (.bipush 9, 2) := by decide +kernel
theorem d_X10_canBeGood_34 : decode prog_1_method_55_code 34 = .ok (.invokestatic 115, 3) := by decide +kernel
theorem d_X10_canBeGood_37 : decode prog_1_method_55_code 37 = .ok (.ifCond .eq 7, 3) := by decide +kernel
theorem d_X10_canBeGood_40 : decode prog_1_method_55_code 40 = .ok (.iconst 1, 1) := by decide +kernel
theorem d_X10_canBeGood_41 : decode prog_1_method_55_code 41 = .ok (.goto 4, 3) := by decide +kernel
theorem d_X10_canBeGood_44 : decode prog_1_method_55_code 44 = .ok (.iconst 0, 1) := by decide +kernel
theorem d_X10_canBeGood_45 : decode prog_1_method_55_code 45 = .ok (.ireturn, 1) := by decide +kernel
theorem d_X11_init_0 : decode prog_13_method_1_code 0 = .ok (.aload_n 0, 1) := by decide +kernel
theorem d_X11_init_1 : decode prog_13_method_1_code 1 = .ok (.invokespecial 1, 3) := by decide +kernel
theorem d_X11_init_4 : decode prog_13_method_1_code 4 = .ok (.aload_n 0, 1) := by decide +kernel
theorem d_X11_init_5 : decode prog_13_method_1_code 5 = .ok (.bipush 7, 2) := by decide +kernel
theorem d_X11_init_7 : decode prog_13_method_1_code 7 = .ok (.newarray .int, 2) := by decide +kernel
theorem d_X11_init_9 : decode prog_13_method_1_code 9 = .ok (.putfield 7, 3) := by decide +kernel
theorem d_X11_init_12 : decode prog_13_method_1_code 12 = .ok (.aload_n 0, 1) := by decide +kernel
theorem d_X11_init_13 : decode prog_13_method_1_code 13 = .ok (.sipush 5520, 3) := by decide +kernel
theorem d_X11_init_16 : decode prog_13_method_1_code 16 = .ok (.newarray .int, 2) := by decide +kernel
theorem d_X11_init_18 : decode prog_13_method_1_code 18 = .ok (.putfield 13, 3) := by decide +kernel
theorem d_X11_init_21 : decode prog_13_method_1_code 21 = .ok (.aload_n 0, 1) := by decide +kernel
theorem d_X11_init_22 : decode prog_13_method_1_code 22 = .ok (.sipush 11040, 3) := by decide +kernel
theorem d_X11_init_25 : decode prog_13_method_1_code 25 = .ok (.newarray .int, 2) := by decide +kernel
theorem d_X11_init_27 : decode prog_13_method_1_code 27 = .ok (.putfield 16, 3) := by decide +kernel
theorem d_X11_init_30 : decode prog_13_method_1_code 30 = .ok (.aload_n 0, 1) := by decide +kernel
theorem d_X11_init_31 : decode prog_13_method_1_code 31 = .ok (.iconst 2, 1) := by decide +kernel
theorem d_X11_init_32 : decode prog_13_method_1_code 32 = .ok (.newarray .boolean, 2) := by decide +kernel
theorem d_X11_init_34 : decode prog_13_method_1_code 34 = .ok (.putfield 19, 3) := by decide +kernel
theorem d_X11_init_37 : decode prog_13_method_1_code 37 = .ok (.aload_n 0, 1) := by decide +kernel
theorem d_X11_init_38 : decode prog_13_method_1_code 38 = .ok (.sipush 486, 3) := by decide +kernel
theorem d_X11_init_41 : decode prog_13_method_1_code 41 = .ok (.newarray .int, 2) := by decide +kernel
theorem d_X11_init_43 : decode prog_13_method_1_code 43 = .ok (.putfield 23, 3) := by decide +kernel
theorem d_X11_init_46 : decode prog_13_method_1_code 46 = .ok (.aload_n 0, 1) := by decide +kernel
theorem d_X11_init_47 : decode prog_13_method_1_code 47 = .ok (.bipush 16, 2) := by decide +kernel
theorem d_X11_init_49 : decode prog_13_method_1_code 49 = .ok (.newarray .int, 2) := by decide +kernel
theorem d_X11_init_51 : decode prog_13_method_1_code 51 = .ok (.putfield 26, 3) := by decide +kernel
theorem d_X11_init_54 : decode prog_13_method_1_code 54 = .ok (.aload_n 0, 1) := by decide +kernel
theorem d_X11_init_55 : decode prog_13_method_1_code 55 = .ok (.sipush 432, 3) := by decide +kernel
theorem d_X11_init_58 : decode prog_13_method_1_code 58 = .ok (.newarray .int, 2) := by decide +kernel
theorem d_X11_init_60 : decode prog_13_method_1_code 60 = .ok (.putfield 29, 3) := by decide +kernel
theorem d_X11_init_63 : decode prog_13_method_1_code 63 = .ok (.aload_n 0, 1) := by decide +kernel
theorem d_X11_init_64 : decode prog_13_method_1_code 64 = .ok (.bipush 16, 2) := by decide +kernel
theorem d_X11_init_66 : decode prog_13_method_1_code 66 = .ok (.newarray .int, 2) := by decide +kernel
theorem d_X11_init_68 : decode prog_13_method_1_code 68 = .ok (.putfield 32, 3) := by decide +kernel
theorem d_X11_init_71 : decode prog_13_method_1_code 71 = .ok (.aload_n 0, 1) := by decide +kernel
theorem d_X11_init_72 : decode prog_13_method_1_code 72 = .ok (.sipush 400, 3) := by decide +kernel
theorem d_X11_init_75 : decode prog_13_method_1_code 75 = .ok (.newarray .int, 2) := by decide +kernel
theorem d_X11_init_77 : decode prog_13_method_1_code 77 = .ok (.putfield 35, 3) := by decide +kernel
theorem d_X11_init_80 : decode prog_13_method_1_code 80 = .ok (.aload_n 0, 1) := by decide +kernel
theorem d_X11_init_81 : decode prog_13_method_1_code 81 = .ok (.iconst (-1), 1) := by decide +kernel
theorem d_X11_init_82 : decode prog_13_method_1_code 82 = .ok (.putfield 38, 3) := by decide +kernel
theorem d_X11_init_85 : decode prog_13_method_1_code 85 = .ok (.aload_n 0, 1) := by decide +kernel
theorem d_X11_init_86 : decode prog_13_method_1_code 86 = .ok (.bipush 96, 2) := by decide +kernel
theorem d_X11_init_88 : decode prog_13_method_1_code 88 = .ok (.newarray .int, 2) := by decide +kernel
theorem d_X11_init_90 : decode prog_13_method_1_code 90 = .ok (.putfield 42, 3) := by decide +kernel
theorem d_X11_init_93 : decode prog_13_method_1_code 93 = .ok (.aload_n 0, 1) := by decide +kernel
theorem d_X11_init_94 : decode prog_13_method_1_code 94 = .ok (.sipush 400, 3) := by decide +kernel
theorem d_X11_init_97 : decode prog_13_method_1_code 97 = .ok (.newarray .int, 2) := by decide +kernel
theorem d_X11_init_99 : decode prog_13_method_1_code 99 = .ok (.putfield 45, 3) := by decide +kernel
theorem d_X11_init_102 : decode prog_13_method_1_code 102 = .ok (.aload_n 0, 1) := by decide +kernel
theorem d_X11_init_103 : decode prog_13_method_1_code 103 = .ok (.sipush 400, 3) := by decide +kernel
theorem d_X11_init_106 : decode prog_13_method_1_code 106 = .ok (.newarray .int, 2) := by decide +kernel
theorem d_X11_init_108 : decode prog_13_method_1_code 108 = .ok (.putfield 48, 3) := by decide +kernel
theorem d_X11_init_111 : decode prog_13_method_1_code 111 = .ok (.aload_n 0, 1) := by decide +kernel
theorem d_X11_init_112 : decode prog_13_method_1_code 112 = .ok (.sipush 400, 3) := by decide +kernel
theorem d_X11_init_115 : decode prog_13_method_1_code 115 = .ok (.newarray .int, 2) := by decide +kernel
theorem d_X11_init_117 : decode prog_13_method_1_code 117 = .ok (.putfield 51, 3) := by decide +kernel
theorem d_X11_init_120 : decode prog_13_method_1_code 120 = .ok (.aload_n 0, 1) := by decide +kernel
theorem d_X11_init_121 : decode prog_13_method_1_code 121 = .ok (.sipush 400, 3) := by decide +kernel
theorem d_X11_init_124 : decode prog_13_method_1_code 124 = .ok (.newarray .int, 2) := by decide +kernel
theorem d_X11_init_126 : decode prog_13_method_1_code 126 = .ok (.putfield 54, 3) := by decide +kernel
theorem d_X11_init_129 : decode prog_13_method_1_code 129 = .ok (.aload_n 0, 1) := by decide +kernel
theorem d_X11_init_130 : decode prog_13_method_1_code 130 = .ok (.bipush 9, 2) := by decide +kernel
theorem d_X11_init_132 : decode prog_13_method_1_code 132 = .ok (.newarray .long, 2) := by decide +kernel
theorem d_X11_init_134 : decode prog_13_method_1_code 134 = .ok (.dup, 1) := by decide +kernel
theorem d_X11_init_135 : decode prog_13_method_1_code 135 = .ok (.iconst 0, 1) := by decide +kernel
theorem d_X11_init_136 : decode prog_13_method_1_code 136 = .ok (.ldc2_w 57, 3) := by decide +kernel
theorem d_X11_init_139 : decode prog_13_method_1_code 139 = .ok (.lastore, 1) := by decide +kernel
theorem d_X11_init_140 : decode prog_13_method_1_code 140 = .ok (.dup, 1) := by decide +kernel
theorem d_X11_init_141 : decode prog_13_method_1_code 141 = .ok (.iconst 1, 1) := by decide +kernel
theorem d_X11_init_142 : decode prog_13_method_1_code 142 = .ok (.ldc2_w 59, 3) := by decide +kernel
theorem d_X11_init_145 : decode prog_13_method_1_code 145 = .ok (.lastore, 1) := by decide +kernel
theorem d_X11_init_146 : decode prog_13_method_1_code 146 = .ok (.dup, 1) := by decide +kernel
theorem d_X11_init_147 : decode prog_13_method_1_code 147 = .ok (.iconst 2, 1) := by decide +kernel
theorem d_X11_init_148 : decode prog_13_method_1_code 148 = .ok (.ldc2_w 61, 3) := by decide +kernel
theorem d_X11_init_151 : decode prog_13_method_1_code 151 = .ok (.lastore, 1) := by decide +kernel
theorem d_X11_init_152 : decode prog_13_method_1_code 152 = .ok (.dup, 1) := by decide +kernel
theorem d_X11_init_153 : decode prog_13_method_1_code 153 = .ok (.iconst 3, 1) := by decide +kernel
theorem d_X11_init_154 : decode prog_13_method_1_code 154 = .ok (.ldc2_w 63, 3) := by decide +kernel
theorem d_X11_init_157 : decode prog_13_method_1_code 157 = .ok (.lastore, 1) := by decide +kernel
theorem d_X11_init_158 : decode prog_13_method_1_code 158 = .ok (.dup, 1) := by decide +kernel
theorem d_X11_init_159 : decode prog_13_method_1_code 159 = .ok (.iconst 4, 1) := by decide +kernel
theorem d_X11_init_160 : decode prog_13_method_1_code 160 = .ok (.ldc2_w 65, 3) := by decide +kernel
theorem d_X11_init_163 : decode prog_13_method_1_code 163 = .ok (.lastore, 1) := by decide +kernel
theorem d_X11_init_164 : decode prog_13_method_1_code 164 = .ok (.dup, 1) := by decide +kernel
theorem d_X11_init_165 : decode prog_13_method_1_code 165 = .ok (.iconst 5, 1) := by decide +kernel
theorem d_X11_init_166 : decode prog_13_method_1_code 166 = .ok (.ldc2_w 67, 3) := by decide +kernel
theorem d_X11_init_169 : decode prog_13_method_1_code 169 = .ok (.lastore, 1) := by decide +kernel
theorem d_X11_init_170 : decode prog_13_method_1_code 170 = .ok (.dup, 1) := by decide +kernel
theorem d_X11_init_171 : decode prog_13_method_1_code 171 = .ok (.bipush 6, 2) := by decide +kernel
theorem d_X11_init_173 : decode prog_13_method_1_code 173 = .ok (.ldc2_w 69, 3) := by decide +kernel
theorem d_X11_init_176 : decode prog_13_method_1_code 176 = .ok (.lastore, 1) := by decide +kernel
theorem d_X11_init_177 : decode prog_13_method_1_code 177 = .ok (.dup, 1) := by decide +kernel
theorem d_X11_init_178 : decode prog_13_method_1_code 178 = .ok (.bipush 7, 2) := by decide +kernel
theorem d_X11_init_180 : decode prog_13_method_1_code 180 = .ok (.ldc2_w 71, 3) := by decide +kernel
theorem d_X11_init_183 : decode prog_13_method_1_code 183 = .ok (.lastore, 1) := by decide +kernel
theorem d_X11_init_184 : decode prog_13_method_1_code 184 = .ok (.dup, 1) := by decide +kernel
theorem d_X11_init_185 : decode prog_13_method_1_code 185 = .ok (.bipush 8, 2) := by decide +kernel
theorem d_X11_init_187 : decode prog_13_method_1_code 187 = .ok (.ldc2_w 73, 3) := by decide +kernel
theorem d_X11_init_190 : decode prog_13_method_1_code 190 = .ok (.lastore, 1) := by decide +kernel
theorem d_X11_init_191 : decode prog_13_method_1_code 191 = .ok (.putfield 75, 3) := by decide +kernel
theorem d_X11_init_194 : decode prog_13_method_1_code 194 = .ok (.aload_n 0, 1) := by decide +kernel
theorem d_X11_init_195 : decode prog_13_method_1_code 195 = .ok (.bipush 7, 2) := by decide +kernel
theorem d_X11_init_197 : decode prog_13_method_1_code 197 = .ok (.newarray .long, 2) := by decide +kernel
theorem d_X11_init_199 : decode prog_13_method_1_code 199 = .ok (.dup, 1) := by decide +kernel
theorem d_X11_init_200 : decode prog_13_method_1_code 200 = .ok (.iconst 0, 1) := by decide +kernel
theorem d_X11_init_201 : decode prog_13_method_1_code 201 = .ok (.ldc2_w 71, 3) := by decide +kernel
theorem d_X11_init_204 : decode prog_13_method_1_code 204 = .ok (.lastore, 1) := by decide +kernel
theorem d_X11_init_205 : decode prog_13_method_1_code 205 = .ok (.dup, 1) := by decide +kernel
theorem d_X11_init_206 : decode prog_13_method_1_code 206 = .ok (.iconst 1, 1) := by decide +kernel
theorem d_X11_init_207 : decode prog_13_method_1_code 207 = .ok (.ldc2_w 79, 3) := by decide +kernel
theorem d_X11_init_210 : decode prog_13_method_1_code 210 = .ok (.lastore, 1) := by decide +kernel
theorem d_X11_init_211 : decode prog_13_method_1_code 211 = .ok (.dup, 1) := by decide +kernel
theorem d_X11_init_212 : decode prog_13_method_1_code 212 = .ok (.iconst 2, 1) := by decide +kernel
theorem d_X11_init_213 : decode prog_13_method_1_code 213 = .ok (.ldc2_w 81, 3) := by decide +kernel
theorem d_X11_init_216 : decode prog_13_method_1_code 216 = .ok (.lastore, 1) := by decide +kernel
theorem d_X11_init_217 : decode prog_13_method_1_code 217 = .ok (.dup, 1) := by decide +kernel
theorem d_X11_init_218 : decode prog_13_method_1_code 218 = .ok (.iconst 3, 1) := by decide +kernel
theorem d_X11_init_219 : decode prog_13_method_1_code 219 = .ok (.ldc2_w 83, 3) := by decide +kernel
theorem d_X11_init_222 : decode prog_13_method_1_code 222 = .ok (.lastore, 1) := by decide +kernel
theorem d_X11_init_223 : decode prog_13_method_1_code 223 = .ok (.dup, 1) := by decide +kernel
theorem d_X11_init_224 : decode prog_13_method_1_code 224 = .ok (.iconst 4, 1) := by decide +kernel
theorem d_X11_init_225 : decode prog_13_method_1_code 225 = .ok (.ldc2_w 85, 3) := by decide +kernel
theorem d_X11_init_228 : decode prog_13_method_1_code 228 = .ok (.lastore, 1) := by decide +kernel
theorem d_X11_init_229 : decode prog_13_method_1_code 229 = .ok (.dup, 1) := by decide +kernel
theorem d_X11_init_230 : decode prog_13_method_1_code 230 = .ok (.iconst 5, 1) := by decide +kernel
theorem d_X11_init_231 : decode prog_13_method_1_code 231 = .ok (.ldc2_w 61, 3) := by decide +kernel
theorem d_X11_init_234 : decode prog_13_method_1_code 234 = .ok (.lastore, 1) := by decide +kernel
theorem d_X11_init_235 : decode prog_13_method_1_code 235 = .ok (.dup, 1) := by decide +kernel
theorem d_X11_init_236 : decode prog_13_method_1_code 236 = .ok (.bipush 6, 2) := by decide +kernel
theorem d_X11_init_238 : decode prog_13_method_1_code 238 = .ok (.ldc2_w 63, 3) := by decide +kernel
theorem d_X11_init_241 : decode prog_13_method_1_code 241 = .ok (.lastore, 1) := by decide +kernel
theorem d_X11_init_242 : decode prog_13_method_1_code 242 = .ok (.putfield 87, 3) := by decide +kernel
theorem d_X11_init_245 : decode prog_13_method_1_code 245 = .ok (.aload_n 0, 1) := by decide +kernel
theorem d_X11_init_246 : decode prog_13_method_1_code 246 = .ok (.iconst 4, 1) := by decide +kernel
theorem d_X11_init_247 : decode prog_13_method_1_code 247 = .ok (.newarray .long, 2) := by decide +kernel
theorem d_X11_init_249 : decode prog_13_method_1_code 249 = .ok (.dup, 1) := by decide +kernel
theorem d_X11_init_250 : decode prog_13_method_1_code 250 = .ok (.iconst 0, 1) := by decide +kernel
theorem d_X11_init_251 : decode prog_13_method_1_code 251 = .ok (.ldc2_w 90, 3) := by decide +kernel
theorem d_X11_init_254 : decode prog_13_method_1_code 254 = .ok (.lastore, 1) := by decide +kernel
theorem d_X11_init_255 : decode prog_13_method_1_code 255 = .ok (.dup, 1) := by decide +kernel
theorem d_X11_init_256 : decode prog_13_method_1_code 256 = .ok (.iconst 1, 1) := by decide +kernel
theorem d_X11_init_257 : decode prog_13_method_1_code 257 = .ok (.ldc2_w 92, 3) := by decide +kernel
theorem d_X11_init_260 : decode prog_13_method_1_code 260 = .ok (.lastore, 1) := by decide +kernel
theorem d_X11_init_261 : decode prog_13_method_1_code 261 = .ok (.dup, 1) := by decide +kernel
theorem d_X11_init_262 : decode prog_13_method_1_code 262 = .ok (.iconst 2, 1) := by decide +kernel
theorem d_X11_init_263 : decode prog_13_method_1_code 263 = .ok (.ldc2_w 94, 3) := by decide +kernel
theorem d_X11_init_266 : decode prog_13_method_1_code 266 = .ok (.lastore, 1) := by decide +kernel
theorem d_X11_init_267 : decode prog_13_method_1_code 267 = .ok (.dup, 1) := by decide +kernel
theorem d_X11_init_268 : decode prog_13_method_1_code 268 = .ok (.iconst 3, 1) := by decide +kernel
theorem d_X11_init_269 : decode prog_13_method_1_code 269 = .ok (.ldc2_w 96, 3) := by decide +kernel
theorem d_X11_init_272 : decode prog_13_method_1_code 272 = .ok (.lastore, 1) := by decide +kernel
theorem d_X11_init_273 : decode prog_13_method_1_code 273 = .ok (.putfield 98, 3) := by decide +kernel
theorem d_X11_init_276 : decode prog_13_method_1_code 276 = .ok (.aload_n 0, 1) := by decide +kernel
theorem d_X11_init_277 : decode prog_13_method_1_code 277 = .ok (.bipush 13, 2) := by decide +kernel
theorem d_X11_init_279 : decode prog_13_method_1_code 279 = .ok (.newarray .long, 2) := by decide +kernel
theorem d_X11_init_281 : decode prog_13_method_1_code 281 = .ok (.putfield 101, 3) := by decide +kernel
theorem d_X11_init_284 : decode prog_13_method_1_code 284 = .ok (.aload_n 0, 1) := by decide +kernel
theorem d_X11_init_285 : decode prog_13_method_1_code 285 = .ok (.bipush 13, 2) := by decide +kernel
theorem d_X11_init_287 : decode prog_13_method_1_code 287 = .ok (.newarray .long, 2) := by decide +kernel
theorem d_X11_init_289 : decode prog_13_method_1_code 289 = .ok (.putfield 104, 3) := by decide +kernel
theorem d_X11_init_292 : decode prog_13_method_1_code 292 = .ok (.aload_n 0, 1) := by decide +kernel
theorem d_X11_init_293 : decode prog_13_method_1_code 293 = .ok (.sipush 400, 3) := by decide +kernel
theorem d_X11_init_296 : decode prog_13_method_1_code 296 = .ok (.newarray .long, 2) := by decide +kernel
theorem d_X11_init_298 : decode prog_13_method_1_code 298 = .ok (.putfield 107, 3) := by decide +kernel
theorem d_X11_init_301 : decode prog_13_method_1_code 301 = .ok (.aload_n 0, 1) := by decide +kernel
theorem d_X11_init_302 : decode prog_13_method_1_code 302 = .ok (.sipush 900, 3) := by decide +kernel
theorem d_X11_init_305 : decode prog_13_method_1_code 305 = .ok (.newarray .int, 2) := by decide +kernel
theorem d_X11_init_307 : decode prog_13_method_1_code 307 = .ok (.putfield 110, 3) := by decide +kernel
theorem d_X11_init_310 : decode prog_13_method_1_code 310 = .ok (.aload_n 0, 1) := by decide +kernel
theorem d_X11_init_311 : decode prog_13_method_1_code 311 = .ok (.sipush 2048, 3) := by decide +kernel
theorem d_X11_init_314 : decode prog_13_method_1_code 314 = .ok (.newarray .int, 2) := by decide +kernel
theorem d_X11_init_316 : decode prog_13_method_1_code 316 = .ok (.putfield 113, 3) := by decide +kernel
theorem d_X11_init_319 : decode prog_13_method_1_code 319 = .ok (.aload_n 0, 1) := by decide +kernel
theorem d_X11_init_320 : decode prog_13_method_1_code 320 = .ok (.bipush 8, 2) := by decide +kernel
theorem d_X11_init_322 : decode prog_13_method_1_code 322 = .ok (.newarray .int, 2) := by decide +kernel
theorem d_X11_init_324 : decode prog_13_method_1_code 324 = .ok (.putfield 116, 3) := by decide +kernel
theorem d_X11_init_327 : decode prog_13_method_1_code 327 = .ok (.aload_n 0, 1) := by decide +kernel
theorem d_X11_init_328 : decode prog_13_method_1_code 328 = .ok (.bipush 14, 2) := by decide +kernel
theorem d_X11_init_330 : decode prog_13_method_1_code 330 = .ok (.newarray .long, 2) := by decide +kernel
theorem d_X11_init_332 : decode prog_13_method_1_code 332 = .ok (.putfield 119, 3) := by decide +kernel
theorem d_X11_init_335 : decode prog_13_method_1_code 335 = .ok (.aload_n 0, 1) := by decide +kernel
theorem d_X11_init_336 : decode prog_13_method_1_code 336 = .ok (.iconst 4, 1) := by decide +kernel
theorem d_X11_init_337 : decode prog_13_method_1_code 337 = .ok (.newarray .long, 2) := by decide +kernel
theorem d_X11_init_339 : decode prog_13_method_1_code 339 = .ok (.dup, 1) := by decide +kernel
theorem d_X11_init_340 : decode prog_13_method_1_code 340 = .ok (.iconst 0, 1) := by decide +kernel
theorem d_X11_init_341 : decode prog_13_method_1_code 341 = .ok (.ldc2_w 122, 3) := by decide +kernel
theorem d_X11_init_344 : decode prog_13_method_1_code 344 = .ok (.lastore, 1) := by decide +kernel
theorem d_X11_init_345 : decode prog_13_method_1_code 345 = .ok (.dup, 1) := by decide +kernel
theorem d_X11_init_346 : decode prog_13_method_1_code 346 = .ok (.iconst 1, 1) := by decide +kernel
theorem d_X11_init_347 : decode prog_13_method_1_code 347 = .ok (.ldc2_w 124, 3) := by decide +kernel
theorem d_X11_init_350 : decode prog_13_method_1_code 350 = .ok (.lastore, 1) := by decide +kernel
theorem d_X11_init_351 : decode prog_13_method_1_code 351 = .ok (.dup, 1) := by decide +kernel
theorem d_X11_init_352 : decode prog_13_method_1_code 352 = .ok (.iconst 2, 1) := by decide +kernel
theorem d_X11_init_353 : decode prog_13_method_1_code 353 = .ok (.ldc2_w 126, 3) := by decide +kernel
theorem d_X11_init_356 : decode prog_13_method_1_code 356 = .ok (.lastore, 1) := by decide +kernel
theorem d_X11_init_357 : decode prog_13_method_1_code 357 = .ok (.dup, 1) := by decide +kernel
theorem d_X11_init_358 : decode prog_13_method_1_code 358 = .ok (.iconst 3, 1) := by decide +kernel
theorem d_X11_init_359 : decode prog_13_method_1_code 359 = .ok (.ldc2_w 128, 3) := by decide +kernel
theorem d_X11_init_362 : decode prog_13_method_1_code 362 = .ok (.lastore, 1) := by decide +kernel
theorem d_X11_init_363 : decode prog_13_method_1_code 363 = .ok (.putfield 130, 3) := by decide +kernel
theorem d_X11_init_366 : decode prog_13_method_1_code 366 = .ok (.aload_n 0, 1) := by decide +kernel
theorem d_X11_init_367 : decode prog_13_method_1_code 367 = .ok (.bipush 96, 2) := by decide +kernel
theorem d_X11_init_369 : decode prog_13_method_1_code 369 = .ok (.newarray .int, 2) := by decide +kernel
theorem d_X11_init_371 : decode prog_13_method_1_code 371 = .ok (.putfield 133, 3) := by decide +kernel
theorem d_X11_init_374 : decode prog_13_method_1_code 374 = .ok (.aload_n 0, 1) := by decide +kernel
theorem d_X11_init_375 : decode prog_13_method_1_code 375 = .ok (.iconst (-1), 1) := by decide +kernel
theorem d_X11_init_376 : decode prog_13_method_1_code 376 = .ok (.putfield 136, 3) := by decide +kernel
theorem d_X11_init_379 : decode prog_13_method_1_code 379 = .ok (.aload_n 0, 1) := by decide +kernel
theorem d_X11_init_380 : decode prog_13_method_1_code 380 = .ok (.bipush 16, 2) := by decide +kernel
theorem d_X11_init_382 : decode prog_13_method_1_code 382 = .ok (.newarray .int, 2) := by decide +kernel
theorem d_X11_init_384 : decode prog_13_method_1_code 384 = .ok (.putfield 139, 3) := by decide +kernel
theorem d_X11_init_387 : decode prog_13_method_1_code 387 = .ok (.aload_n 0, 1) := by decide +kernel
theorem d_X11_init_388 : decode prog_13_method_1_code 388 = .ok (.iconst (-1), 1) := by decide +kernel
theorem d_X11_init_389 : decode prog_13_method_1_code 389 = .ok (.putfield 142, 3) := by decide +kernel
theorem d_X11_init_392 : decode prog_13_method_1_code 392 = .ok (.aload_n 0, 1) := by decide +kernel
theorem d_X11_init_393 : decode prog_13_method_1_code 393 = .ok (.getfield 13, 3) := by decide +kernel
theorem d_X11_init_396 : decode prog_13_method_1_code 396 = .ok (.iconst 4, 1) := by decide +kernel
theorem d_X11_init_397 : decode prog_13_method_1_code 397 = .ok (.iconst (-1), 1) := by decide +kernel
theorem d_X11_init_398 : decode prog_13_method_1_code 398 = .ok (.iastore, 1) := by decide +kernel
theorem d_X11_init_399 : decode prog_13_method_1_code 399 = .ok (.aload_n 0, 1) := by decide +kernel
theorem d_X11_init_400 : decode prog_13_method_1_code 400 = .ok (.getfield 13, 3) := by decide +kernel
theorem d_X11_init_403 : decode prog_13_method_1_code 403 = .ok (.bipush 6, 2) := by decide +kernel
theorem d_X11_init_405 : decode prog_13_method_1_code 405 = .ok (.iconst 3, 1) := by decide +kernel
theorem d_X11_init_406 : decode prog_13_method_1_code 406 = .ok (.iastore, 1) := by decide +kernel
theorem d_X11_init_407 : decode prog_13_method_1_code 407 = .ok (.return_, 1) := by decide +kernel
theorem d_X11_in_0 : decode prog_13_method_3_code 0 = .ok (.lload_n 0, 1) := by decide +kernel
theorem d_X11_in_1 : decode prog_13_method_3_code 1 = .ok (.lload_n 2, 1) := by decide +kernel
theorem d_X11_in_2 : decode prog_13_method_3_code 2 = .ok (.lcmp, 1) := by decide +kernel
theorem d_X11_in_3 : decode prog_13_method_3_code 3 = .ok (.ifCond .lt 14, 3) := by decide +kernel
theorem d_X11_in_6 : decode prog_13_method_3_code 6 = .ok (.lload_n 0, 1) := by decide +kernel
theorem d_X11_in_7 : decode prog_13_method_3_code 7 = .ok (.lload 4, 2) := by decide +kernel
theorem d_X11_in_9 : decode prog_13_method_3_code 9 = .ok (.lcmp, 1) := by decide +kernel
theorem d_X11_in_10 : decode prog_13_method_3_code 10 = .ok (.ifCond .gt 7, 3) := by decide +kernel
theorem d_X11_in_13 : decode prog_13_method_3_code 13 = .ok (.iconst 1, 1) := by decide +kernel
theorem d_X11_in_14 : decode prog_13_method_3_code 14 = .ok (.goto 4, 3) := by decide +kernel
theorem d_X11_in_17 : decode prog_13_method_3_code 17 = .ok (.iconst 0, 1) := by decide +kernel
theorem d_X11_in_18 : decode prog_13_method_3_code 18 = .ok (.ireturn, 1) := by decide +kernel
theorem d_X11_is_0 : decode prog_13_method_4_code 0 = .ok (.iload_n 0, 1) := by decide +kernel
theorem d_X11_is_1 : decode prog_13_method_4_code 1 = .ok (.iload_n 1, 1) := by decide +kernel
theorem d_X11_is_2 : decode prog_13_method_4_code 2 = .ok (.ishr, 1) := by decide +kernel
theorem d_X11_is_3 : decode prog_13_method_4_code 3 = .ok (.iconst 1, 1) := by decide +kernel
theorem d_X11_is_4 : decode prog_13_method_4_code 4 = .ok (.iand, 1) := by decide +kernel
theorem d_X11_is_5 : decode prog_13_method_4_code 5 = .ok (.iconst 1, 1) := by decide +kernel
theorem d_X11_is_6 : decode prog_13_method_4_code 6 = .ok (.if_icmp .ne 7, 3) := by decide +kernel
theorem d_X11_is_9 : decode prog_13_method_4_code 9 = .ok (.iconst 1, 1) := by decide +kernel
theorem d_X11_is_10 : decode prog_13_method_4_code 10 = .ok (.goto 4, 3) := by decide +kernel
theorem d_X11_is_13 : decode prog_13_method_4_code 13 = .ok (.iconst 0, 1) := by decide +kernel
theorem d_X11_is_14 : decode prog_13_method_4_code 14 = .ok (.ireturn, 1) := by decide +kernel
theorem d_X11_within_0 : decode prog_13_method_5_code 0 = .ok (.lload_n 0, 1) := by decide +kernel
theorem d_X11_within_1 : decode prog_13_method_5_code 1 = .ok (.iload_n 2, 1) := by decide +kernel
theorem d_X11_within_2 : decode prog_13_method_5_code 2 = .ok (.i2l, 1) := by decide +kernel
theorem d_X11_within_3 : decode prog_13_method_5_code 3 = .ok (.lcmp, 1) := by decide +kernel
theorem d_X11_within_4 : decode prog_13_method_5_code 4 = .ok (.ifCond .ge 7, 3) := by decide +kernel
theorem d_X11_within_7 : decode prog_13_method_5_code 7 = .ok (.iload_n 2, 1) := by decide +kernel
theorem d_X11_within_8 : decode prog_13_method_5_code 8 = .ok (.goto 16, 3) := by decide +kernel
theorem d_X11_within_11 : decode prog_13_method_5_code 11 = .ok (.lload_n 0, 1) := by decide +kernel
theorem d_X11_within_12 : decode prog_13_method_5_code 12 = .ok (.iload_n 3, 1) := by decide +kernel
theorem d_X11_within_13 : decode prog_13_method_5_code 13 = .ok (.i2l, 1) := by decide +kernel
theorem d_X11_within_14 : decode prog_13_method_5_code 14 = .ok (.lcmp, 1) := by decide +kernel
theorem d_X11_within_15 : decode prog_13_method_5_code 15 = .ok (.ifCond .le 7, 3) := by decide +kernel
theorem d_X11_within_18 : decode prog_13_method_5_code 18 = .ok (.iload_n 3, 1) := by decide +kernel
theorem d_X11_within_19 : decode prog_13_method_5_code 19 = .ok (.goto 5, 3) := by decide +kernel
theorem d_X11_within_22 : decode prog_13_method_5_code 22 = .ok (.lload_n 0, 1) := by decide +kernel
theorem d_X11_within_23 : decode prog_13_method_5_code 23 = .ok (.l2i, 1) := by decide +kernel
theorem d_X11_within_24 : decode prog_13_method_5_code 24 = .ok (.ireturn, 1) := by decide +kernel
theorem d_X11_tell_0 : decode prog_13_method_6_code 0 = .ok (.aload_n 0, 1) := by decide +kernel
theorem d_X11_tell_1 : decode prog_13_method_6_code 1 = .ok (.iload_n 1, 1) := by decide +kernel
theorem d_X11_tell_2 : decode prog_13_method_6_code 2 = .ok (.ifCond .ge 7, 3) := by decide +kernel
theorem d_X11_tell_5 : decode prog_13_method_6_code 5 = .ok (.iload_n 1, 1) := by decide +kernel
theorem d_X11_tell_6 : decode prog_13_method_6_code 6 = .ok (.goto 4, 3) := by decide +kernel
theorem d_X11_tell_9 : decode prog_13_method_6_code 9 = .ok (.iconst 0, 1) := by decide +kernel
theorem d_X11_tell_10 : decode prog_13_method_6_code 10 = .ok (.putfield 148, 3) := by decide +kernel
theorem d_X11_tell_13 : decode prog_13_method_6_code 13 = .ok (.iload_n 1, 1) := by decide +kernel
theorem d_X11_tell_14 : decode prog_13_method_6_code 14 = .ok (.ifCond .ge 14, 3) := by decide +kernel
theorem d_X11_tell_17 : decode prog_13_method_6_code 17 = .ok (.aload_n 0, 1) := by decide +kernel
theorem d_X11_tell_18 : decode prog_13_method_6_code 18 = .ok (.getfield 7, 3) := by decide +kernel
theorem d_X11_tell_21 : decode prog_13_method_6_code 21 = .ok (.iload_n 1, 1) := by decide +kernel
theorem d_X11_tell_22 : decode prog_13_method_6_code 22 = .ok (.ineg, 1) := by decide +kernel
theorem d_X11_tell_23 : decode prog_13_method_6_code 23 = .ok (.dup2, 1) := by decide +kernel
theorem d_X11_tell_24 : decode prog_13_method_6_code 24 = .ok (.iaload, 1) := by decide +kernel
theorem d_X11_tell_25 : decode prog_13_method_6_code 25 = .ok (.iconst 1, 1) := by decide +kernel
theorem d_X11_tell_26 : decode prog_13_method_6_code 26 = .ok (.iadd, 1) := by decide +kernel
theorem d_X11_tell_27 : decode prog_13_method_6_code 27 = .ok (.iastore, 1) := by decide +kernel
theorem d_X11_tell_28 : decode prog_13_method_6_code 28 = .ok (.iload_n 1, 1) := by decide +kernel
theorem d_X11_tell_29 : decode prog_13_method_6_code 29 = .ok (.ireturn, 1) := by decide +kernel
theorem d_X11_change_0 : decode prog_13_method_7_code 0 = .ok (.aload_n 0, 1) := by decide +kernel
theorem d_X11_change_1 : decode prog_13_method_7_code 1 = .ok (.getfield 13, 3) := by decide +kernel
theorem d_X11_change_4 : decode prog_13_method_7_code 4 = .ok (.iload_n 1, 1) := by decide +kernel
theorem d_X11_change_5 : decode prog_13_method_7_code 5 = .ok (.iaload, 1) := by decide +kernel
theorem d_X11_change_6 : decode prog_13_method_7_code 6 = .ok (.istore_n 3, 1) := by decide +kernel
theorem d_X11_change_7 : decode prog_13_method_7_code 7 = .ok (.aload_n 0, 1) := by decide +kernel
theorem d_X11_change_8 : decode prog_13_method_7_code 8 = .ok (.getfield 13, 3) := by decide +kernel
theorem d_X11_change_11 : decode prog_13_method_7_code 11 = .ok (.iload_n 1, 1) := by decide +kernel
theorem d_X11_change_12 : decode prog_13_method_7_code 12 = .ok (.iload_n 2, 1) := by decide +kernel
theorem d_X11_change_13 : decode prog_13_method_7_code 13 = .ok (.iastore, 1) := by decide +kernel
theorem d_X11_change_14 : decode prog_13_method_7_code 14 = .ok (.aload_n 0, 1) := by decide +kernel
theorem d_X11_change_15 : decode prog_13_method_7_code 15 = .ok (.iconst 0, 1) := by decide +kernel
theorem d_X11_change_16 : decode prog_13_method_7_code 16 = .ok (.putfield 148, 3) := by decide +kernel
theorem d_X11_change_19 : decode prog_13_method_7_code 19 = .ok (.iload_n 3, 1) := by decide +kernel
theorem d_X11_change_20 : decode prog_13_method_7_code 20 = .ok (.ireturn, 1) := by decide +kernel
theorem d_X11_settled_0 : decode prog_13_method_8_code 0 = .ok (.aload_n 0, 1) := by decide +kernel
theorem d_X11_settled_1 : decode prog_13_method_8_code 1 = .ok (.iload_n 1, 1) := by decide +kernel
theorem d_X11_settled_2 : decode prog_13_method_8_code 2 = .ok (.ifCond .ge 10, 3) := by decide +kernel
theorem d_X11_settled_5 : decode prog_13_method_8_code 5 = .ok (.aload_n 0, 1) := by decide +kernel
theorem d_X11_settled_6 : decode prog_13_method_8_code 6 = .ok (.getfield 151, 3) := by decide +kernel
theorem d_X11_settled_9 : decode prog_13_method_8_code 9 = .ok (.goto 4, 3) := by decide +kernel
theorem d_X11_settled_12 : decode prog_13_method_8_code 12 = .ok (.iconst 0, 1) := by decide +kernel
theorem d_X11_settled_13 : decode prog_13_method_8_code 13 = .ok (.putfield 151, 3) := by decide +kernel
theorem d_X11_settled_16 : decode prog_13_method_8_code 16 = .ok (.aload_n 0, 1) := by decide +kernel
theorem d_X11_settled_17 : decode prog_13_method_8_code 17 = .ok (.iload_n 1, 1) := by decide +kernel
theorem d_X11_settled_18 : decode prog_13_method_8_code 18 = .ok (.invokevirtual 154, 3) := by decide +kernel
theorem d_X11_settled_21 : decode prog_13_method_8_code 21 = .ok (.ireturn, 1) := by decide +kernel
theorem d_X11_keepAll_0 : decode prog_13_method_9_code 0 = .ok (.iconst 0, 1) := by decide +kernel
theorem d_X11_keepAll_1 : decode prog_13_method_9_code 1 = .ok (.istore_n 2, 1) := by decide +kernel
theorem d_X11_keepAll_2 : decode prog_13_method_9_code 2 = .ok (.iload_n 2, 1) := by decide +kernel
theorem d_X11_keepAll_3 : decode prog_13_method_9_code 3 = .ok (.bipush 27, 2) := by decide +kernel
theorem d_X11_keepAll_5 : decode prog_13_method_9_code 5 = .ok (.if_icmp .ge 28, 3) := by decide +kernel
theorem d_X11_keepAll_8 : decode prog_13_method_9_code 8 = .ok (.aload_n 0, 1) := by decide +kernel
theorem d_X11_keepAll_9 : decode prog_13_method_9_code 9 = .ok (.getfield 23, 3) := by decide +kernel
theorem d_X11_keepAll_12 : decode prog_13_method_9_code 12 = .ok (.bipush 27, 2) := by decide +kernel
theorem d_X11_keepAll_14 : decode prog_13_method_9_code 14 = .ok (.iload_n 1, 1) := by decide +kernel
theorem d_X11_keepAll_15 : decode prog_13_method_9_code 15 = .ok (.imul, 1) := by decide +kernel
theorem d_X11_keepAll_16 : decode prog_13_method_9_code 16 = .ok (.iload_n 2, 1) := by decide +kernel
theorem d_X11_keepAll_17 : decode prog_13_method_9_code 17 = .ok (.iadd, 1) := by decide +kernel
theorem d_X11_keepAll_18 : decode prog_13_method_9_code 18 = .ok (.aload_n 0, 1) := by decide +kernel
theorem d_X11_keepAll_19 : decode prog_13_method_9_code 19 = .ok (.getfield 13, 3) := by decide +kernel
theorem d_X11_keepAll_22 : decode prog_13_method_9_code 22 = .ok (.iconst 5, 1) := by decide +kernel
theorem d_X11_keepAll_23 : decode prog_13_method_9_code 23 = .ok (.iload_n 2, 1) := by decide +kernel
theorem d_X11_keepAll_24 : decode prog_13_method_9_code 24 = .ok (.iadd, 1) := by decide +kernel
theorem d_X11_keepAll_25 : decode prog_13_method_9_code 25 = .ok (.iaload, 1) := by decide +kernel
theorem d_X11_keepAll_26 : decode prog_13_method_9_code 26 = .ok (.iastore, 1) := by decide +kernel
theorem d_X11_keepAll_27 : decode prog_13_method_9_code 27 = .ok (.iinc 2 1, 3) := by decide +kernel
theorem d_X11_keepAll_30 : decode prog_13_method_9_code 30 = .ok (.goto (-28), 3) := by decide +kernel
theorem d_X11_keepAll_33 : decode prog_13_method_9_code 33 = .ok (.return_, 1) := by decide +kernel
theorem d_X11_putBack_0 : decode prog_13_method_10_code 0 = .ok (.iconst 0, 1) := by decide +kernel
theorem d_X11_putBack_1 : decode prog_13_method_10_code 1 = .ok (.istore_n 2, 1) := by decide +kernel
theorem d_X11_putBack_2 : decode prog_13_method_10_code 2 = .ok (.iload_n 2, 1) := by decide +kernel
theorem d_X11_putBack_3 : decode prog_13_method_10_code 3 = .ok (.bipush 27, 2) := by decide +kernel
theorem d_X11_putBack_5 : decode prog_13_method_10_code 5 = .ok (.if_icmp .ge 28, 3) := by decide +kernel
theorem d_X11_putBack_8 : decode prog_13_method_10_code 8 = .ok (.aload_n 0, 1) := by decide +kernel
theorem d_X11_putBack_9 : decode prog_13_method_10_code 9 = .ok (.getfield 13, 3) := by decide +kernel
theorem d_X11_putBack_12 : decode prog_13_method_10_code 12 = .ok (.iconst 5, 1) := by decide +kernel
theorem d_X11_putBack_13 : decode prog_13_method_10_code 13 = .ok (.iload_n 2, 1) := by decide +kernel
theorem d_X11_putBack_14 : decode prog_13_method_10_code 14 = .ok (.iadd, 1) := by decide +kernel
theorem d_X11_putBack_15 : decode prog_13_method_10_code 15 = .ok (.aload_n 0, 1) := by decide +kernel
theorem d_X11_putBack_16 : decode prog_13_method_10_code 16 = .ok (.getfield 23, 3) := by decide +kernel
theorem d_X11_putBack_19 : decode prog_13_method_10_code 19 = .ok (.bipush 27, 2) := by decide +kernel
theorem d_X11_putBack_21 : decode prog_13_method_10_code 21 = .ok (.iload_n 1, 1) := by decide +kernel
theorem d_X11_putBack_22 : decode prog_13_method_10_code 22 = .ok (.imul, 1) := by decide +kernel
theorem d_X11_putBack_23 : decode prog_13_method_10_code 23 = .ok (.iload_n 2, 1) := by decide +kernel
theorem d_X11_putBack_24 : decode prog_13_method_10_code 24 = .ok (.iadd, 1) := by decide +kernel
theorem d_X11_putBack_25 : decode prog_13_method_10_code 25 = .ok (.iaload, 1) := by decide +kernel
theorem d_X11_putBack_26 : decode prog_13_method_10_code 26 = .ok (.iastore, 1) := by decide +kernel
theorem d_X11_putBack_27 : decode prog_13_method_10_code 27 = .ok (.iinc 2 1, 3) := by decide +kernel
theorem d_X11_putBack_30 : decode prog_13_method_10_code 30 = .ok (.goto (-28), 3) := by decide +kernel
theorem d_X11_putBack_33 : decode prog_13_method_10_code 33 = .ok (.return_, 1) := by decide +kernel
theorem d_X11_remember_0 : decode prog_13_method_11_code 0 = .ok (.aload_n 0, 1) := by decide +kernel
theorem d_X11_remember_1 : decode prog_13_method_11_code 1 = .ok (.getfield 151, 3) := by decide +kernel
theorem d_X11_remember_4 : decode prog_13_method_11_code 4 = .ok (.bipush 16, 2) := by decide +kernel
theorem d_X11_remember_6 : decode prog_13_method_11_code 6 = .ok (.if_icmp .ne 71, 3) := by decide +kernel
theorem d_X11_remember_9 : decode prog_13_method_11_code 9 = .ok (.iconst 0, 1) := by decide +kernel
theorem d_X11_remember_10 : decode prog_13_method_11_code 10 = .ok (.istore_n 2, 1) := by decide +kernel
theorem d_X11_remember_11 : decode prog_13_method_11_code 11 = .ok (.iload_n 2, 1) := by decide +kernel
theorem d_X11_remember_12 : decode prog_13_method_11_code 12 = .ok (.sipush 405, 3) := by decide +kernel
theorem d_X11_remember_15 : decode prog_13_method_11_code 15 = .ok (.if_icmp .ge 24, 3) := by decide +kernel
theorem d_X11_remember_18 : decode prog_13_method_11_code 18 = .ok (.aload_n 0, 1) := by decide +kernel
theorem d_X11_remember_19 : decode prog_13_method_11_code 19 = .ok (.getfield 23, 3) := by decide +kernel
theorem d_X11_remember_22 : decode prog_13_method_11_code 22 = .ok (.iload_n 2, 1) := by decide +kernel
theorem d_X11_remember_23 : decode prog_13_method_11_code 23 = .ok (.aload_n 0, 1) := by decide +kernel
theorem d_X11_remember_24 : decode prog_13_method_11_code 24 = .ok (.getfield 23, 3) := by decide +kernel
theorem d_X11_remember_27 : decode prog_13_method_11_code 27 = .ok (.iload_n 2, 1) := by decide +kernel
theorem d_X11_remember_28 : decode prog_13_method_11_code 28 = .ok (.bipush 27, 2) := by decide +kernel
theorem d_X11_remember_30 : decode prog_13_method_11_code 30 = .ok (.iadd, 1) := by decide +kernel
theorem d_X11_remember_31 : decode prog_13_method_11_code 31 = .ok (.iaload, 1) := by decide +kernel
theorem d_X11_remember_32 : decode prog_13_method_11_code 32 = .ok (.iastore, 1) := by decide +kernel
theorem d_X11_remember_33 : decode prog_13_method_11_code 33 = .ok (.iinc 2 1, 3) := by decide +kernel
theorem d_X11_remember_36 : decode prog_13_method_11_code 36 = .ok (.goto (-25), 3) := by decide +kernel
theorem d_X11_remember_39 : decode prog_13_method_11_code 39 = .ok (.iconst 0, 1) := by decide +kernel
theorem d_X11_remember_40 : decode prog_13_method_11_code 40 = .ok (.istore_n 2, 1) := by decide +kernel
theorem d_X11_remember_41 : decode prog_13_method_11_code 41 = .ok (.iload_n 2, 1) := by decide +kernel
theorem d_X11_remember_42 : decode prog_13_method_11_code 42 = .ok (.bipush 15, 2) := by decide +kernel
theorem d_X11_remember_44 : decode prog_13_method_11_code 44 = .ok (.if_icmp .ge 23, 3) := by decide +kernel
theorem d_X11_remember_47 : decode prog_13_method_11_code 47 = .ok (.aload_n 0, 1) := by decide +kernel
theorem d_X11_remember_48 : decode prog_13_method_11_code 48 = .ok (.getfield 26, 3) := by decide +kernel
theorem d_X11_remember_51 : decode prog_13_method_11_code 51 = .ok (.iload_n 2, 1) := by decide +kernel
theorem d_X11_remember_52 : decode prog_13_method_11_code 52 = .ok (.aload_n 0, 1) := by decide +kernel
theorem d_X11_remember_53 : decode prog_13_method_11_code 53 = .ok (.getfield 26, 3) := by decide +kernel
theorem d_X11_remember_56 : decode prog_13_method_11_code 56 = .ok (.iload_n 2, 1) := by decide +kernel
theorem d_X11_remember_57 : decode prog_13_method_11_code 57 = .ok (.iconst 1, 1) := by decide +kernel
theorem d_X11_remember_58 : decode prog_13_method_11_code 58 = .ok (.iadd, 1) := by decide +kernel
theorem d_X11_remember_59 : decode prog_13_method_11_code 59 = .ok (.iaload, 1) := by decide +kernel
theorem d_X11_remember_60 : decode prog_13_method_11_code 60 = .ok (.iastore, 1) := by decide +kernel
theorem d_X11_remember_61 : decode prog_13_method_11_code 61 = .ok (.iinc 2 1, 3) := by decide +kernel
theorem d_X11_remember_64 : decode prog_13_method_11_code 64 = .ok (.goto (-23), 3) := by decide +kernel
theorem d_X11_remember_67 : decode prog_13_method_11_code 67 = .ok (.aload_n 0, 1) := by decide +kernel
theorem d_X11_remember_68 : decode prog_13_method_11_code 68 = .ok (.dup, 1) := by decide +kernel
theorem d_X11_remember_69 : decode prog_13_method_11_code 69 = .ok (.getfield 151, 3) := by decide +kernel
theorem d_X11_remember_72 : decode prog_13_method_11_code 72 = .ok (.iconst 1, 1) := by decide +kernel
theorem d_X11_remember_73 : decode prog_13_method_11_code 73 = .ok (.isub, 1) := by decide +kernel
theorem d_X11_remember_74 : decode prog_13_method_11_code 74 = .ok (.putfield 151, 3) := by decide +kernel
theorem d_X11_remember_77 : decode prog_13_method_11_code 77 = .ok (.aload_n 0, 1) := by decide +kernel
theorem d_X11_remember_78 : decode prog_13_method_11_code 78 = .ok (.aload_n 0, 1) := by decide +kernel
theorem d_X11_remember_79 : decode prog_13_method_11_code 79 = .ok (.getfield 151, 3) := by decide +kernel
theorem d_X11_remember_82 : decode prog_13_method_11_code 82 = .ok (.invokevirtual 158, 3) := by decide +kernel
theorem d_X11_remember_85 : decode prog_13_method_11_code 85 = .ok (.aload_n 0, 1) := by decide +kernel
theorem d_X11_remember_86 : decode prog_13_method_11_code 86 = .ok (.getfield 26, 3) := by decide +kernel
theorem d_X11_remember_89 : decode prog_13_method_11_code 89 = .ok (.aload_n 0, 1) := by decide +kernel
theorem d_X11_remember_90 : decode prog_13_method_11_code 90 = .ok (.getfield 151, 3) := by decide +kernel
theorem d_X11_remember_93 : decode prog_13_method_11_code 93 = .ok (.iload_n 1, 1) := by decide +kernel
theorem d_X11_remember_94 : decode prog_13_method_11_code 94 = .ok (.iastore, 1) := by decide +kernel
theorem d_X11_remember_95 : decode prog_13_method_11_code 95 = .ok (.aload_n 0, 1) := by decide +kernel
theorem d_X11_remember_96 : decode prog_13_method_11_code 96 = .ok (.dup, 1) := by decide +kernel
theorem d_X11_remember_97 : decode prog_13_method_11_code 97 = .ok (.getfield 151, 3) := by decide +kernel
theorem d_X11_remember_100 : decode prog_13_method_11_code 100 = .ok (.iconst 1, 1) := by decide +kernel
theorem d_X11_remember_101 : decode prog_13_method_11_code 101 = .ok (.iadd, 1) := by decide +kernel
theorem d_X11_remember_102 : decode prog_13_method_11_code 102 = .ok (.putfield 151, 3) := by decide +kernel
theorem d_X11_remember_105 : decode prog_13_method_11_code 105 = .ok (.return_, 1) := by decide +kernel
theorem d_X11_undo_0 : decode prog_13_method_12_code 0 = .ok (.aload_n 0, 1) := by decide +kernel
theorem d_X11_undo_1 : decode prog_13_method_12_code 1 = .ok (.iconst 0, 1) := by decide +kernel
theorem d_X11_undo_2 : decode prog_13_method_12_code 2 = .ok (.putfield 145, 3) := by decide +kernel
theorem d_X11_undo_5 : decode prog_13_method_12_code 5 = .ok (.aload_n 0, 1) := by decide +kernel
theorem d_X11_undo_6 : decode prog_13_method_12_code 6 = .ok (.getfield 151, 3) := by decide +kernel
theorem d_X11_undo_9 : decode prog_13_method_12_code 9 = .ok (.ifCond .ne 10, 3) := by decide +kernel
theorem d_X11_undo_12 : decode prog_13_method_12_code 12 = .ok (.aload_n 0, 1) := by decide +kernel
theorem d_X11_undo_13 : decode prog_13_method_12_code 13 = .ok (.bipush (-3), 2) := by decide +kernel
theorem d_X11_undo_15 : decode prog_13_method_12_code 15 = .ok (.invokevirtual 154, 3) := by decide +kernel
theorem d_X11_undo_18 : decode prog_13_method_12_code 18 = .ok (.ireturn, 1) := by decide +kernel
theorem d_X11_undo_19 : decode prog_13_method_12_code 19 = .ok (.aload_n 0, 1) := by decide +kernel
theorem d_X11_undo_20 : decode prog_13_method_12_code 20 = .ok (.dup, 1) := by decide +kernel
theorem d_X11_undo_21 : decode prog_13_method_12_code 21 = .ok (.getfield 151, 3) := by decide +kernel
theorem d_X11_undo_24 : decode prog_13_method_12_code 24 = .ok (.iconst 1, 1) := by decide +kernel
theorem d_X11_undo_25 : decode prog_13_method_12_code 25 = .ok (.isub, 1) := by decide +kernel
theorem d_X11_undo_26 : decode prog_13_method_12_code 26 = .ok (.putfield 151, 3) := by decide +kernel
theorem d_X11_undo_29 : decode prog_13_method_12_code 29 = .ok (.aload_n 0, 1) := by decide +kernel
theorem d_X11_undo_30 : decode prog_13_method_12_code 30 = .ok (.aload_n 0, 1) := by decide +kernel
theorem d_X11_undo_31 : decode prog_13_method_12_code 31 = .ok (.getfield 151, 3) := by decide +kernel
theorem d_X11_undo_34 : decode prog_13_method_12_code 34 = .ok (.invokevirtual 162, 3) := by decide +kernel
theorem d_X11_undo_37 : decode prog_13_method_12_code 37 = .ok (.aload_n 0, 1) := by decide +kernel
theorem d_X11_undo_38 : decode prog_13_method_12_code 38 = .ok (.aload_n 0, 1) := by decide +kernel
theorem d_X11_undo_39 : decode prog_13_method_12_code 39 = .ok (.getfield 26, 3) := by decide +kernel
theorem d_X11_undo_42 : decode prog_13_method_12_code 42 = .ok (.aload_n 0, 1) := by decide +kernel
theorem d_X11_undo_43 : decode prog_13_method_12_code 43 = .ok (.getfield 151, 3) := by decide +kernel
theorem d_X11_undo_46 : decode prog_13_method_12_code 46 = .ok (.iaload, 1) := by decide +kernel
theorem d_X11_undo_47 : decode prog_13_method_12_code 47 = .ok (.invokevirtual 154, 3) := by decide +kernel
theorem d_X11_undo_50 : decode prog_13_method_12_code 50 = .ok (.ireturn, 1) := by decide +kernel
theorem d_X11_image_0 : decode prog_13_method_13_code 0 = .ok (.aload_n 0, 1) := by decide +kernel
theorem d_X11_image_1 : decode prog_13_method_13_code 1 = .ok (.iconst 0, 1) := by decide +kernel
theorem d_X11_image_2 : decode prog_13_method_13_code 2 = .ok (.putfield 145, 3) := by decide +kernel
theorem d_X11_image_5 : decode prog_13_method_13_code 5 = .ok (.iload_n 1, 1) := by decide +kernel
theorem d_X11_image_6 : decode prog_13_method_13_code 6 = .ok (.i2l, 1) := by decide +kernel
theorem d_X11_image_7 : decode prog_13_method_13_code 7 = .ok (.lconst 0, 1) := by decide +kernel
theorem d_X11_image_8 : decode prog_13_method_13_code 8 = .ok (.lconst 1, 1) := by decide +kernel
theorem d_X11_image_9 : decode prog_13_method_13_code 9 = .ok (.invokestatic 165, 3) := by decide +kernel
theorem d_X11_image_12 : decode prog_13_method_13_code 12 = .ok (.ifCond .ne 9, 3) := by decide +kernel
theorem d_X11_image_15 : decode prog_13_method_13_code 15 = .ok (.aload_n 0, 1) := by decide +kernel
theorem d_X11_image_16 : decode prog_13_method_13_code 16 = .ok (.iconst (-1), 1) := by decide +kernel
theorem d_X11_image_17 : decode prog_13_method_13_code 17 = .ok (.invokevirtual 154, 3) := by decide +kernel
theorem d_X11_image_20 : decode prog_13_method_13_code 20 = .ok (.ireturn, 1) := by decide +kernel
theorem d_X11_image_21 : decode prog_13_method_13_code 21 = .ok (.iconst 0, 1) := by decide +kernel
theorem d_X11_image_22 : decode prog_13_method_13_code 22 = .ok (.istore_n 2, 1) := by decide +kernel
theorem d_X11_image_23 : decode prog_13_method_13_code 23 = .ok (.iload_n 2, 1) := by decide +kernel
theorem d_X11_image_24 : decode prog_13_method_13_code 24 = .ok (.sipush 5520, 3) := by decide +kernel
theorem d_X11_image_27 : decode prog_13_method_13_code 27 = .ok (.if_icmp .ge 27, 3) := by decide +kernel
theorem d_X11_image_30 : decode prog_13_method_13_code 30 = .ok (.aload_n 0, 1) := by decide +kernel
theorem d_X11_image_31 : decode prog_13_method_13_code 31 = .ok (.getfield 16, 3) := by decide +kernel
theorem d_X11_image_34 : decode prog_13_method_13_code 34 = .ok (.sipush 5520, 3) := by decide +kernel
theorem d_X11_image_37 : decode prog_13_method_13_code 37 = .ok (.iload_n 1, 1) := by decide +kernel
theorem d_X11_image_38 : decode prog_13_method_13_code 38 = .ok (.imul, 1) := by decide +kernel
theorem d_X11_image_39 : decode prog_13_method_13_code 39 = .ok (.iload_n 2, 1) := by decide +kernel
theorem d_X11_image_40 : decode prog_13_method_13_code 40 = .ok (.iadd, 1) := by decide +kernel
theorem d_X11_image_41 : decode prog_13_method_13_code 41 = .ok (.aload_n 0, 1) := by decide +kernel
theorem d_X11_image_42 : decode prog_13_method_13_code 42 = .ok (.getfield 13, 3) := by decide +kernel
theorem d_X11_image_45 : decode prog_13_method_13_code 45 = .ok (.iload_n 2, 1) := by decide +kernel
theorem d_X11_image_46 : decode prog_13_method_13_code 46 = .ok (.iaload, 1) := by decide +kernel
theorem d_X11_image_47 : decode prog_13_method_13_code 47 = .ok (.iastore, 1) := by decide +kernel
theorem d_X11_image_48 : decode prog_13_method_13_code 48 = .ok (.iinc 2 1, 3) := by decide +kernel
theorem d_X11_image_51 : decode prog_13_method_13_code 51 = .ok (.goto (-28), 3) := by decide +kernel
theorem d_X11_image_54 : decode prog_13_method_13_code 54 = .ok (.aload_n 0, 1) := by decide +kernel
theorem d_X11_image_55 : decode prog_13_method_13_code 55 = .ok (.getfield 19, 3) := by decide +kernel
theorem d_X11_image_58 : decode prog_13_method_13_code 58 = .ok (.iload_n 1, 1) := by decide +kernel
theorem d_X11_image_59 : decode prog_13_method_13_code 59 = .ok (.iconst 1, 1) := by decide +kernel
theorem d_X11_image_60 : decode prog_13_method_13_code 60 = .ok (.bastore, 1) := by decide +kernel
theorem d_X11_image_61 : decode prog_13_method_13_code 61 = .ok (.aload_n 0, 1) := by decide +kernel
theorem d_X11_image_62 : decode prog_13_method_13_code 62 = .ok (.iconst 0, 1) := by decide +kernel
theorem d_X11_image_63 : decode prog_13_method_13_code 63 = .ok (.invokevirtual 154, 3) := by decide +kernel
theorem d_X11_image_66 : decode prog_13_method_13_code 66 = .ok (.ireturn, 1) := by decide +kernel
theorem d_X11_back_0 : decode prog_13_method_14_code 0 = .ok (.aload_n 0, 1) := by decide +kernel
theorem d_X11_back_1 : decode prog_13_method_14_code 1 = .ok (.iconst 0, 1) := by decide +kernel
theorem d_X11_back_2 : decode prog_13_method_14_code 2 = .ok (.putfield 145, 3) := by decide +kernel
theorem d_X11_back_5 : decode prog_13_method_14_code 5 = .ok (.iload_n 1, 1) := by decide +kernel
theorem d_X11_back_6 : decode prog_13_method_14_code 6 = .ok (.i2l, 1) := by decide +kernel
theorem d_X11_back_7 : decode prog_13_method_14_code 7 = .ok (.lconst 0, 1) := by decide +kernel
theorem d_X11_back_8 : decode prog_13_method_14_code 8 = .ok (.lconst 1, 1) := by decide +kernel
theorem d_X11_back_9 : decode prog_13_method_14_code 9 = .ok (.invokestatic 165, 3) := by decide +kernel
theorem d_X11_back_12 : decode prog_13_method_14_code 12 = .ok (.ifCond .ne 9, 3) := by decide +kernel
theorem d_X11_back_15 : decode prog_13_method_14_code 15 = .ok (.aload_n 0, 1) := by decide +kernel
theorem d_X11_back_16 : decode prog_13_method_14_code 16 = .ok (.iconst (-1), 1) := by decide +kernel
theorem d_X11_back_17 : decode prog_13_method_14_code 17 = .ok (.invokevirtual 154, 3) := by decide +kernel
theorem d_X11_back_20 : decode prog_13_method_14_code 20 = .ok (.ireturn, 1) := by decide +kernel
theorem d_X11_back_21 : decode prog_13_method_14_code 21 = .ok (.aload_n 0, 1) := by decide +kernel
theorem d_X11_back_22 : decode prog_13_method_14_code 22 = .ok (.getfield 19, 3) := by decide +kernel
theorem d_X11_back_25 : decode prog_13_method_14_code 25 = .ok (.iload_n 1, 1) := by decide +kernel
theorem d_X11_back_26 : decode prog_13_method_14_code 26 = .ok (.baload, 1) := by decide +kernel
theorem d_X11_back_27 : decode prog_13_method_14_code 27 = .ok (.ifCond .ne 10, 3) := by decide +kernel
theorem d_X11_back_30 : decode prog_13_method_14_code 30 = .ok (.aload_n 0, 1) := by decide +kernel
theorem d_X11_back_31 : decode prog_13_method_14_code 31 = .ok (.bipush (-2), 2) := by decide +kernel
theorem d_X11_back_33 : decode prog_13_method_14_code 33 = .ok (.invokevirtual 154, 3) := by decide +kernel
theorem d_X11_back_36 : decode prog_13_method_14_code 36 = .ok (.ireturn, 1) := by decide +kernel
theorem d_X11_back_37 : decode prog_13_method_14_code 37 = .ok (.iconst 0, 1) := by decide +kernel
theorem d_X11_back_38 : decode prog_13_method_14_code 38 = .ok (.istore_n 2, 1) := by decide +kernel
theorem d_X11_back_39 : decode prog_13_method_14_code 39 = .ok (.iload_n 2, 1) := by decide +kernel
theorem d_X11_back_40 : decode prog_13_method_14_code 40 = .ok (.sipush 5520, 3) := by decide +kernel
theorem d_X11_back_43 : decode prog_13_method_14_code 43 = .ok (.if_icmp .ge 27, 3) := by decide +kernel
theorem d_X11_back_46 : decode prog_13_method_14_code 46 = .ok (.aload_n 0, 1) := by decide +kernel
theorem d_X11_back_47 : decode prog_13_method_14_code 47 = .ok (.getfield 13, 3) := by decide +kernel
theorem d_X11_back_50 : decode prog_13_method_14_code 50 = .ok (.iload_n 2, 1) := by decide +kernel
theorem d_X11_back_51 : decode prog_13_method_14_code 51 = .ok (.aload_n 0, 1) := by decide +kernel
theorem d_X11_back_52 : decode prog_13_method_14_code 52 = .ok (.getfield 16, 3) := by decide +kernel
theorem d_X11_back_55 : decode prog_13_method_14_code 55 = .ok (.sipush 5520, 3) := by decide +kernel
theorem d_X11_back_58 : decode prog_13_method_14_code 58 = .ok (.iload_n 1, 1) := by decide +kernel
theorem d_X11_back_59 : decode prog_13_method_14_code 59 = .ok (.imul, 1) := by decide +kernel
theorem d_X11_back_60 : decode prog_13_method_14_code 60 = .ok (.iload_n 2, 1) := by decide +kernel
theorem d_X11_back_61 : decode prog_13_method_14_code 61 = .ok (.iadd, 1) := by decide +kernel
theorem d_X11_back_62 : decode prog_13_method_14_code 62 = .ok (.iaload, 1) := by decide +kernel
theorem d_X11_back_63 : decode prog_13_method_14_code 63 = .ok (.iastore, 1) := by decide +kernel
theorem d_X11_back_64 : decode prog_13_method_14_code 64 = .ok (.iinc 2 1, 3) := by decide +kernel
theorem d_X11_back_67 : decode prog_13_method_14_code 67 = .ok (.goto (-28), 3) := by decide +kernel
theorem d_X11_back_70 : decode prog_13_method_14_code 70 = .ok (.aload_n 0, 1) := by decide +kernel
theorem d_X11_back_71 : decode prog_13_method_14_code 71 = .ok (.iconst 0, 1) := by decide +kernel
theorem d_X11_back_72 : decode prog_13_method_14_code 72 = .ok (.invokevirtual 169, 3) := by decide +kernel
theorem d_X11_back_75 : decode prog_13_method_14_code 75 = .ok (.ireturn, 1) := by decide +kernel
theorem d_X11_isGood_0 : decode prog_13_method_15_code 0 = .ok (.iload_n 1, 1) := by decide +kernel
theorem d_X11_isGood_1 : decode prog_13_method_15_code 1 = .ok (.i2l, 1) := by decide +kernel
theorem d_X11_isGood_2 : decode prog_13_method_15_code 2 = .ok (.lconst 0, 1) := by decide +kernel
theorem d_X11_isGood_3 : decode prog_13_method_15_code 3 = .ok (.aload_n 0, 1) := by decide +kernel
theorem d_X11_isGood_4 : decode prog_13_method_15_code 4 = .ok (.getfield 13, 3) := by decide +kernel
theorem d_X11_isGood_7 : decode prog_13_method_15_code 7 = .ok (.iconst 0, 1) := by decide +kernel
theorem d_X11_isGood_8 : decode prog_13_method_15_code 8 = .ok (.iaload, 1) := by decide +kernel
theorem d_X11_isGood_9 : decode prog_13_method_15_code 9 = .ok (.i2l, 1) := by decide +kernel
theorem d_X11_isGood_10 : decode prog_13_method_15_code 10 = .ok (.lconst 1, 1) := by decide +kernel
theorem d_X11_isGood_11 : decode prog_13_method_15_code 11 = .ok (.lsub, 1) := by decide +kernel
theorem d_X11_isGood_12 : decode prog_13_method_15_code 12 = .ok (.invokestatic 165, 3) := by decide +kernel
theorem d_X11_isGood_15 : decode prog_13_method_15_code 15 = .ok (.ireturn, 1) := by decide +kernel
theorem d_X11_isPerson_0 : decode prog_13_method_16_code 0 = .ok (.iload_n 1, 1) := by decide +kernel
theorem d_X11_isPerson_1 : decode prog_13_method_16_code 1 = .ok (.i2l, 1) := by decide +kernel
theorem d_X11_isPerson_2 : decode prog_13_method_16_code 2 = .ok (.lconst 0, 1) := by decide +kernel
theorem d_X11_isPerson_3 : decode prog_13_method_16_code 3 = .ok (.aload_n 0, 1) := by decide +kernel
theorem d_X11_isPerson_4 : decode prog_13_method_16_code 4 = .ok (.getfield 13, 3) := by decide +kernel
theorem d_X11_isPerson_7 : decode prog_13_method_16_code 7 = .ok (.iconst 1, 1) := by decide +kernel
theorem d_X11_isPerson_8 : decode prog_13_method_16_code 8 = .ok (.iaload, 1) := by decide +kernel
theorem d_X11_isPerson_9 : decode prog_13_method_16_code 9 = .ok (.i2l, 1) := by decide +kernel
theorem d_X11_isPerson_10 : decode prog_13_method_16_code 10 = .ok (.lconst 1, 1) := by decide +kernel
theorem d_X11_isPerson_11 : decode prog_13_method_16_code 11 = .ok (.lsub, 1) := by decide +kernel
theorem d_X11_isPerson_12 : decode prog_13_method_16_code 12 = .ok (.invokestatic 165, 3) := by decide +kernel
theorem d_X11_isPerson_15 : decode prog_13_method_16_code 15 = .ok (.ireturn, 1) := by decide +kernel
theorem d_X11_stepsOf_0 : decode prog_13_method_17_code 0 = .ok (.iload_n 0, 1) := by decide +kernel
theorem d_X11_stepsOf_1 : decode prog_13_method_17_code 1 = .ok (.iconst 5, 1) := by decide +kernel
theorem d_X11_stepsOf_2 : decode prog_13_method_17_code 2 = .ok (.irem, 1) := by decide +kernel
theorem d_X11_stepsOf_3 : decode prog_13_method_17_code 3 = .ok (.iload_n 1, 1) := by decide +kernel
theorem d_X11_stepsOf_4 : decode prog_13_method_17_code 4 = .ok (.iconst 5, 1) := by decide +kernel
theorem d_X11_stepsOf_5 : decode prog_13_method_17_code 5 = .ok (.irem, 1) := by decide +kernel
theorem d_X11_stepsOf_6 : decode prog_13_method_17_code 6 = .ok (.isub, 1) := by decide +kernel
theorem d_X11_stepsOf_7 : decode prog_13_method_17_code 7 = .ok (.istore_n 2, 1) := by decide +kernel
theorem d_X11_stepsOf_8 : decode prog_13_method_17_code 8 = .ok (.iload_n 0, 1) := by decide +kernel
theorem d_X11_stepsOf_9 : decode prog_13_method_17_code 9 = .ok (.iconst 5, 1) := by decide +kernel
theorem d_X11_stepsOf_10 : decode prog_13_method_17_code 10 = .ok (.idiv, 1) := by decide +kernel
theorem d_X11_stepsOf_11 : decode prog_13_method_17_code 11 = .ok (.iload_n 1, 1) := by decide +kernel
theorem d_X11_stepsOf_12 : decode prog_13_method_17_code 12 = .ok (.iconst 5, 1) := by decide +kernel
theorem d_X11_stepsOf_13 : decode prog_13_method_17_code 13 = .ok (.idiv, 1) := by decide +kernel
theorem d_X11_stepsOf_14 : decode prog_13_method_17_code 14 = .ok (.isub, 1) := by decide +kernel
theorem d_X11_stepsOf_15 : decode prog_13_method_17_code 15 = .ok (.istore_n 3, 1) := by decide +kernel
theorem d_X11_stepsOf_16 : decode prog_13_method_17_code 16 = .ok (.iload_n 2, 1) := by decide +kernel
theorem d_X11_stepsOf_17 : decode prog_13_method_17_code 17 = .ok (.ifCond .ge 8, 3) := by decide +kernel
theorem d_X11_stepsOf_20 : decode prog_13_method_17_code 20 = .ok (.iload_n 2, 1) := by decide +kernel
theorem d_X11_stepsOf_21 : decode prog_13_method_17_code 21 = .ok (.ineg, 1) := by decide +kernel
theorem d_X11_stepsOf_22 : decode prog_13_method_17_code 22 = .ok (.goto 4, 3) := by decide +kernel
theorem d_X11_stepsOf_25 : decode prog_13_method_17_code 25 = .ok (.iload_n 2, 1) := by decide +kernel
theorem d_X11_stepsOf_26 : decode prog_13_method_17_code 26 = .ok (.iload_n 3, 1) := by decide +kernel
theorem d_X11_stepsOf_27 : decode prog_13_method_17_code 27 = .ok (.ifCond .ge 8, 3) := by decide +kernel
theorem d_X11_stepsOf_30 : decode prog_13_method_17_code 30 = .ok (.iload_n 3, 1) := by decide +kernel
theorem d_X11_stepsOf_31 : decode prog_13_method_17_code 31 = .ok (.ineg, 1) := by decide +kernel
theorem d_X11_stepsOf_32 : decode prog_13_method_17_code 32 = .ok (.goto 4, 3) := by decide +kernel
theorem d_X11_stepsOf_35 : decode prog_13_method_17_code 35 = .ok (.iload_n 3, 1) := by decide +kernel
theorem d_X11_stepsOf_36 : decode prog_13_method_17_code 36 = .ok (.iadd, 1) := by decide +kernel
theorem d_X11_stepsOf_37 : decode prog_13_method_17_code 37 = .ok (.ireturn, 1) := by decide +kernel
theorem d_X11_lackingOnes_0 : decode prog_13_method_18_code 0 = .ok (.iconst 0, 1) := by decide +kernel
theorem d_X11_lackingOnes_1 : decode prog_13_method_18_code 1 = .ok (.istore_n 1, 1) := by decide +kernel
theorem d_X11_lackingOnes_2 : decode prog_13_method_18_code 2 = .ok (.iconst 0, 1) := by decide +kernel
theorem d_X11_lackingOnes_3 : decode prog_13_method_18_code 3 = .ok (.istore_n 2, 1) := by decide +kernel
theorem d_X11_lackingOnes_4 : decode prog_13_method_18_code 4 = .ok (.iload_n 2, 1) := by decide +kernel
theorem d_X11_lackingOnes_5 : decode prog_13_method_18_code 5 = .ok (.aload_n 0, 1) := by decide +kernel
theorem d_X11_lackingOnes_6 : decode prog_13_method_18_code 6 = .ok (.getfield 13, 3) := by decide +kernel
theorem d_X11_lackingOnes_9 : decode prog_13_method_18_code 9 = .ok (.iconst 0, 1) := by decide +kernel
theorem d_X11_lackingOnes_10 : decode prog_13_method_18_code 10 = .ok (.iaload, 1) := by decide +kernel
theorem d_X11_lackingOnes_11 : decode prog_13_method_18_code 11 = .ok (.if_icmp .ge 21, 3) := by decide +kernel
theorem d_X11_lackingOnes_14 : decode prog_13_method_18_code 14 = .ok (.iload_n 1, 1) := by decide +kernel
theorem d_X11_lackingOnes_15 : decode prog_13_method_18_code 15 = .ok (.aload_n 0, 1) := by decide +kernel
theorem d_X11_lackingOnes_16 : decode prog_13_method_18_code 16 = .ok (.getfield 13, 3) := by decide +kernel
theorem d_X11_lackingOnes_19 : decode prog_13_method_18_code 19 = .ok (.bipush 16, 2) := by decide +kernel
theorem d_X11_lackingOnes_21 : decode prog_13_method_18_code 21 = .ok (.iload_n 2, 1) := by decide +kernel
theorem d_X11_lackingOnes_22 : decode prog_13_method_18_code 22 = .ok (.iadd, 1) := by decide +kernel
theorem d_X11_lackingOnes_23 : decode prog_13_method_18_code 23 = .ok (.iaload, 1) := by decide +kernel
theorem d_X11_lackingOnes_24 : decode prog_13_method_18_code 24 = .ok (.iadd, 1) := by decide +kernel
theorem d_X11_lackingOnes_25 : decode prog_13_method_18_code 25 = .ok (.istore_n 1, 1) := by decide +kernel
theorem d_X11_lackingOnes_26 : decode prog_13_method_18_code 26 = .ok (.iinc 2 1, 3) := by decide +kernel
theorem d_X11_lackingOnes_29 : decode prog_13_method_18_code 29 = .ok (.goto (-25), 3) := by decide +kernel
theorem d_X11_lackingOnes_32 : decode prog_13_method_18_code 32 = .ok (.iload_n 1, 1) := by decide +kernel
theorem d_X11_lackingOnes_33 : decode prog_13_method_18_code 33 = .ok (.ireturn, 1) := by decide +kernel
