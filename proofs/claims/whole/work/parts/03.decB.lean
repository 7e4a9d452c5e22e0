theorem dX5_init_0 : decode cX5_init 0 = .ok (.aload_n 0, 1) := by decide +kernel
theorem dX5_init_1 : decode cX5_init 1 = .ok (.invokespecial 1, 3) := by decide +kernel
theorem dX5_init_4 : decode cX5_init 4 = .ok (.aload_n 0, 1) := by decide +kernel
theorem dX5_init_5 : decode cX5_init 5 = .ok (.new 7, 3) := by decide +kernel
theorem dX5_init_8 : decode cX5_init 8 = .ok (.dup, 1) := by decide +kernel
theorem dX5_init_9 : decode cX5_init 9 = .ok (.bipush 6, 2) := by decide +kernel
theorem dX5_init_11 : decode cX5_init 11 = .ok (.bipush 40, 2) := by decide +kernel
theorem dX5_init_13 : decode cX5_init 13 = .ok (.invokespecial 11, 3) := by decide +kernel
theorem dX5_init_16 : decode cX5_init 16 = .ok (.putfield 14, 3) := by decide +kernel
theorem dX5_init_19 : decode cX5_init 19 = .ok (.aload_n 0, 1) := by decide +kernel
theorem dX5_init_20 : decode cX5_init 20 = .ok (.new 7, 3) := by decide +kernel
theorem dX5_init_23 : decode cX5_init 23 = .ok (.dup, 1) := by decide +kernel
theorem dX5_init_24 : decode cX5_init 24 = .ok (.iconst 4, 1) := by decide +kernel
theorem dX5_init_25 : decode cX5_init 25 = .ok (.bipush 60, 2) := by decide +kernel
theorem dX5_init_27 : decode cX5_init 27 = .ok (.invokespecial 11, 3) := by decide +kernel
theorem dX5_init_30 : decode cX5_init 30 = .ok (.putfield 18, 3) := by decide +kernel
theorem dX5_init_33 : decode cX5_init 33 = .ok (.aload_n 0, 1) := by decide +kernel
theorem dX5_init_34 : decode cX5_init 34 = .ok (.new 21, 3) := by decide +kernel
theorem dX5_init_37 : decode cX5_init 37 = .ok (.dup, 1) := by decide +kernel
theorem dX5_init_38 : decode cX5_init 38 = .ok (.invokespecial 23, 3) := by decide +kernel
theorem dX5_init_41 : decode cX5_init 41 = .ok (.putfield 24, 3) := by decide +kernel
theorem dX5_init_44 : decode cX5_init 44 = .ok (.aload_n 0, 1) := by decide +kernel
theorem dX5_init_45 : decode cX5_init 45 = .ok (.new 28, 3) := by decide +kernel
theorem dX5_init_48 : decode cX5_init 48 = .ok (.dup, 1) := by decide +kernel
theorem dX5_init_49 : decode cX5_init 49 = .ok (.invokespecial 30, 3) := by decide +kernel
theorem dX5_init_52 : decode cX5_init 52 = .ok (.putfield 31, 3) := by decide +kernel
theorem dX5_init_55 : decode cX5_init 55 = .ok (.aload_n 0, 1) := by decide +kernel
theorem dX5_init_56 : decode cX5_init 56 = .ok (.iconst 3, 1) := by decide +kernel
theorem dX5_init_57 : decode cX5_init 57 = .ok (.anewarray 28, 3) := by decide +kernel
theorem dX5_init_60 : decode cX5_init 60 = .ok (.putfield 35, 3) := by decide +kernel
theorem dX5_init_63 : decode cX5_init 63 = .ok (.iconst 0, 1) := by decide +kernel
theorem dX5_init_64 : decode cX5_init 64 = .ok (.istore_n 1, 1) := by decide +kernel
theorem dX5_init_65 : decode cX5_init 65 = .ok (.iload_n 1, 1) := by decide +kernel
theorem dX5_init_66 : decode cX5_init 66 = .ok (.iconst 3, 1) := by decide +kernel
theorem dX5_init_67 : decode cX5_init 67 = .ok (.if_icmp .ge 32, 3) := by decide +kernel
theorem dX5_init_70 : decode cX5_init 70 = .ok (.aload_n 0, 1) := by decide +kernel
theorem dX5_init_71 : decode cX5_init 71 = .ok (.getfield 35, 3) := by decide +kernel
theorem dX5_init_74 : decode cX5_init 74 = .ok (.iload_n 1, 1) := by decide +kernel
theorem dX5_init_75 : decode cX5_init 75 = .ok (.new 28, 3) := by decide +kernel
theorem dX5_init_78 : decode cX5_init 78 = .ok (.dup, 1) := by decide +kernel
theorem dX5_init_79 : decode cX5_init 79 = .ok (.invokespecial 30, 3) := by decide +kernel
theorem dX5_init_82 : decode cX5_init 82 = .ok (.aastore, 1) := by decide +kernel
theorem dX5_init_83 : decode cX5_init 83 = .ok (.aload_n 0, 1) := by decide +kernel
theorem dX5_init_84 : decode cX5_init 84 = .ok (.getfield 35, 3) := by decide +kernel
theorem dX5_init_87 : decode cX5_init 87 = .ok (.iload_n 1, 1) := by decide +kernel
theorem dX5_init_88 : decode cX5_init 88 = .ok (.aaload, 1) := by decide +kernel
theorem dX5_init_89 : decode cX5_init 89 = .ok (.iconst (-1), 1) := by decide +kernel
theorem dX5_init_90 : decode cX5_init 90 = .ok (.putfield 39, 3) := by decide +kernel
theorem dX5_init_93 : decode cX5_init 93 = .ok (.iinc 1 1, 3) := by decide +kernel
theorem dX5_init_96 : decode cX5_init 96 = .ok (.goto (-31), 3) := by decide +kernel
theorem dX5_init_99 : decode cX5_init 99 = .ok (.aload_n 0, 1) := by decide +kernel
theorem dX5_init_100 : decode cX5_init 100 = .ok (.new 43, 3) := by decide +kernel
theorem dX5_init_103 : decode cX5_init 103 = .ok (.dup, 1) := by decide +kernel
theorem dX5_init_104 : decode cX5_init 104 = .ok (.aload_n 0, 1) := by decide +kernel
theorem dX5_init_105 : decode cX5_init 105 = .ok (.getfield 31, 3) := by decide +kernel
theorem dX5_init_108 : decode cX5_init 108 = .ok (.getfield 45, 3) := by decide +kernel
theorem dX5_init_111 : decode cX5_init 111 = .ok (.invokespecial 49, 3) := by decide +kernel
theorem dX5_init_114 : decode cX5_init 114 = .ok (.putfield 52, 3) := by decide +kernel
theorem dX5_init_117 : decode cX5_init 117 = .ok (.aload_n 0, 1) := by decide +kernel
theorem dX5_init_118 : decode cX5_init 118 = .ok (.bipush 6, 2) := by decide +kernel
theorem dX5_init_120 : decode cX5_init 120 = .ok (.newarray .int, 2) := by decide +kernel
theorem dX5_init_122 : decode cX5_init 122 = .ok (.putfield 56, 3) := by decide +kernel
theorem dX5_init_125 : decode cX5_init 125 = .ok (.aload_n 0, 1) := by decide +kernel
theorem dX5_init_126 : decode cX5_init 126 = .ok (.lconst 1, 1) := by decide +kernel
theorem dX5_init_127 : decode cX5_init 127 = .ok (.putfield 60, 3) := by decide +kernel
theorem dX5_init_130 : decode cX5_init 130 = .ok (.return_, 1) := by decide +kernel
theorem dX5_row_0 : decode cX5_row 0 = .ok (.aload_n 0, 1) := by decide +kernel
theorem dX5_row_1 : decode cX5_row 1 = .ok (.aload_n 0, 1) := by decide +kernel
theorem dX5_row_2 : decode cX5_row 2 = .ok (.getfield 14, 3) := by decide +kernel
theorem dX5_row_5 : decode cX5_row 5 = .ok (.iload_n 1, 1) := by decide +kernel
theorem dX5_row_6 : decode cX5_row 6 = .ok (.iload_n 2, 1) := by decide +kernel
theorem dX5_row_7 : decode cX5_row 7 = .ok (.iconst 0, 1) := by decide +kernel
theorem dX5_row_8 : decode cX5_row 8 = .ok (.invokevirtual 64, 3) := by decide +kernel
theorem dX5_row_11 : decode cX5_row 11 = .ok (.ireturn, 1) := by decide +kernel
theorem dX5_lay_0 : decode cX5_lay 0 = .ok (.aload_n 0, 1) := by decide +kernel
theorem dX5_lay_1 : decode cX5_lay 1 = .ok (.aload_n 0, 1) := by decide +kernel
theorem dX5_lay_2 : decode cX5_lay 2 = .ok (.getfield 14, 3) := by decide +kernel
theorem dX5_lay_5 : decode cX5_lay 5 = .ok (.iload_n 1, 1) := by decide +kernel
theorem dX5_lay_6 : decode cX5_lay 6 = .ok (.iload_n 2, 1) := by decide +kernel
theorem dX5_lay_7 : decode cX5_lay 7 = .ok (.invokevirtual 68, 3) := by decide +kernel
theorem dX5_lay_10 : decode cX5_lay 10 = .ok (.istore 4, 2) := by decide +kernel
theorem dX5_lay_12 : decode cX5_lay 12 = .ok (.iload 4, 2) := by decide +kernel
theorem dX5_lay_14 : decode cX5_lay 14 = .ok (.ifCond .eq 6, 3) := by decide +kernel
theorem dX5_lay_17 : decode cX5_lay 17 = .ok (.iload 4, 2) := by decide +kernel
theorem dX5_lay_19 : decode cX5_lay 19 = .ok (.ireturn, 1) := by decide +kernel
theorem dX5_lay_20 : decode cX5_lay 20 = .ok (.aload_n 0, 1) := by decide +kernel
theorem dX5_lay_21 : decode cX5_lay 21 = .ok (.aload_n 0, 1) := by decide +kernel
theorem dX5_lay_22 : decode cX5_lay 22 = .ok (.getfield 14, 3) := by decide +kernel
theorem dX5_lay_25 : decode cX5_lay 25 = .ok (.iload_n 1, 1) := by decide +kernel
theorem dX5_lay_26 : decode cX5_lay 26 = .ok (.iload_n 2, 1) := by decide +kernel
theorem dX5_lay_27 : decode cX5_lay 27 = .ok (.iload_n 3, 1) := by decide +kernel
theorem dX5_lay_28 : decode cX5_lay 28 = .ok (.invokevirtual 72, 3) := by decide +kernel
theorem dX5_lay_31 : decode cX5_lay 31 = .ok (.invokevirtual 76, 3) := by decide +kernel
theorem dX5_lay_34 : decode cX5_lay 34 = .ok (.ireturn, 1) := by decide +kernel
theorem dX5_at_0 : decode cX5_at 0 = .ok (.aload_n 0, 1) := by decide +kernel
theorem dX5_at_1 : decode cX5_at 1 = .ok (.aload_n 0, 1) := by decide +kernel
theorem dX5_at_2 : decode cX5_at 2 = .ok (.getfield 14, 3) := by decide +kernel
theorem dX5_at_5 : decode cX5_at 5 = .ok (.iload_n 1, 1) := by decide +kernel
theorem dX5_at_6 : decode cX5_at 6 = .ok (.iload_n 2, 1) := by decide +kernel
theorem dX5_at_7 : decode cX5_at 7 = .ok (.invokevirtual 68, 3) := by decide +kernel
theorem dX5_at_10 : decode cX5_at 10 = .ok (.istore_n 3, 1) := by decide +kernel
theorem dX5_at_11 : decode cX5_at 11 = .ok (.iload_n 3, 1) := by decide +kernel
theorem dX5_at_12 : decode cX5_at 12 = .ok (.ifCond .eq 5, 3) := by decide +kernel
theorem dX5_at_15 : decode cX5_at 15 = .ok (.iload_n 3, 1) := by decide +kernel
theorem dX5_at_16 : decode cX5_at 16 = .ok (.ireturn, 1) := by decide +kernel
theorem dX5_at_17 : decode cX5_at 17 = .ok (.aload_n 0, 1) := by decide +kernel
theorem dX5_at_18 : decode cX5_at 18 = .ok (.aload_n 0, 1) := by decide +kernel
theorem dX5_at_19 : decode cX5_at 19 = .ok (.getfield 14, 3) := by decide +kernel
theorem dX5_at_22 : decode cX5_at 22 = .ok (.iload_n 1, 1) := by decide +kernel
theorem dX5_at_23 : decode cX5_at 23 = .ok (.iload_n 2, 1) := by decide +kernel
theorem dX5_at_24 : decode cX5_at 24 = .ok (.invokevirtual 80, 3) := by decide +kernel
theorem dX5_at_27 : decode cX5_at 27 = .ok (.invokevirtual 76, 3) := by decide +kernel
theorem dX5_at_30 : decode cX5_at 30 = .ok (.ireturn, 1) := by decide +kernel
theorem dX5_tear_0 : decode cX5_tear 0 = .ok (.aload_n 0, 1) := by decide +kernel
theorem dX5_tear_1 : decode cX5_tear 1 = .ok (.aload_n 0, 1) := by decide +kernel
theorem dX5_tear_2 : decode cX5_tear 2 = .ok (.getfield 14, 3) := by decide +kernel
theorem dX5_tear_5 : decode cX5_tear 5 = .ok (.iload_n 1, 1) := by decide +kernel
theorem dX5_tear_6 : decode cX5_tear 6 = .ok (.invokevirtual 84, 3) := by decide +kernel
theorem dX5_tear_9 : decode cX5_tear 9 = .ok (.istore_n 2, 1) := by decide +kernel
theorem dX5_tear_10 : decode cX5_tear 10 = .ok (.iload_n 2, 1) := by decide +kernel
theorem dX5_tear_11 : decode cX5_tear 11 = .ok (.ifCond .eq 5, 3) := by decide +kernel
theorem dX5_tear_14 : decode cX5_tear 14 = .ok (.iload_n 2, 1) := by decide +kernel
theorem dX5_tear_15 : decode cX5_tear 15 = .ok (.ireturn, 1) := by decide +kernel
theorem dX5_tear_16 : decode cX5_tear 16 = .ok (.aload_n 0, 1) := by decide +kernel
theorem dX5_tear_17 : decode cX5_tear 17 = .ok (.getfield 14, 3) := by decide +kernel
theorem dX5_tear_20 : decode cX5_tear 20 = .ok (.iload_n 1, 1) := by decide +kernel
theorem dX5_tear_21 : decode cX5_tear 21 = .ok (.invokevirtual 88, 3) := by decide +kernel
theorem dX5_tear_24 : decode cX5_tear 24 = .ok (.iconst 1, 1) := by decide +kernel
theorem dX5_tear_25 : decode cX5_tear 25 = .ok (.ireturn, 1) := by decide +kernel
theorem dX5_copy_0 : decode cX5_copy 0 = .ok (.aload_n 0, 1) := by decide +kernel
theorem dX5_copy_1 : decode cX5_copy 1 = .ok (.getfield 14, 3) := by decide +kernel
theorem dX5_copy_4 : decode cX5_copy 4 = .ok (.iload_n 1, 1) := by decide +kernel
theorem dX5_copy_5 : decode cX5_copy 5 = .ok (.invokevirtual 92, 3) := by decide +kernel
theorem dX5_copy_8 : decode cX5_copy 8 = .ok (.ifCond .eq 14, 3) := by decide +kernel
theorem dX5_copy_11 : decode cX5_copy 11 = .ok (.aload_n 0, 1) := by decide +kernel
theorem dX5_copy_12 : decode cX5_copy 12 = .ok (.getfield 14, 3) := by decide +kernel
theorem dX5_copy_15 : decode cX5_copy 15 = .ok (.iload_n 3, 1) := by decide +kernel
theorem dX5_copy_16 : decode cX5_copy 16 = .ok (.invokevirtual 92, 3) := by decide +kernel
theorem dX5_copy_19 : decode cX5_copy 19 = .ok (.ifCond .ne 5, 3) := by decide +kernel
theorem dX5_copy_22 : decode cX5_copy 22 = .ok (.iconst (-1), 1) := by decide +kernel
theorem dX5_copy_23 : decode cX5_copy 23 = .ok (.ireturn, 1) := by decide +kernel
theorem dX5_copy_24 : decode cX5_copy 24 = .ok (.iload 5, 2) := by decide +kernel
theorem dX5_copy_26 : decode cX5_copy 26 = .ok (.ifCond .ge 9, 3) := by decide +kernel
theorem dX5_copy_29 : decode cX5_copy 29 = .ok (.aload_n 0, 1) := by decide +kernel
theorem dX5_copy_30 : decode cX5_copy 30 = .ok (.iconst 5, 1) := by decide +kernel
theorem dX5_copy_31 : decode cX5_copy 31 = .ok (.invokevirtual 96, 3) := by decide +kernel
theorem dX5_copy_34 : decode cX5_copy 34 = .ok (.ireturn, 1) := by decide +kernel
theorem dX5_copy_35 : decode cX5_copy 35 = .ok (.aload_n 0, 1) := by decide +kernel
theorem dX5_copy_36 : decode cX5_copy 36 = .ok (.getfield 14, 3) := by decide +kernel
theorem dX5_copy_39 : decode cX5_copy 39 = .ok (.iload_n 1, 1) := by decide +kernel
theorem dX5_copy_40 : decode cX5_copy 40 = .ok (.invokevirtual 99, 3) := by decide +kernel
theorem dX5_copy_43 : decode cX5_copy 43 = .ok (.ifCond .ne 14, 3) := by decide +kernel
theorem dX5_copy_46 : decode cX5_copy 46 = .ok (.aload_n 0, 1) := by decide +kernel
theorem dX5_copy_47 : decode cX5_copy 47 = .ok (.getfield 14, 3) := by decide +kernel
theorem dX5_copy_50 : decode cX5_copy 50 = .ok (.iload_n 3, 1) := by decide +kernel
theorem dX5_copy_51 : decode cX5_copy 51 = .ok (.invokevirtual 99, 3) := by decide +kernel
theorem dX5_copy_54 : decode cX5_copy 54 = .ok (.ifCond .eq 9, 3) := by decide +kernel
theorem dX5_copy_57 : decode cX5_copy 57 = .ok (.aload_n 0, 1) := by decide +kernel
theorem dX5_copy_58 : decode cX5_copy 58 = .ok (.iconst 1, 1) := by decide +kernel
theorem dX5_copy_59 : decode cX5_copy 59 = .ok (.invokevirtual 96, 3) := by decide +kernel
theorem dX5_copy_62 : decode cX5_copy 62 = .ok (.ireturn, 1) := by decide +kernel
theorem dX5_copy_63 : decode cX5_copy 63 = .ok (.aload_n 0, 1) := by decide +kernel
theorem dX5_copy_64 : decode cX5_copy 64 = .ok (.getfield 14, 3) := by decide +kernel
theorem dX5_copy_67 : decode cX5_copy 67 = .ok (.iload_n 1, 1) := by decide +kernel
theorem dX5_copy_68 : decode cX5_copy 68 = .ok (.iload_n 2, 1) := by decide +kernel
theorem dX5_copy_69 : decode cX5_copy 69 = .ok (.iload 5, 2) := by decide +kernel
theorem dX5_copy_71 : decode cX5_copy 71 = .ok (.invokevirtual 102, 3) := by decide +kernel
theorem dX5_copy_74 : decode cX5_copy 74 = .ok (.ifCond .eq 18, 3) := by decide +kernel
theorem dX5_copy_77 : decode cX5_copy 77 = .ok (.aload_n 0, 1) := by decide +kernel
theorem dX5_copy_78 : decode cX5_copy 78 = .ok (.getfield 14, 3) := by decide +kernel
theorem dX5_copy_81 : decode cX5_copy 81 = .ok (.iload_n 3, 1) := by decide +kernel
theorem dX5_copy_82 : decode cX5_copy 82 = .ok (.iload 4, 2) := by decide +kernel
theorem dX5_copy_84 : decode cX5_copy 84 = .ok (.iload 5, 2) := by decide +kernel
theorem dX5_copy_86 : decode cX5_copy 86 = .ok (.invokevirtual 102, 3) := by decide +kernel
theorem dX5_copy_89 : decode cX5_copy 89 = .ok (.ifCond .ne 9, 3) := by decide +kernel
theorem dX5_copy_92 : decode cX5_copy 92 = .ok (.aload_n 0, 1) := by decide +kernel
theorem dX5_copy_93 : decode cX5_copy 93 = .ok (.iconst 2, 1) := by decide +kernel
theorem dX5_copy_94 : decode cX5_copy 94 = .ok (.invokevirtual 96, 3) := by decide +kernel
theorem dX5_copy_97 : decode cX5_copy 97 = .ok (.ireturn, 1) := by decide +kernel
theorem dX5_copy_98 : decode cX5_copy 98 = .ok (.aload_n 0, 1) := by decide +kernel
theorem dX5_copy_99 : decode cX5_copy 99 = .ok (.getfield 14, 3) := by decide +kernel
theorem dX5_copy_102 : decode cX5_copy 102 = .ok (.iload_n 1, 1) := by decide +kernel
theorem dX5_copy_103 : decode cX5_copy 103 = .ok (.iload_n 2, 1) := by decide +kernel
theorem dX5_copy_104 : decode cX5_copy 104 = .ok (.iload_n 3, 1) := by decide +kernel
theorem dX5_copy_105 : decode cX5_copy 105 = .ok (.iload 4, 2) := by decide +kernel
theorem dX5_copy_107 : decode cX5_copy 107 = .ok (.iload 5, 2) := by decide +kernel
theorem dX5_copy_109 : decode cX5_copy 109 = .ok (.invokevirtual 106, 3) := by decide +kernel
theorem dX5_copy_112 : decode cX5_copy 112 = .ok (.iconst 1, 1) := by decide +kernel
theorem dX5_copy_113 : decode cX5_copy 113 = .ok (.ireturn, 1) := by decide +kernel
theorem dX5_mean_0 : decode cX5_mean 0 = .ok (.aload_n 0, 1) := by decide +kernel
theorem dX5_mean_1 : decode cX5_mean 1 = .ok (.aload_n 0, 1) := by decide +kernel
theorem dX5_mean_2 : decode cX5_mean 2 = .ok (.getfield 14, 3) := by decide +kernel
theorem dX5_mean_5 : decode cX5_mean 5 = .ok (.iload_n 1, 1) := by decide +kernel
theorem dX5_mean_6 : decode cX5_mean 6 = .ok (.invokevirtual 84, 3) := by decide +kernel
theorem dX5_mean_9 : decode cX5_mean 9 = .ok (.istore_n 2, 1) := by decide +kernel
theorem dX5_mean_10 : decode cX5_mean 10 = .ok (.iload_n 2, 1) := by decide +kernel
theorem dX5_mean_11 : decode cX5_mean 11 = .ok (.ifCond .eq 5, 3) := by decide +kernel
theorem dX5_mean_14 : decode cX5_mean 14 = .ok (.iload_n 2, 1) := by decide +kernel
theorem dX5_mean_15 : decode cX5_mean 15 = .ok (.ireturn, 1) := by decide +kernel
theorem dX5_mean_16 : decode cX5_mean 16 = .ok (.aload_n 0, 1) := by decide +kernel
theorem dX5_mean_17 : decode cX5_mean 17 = .ok (.getfield 14, 3) := by decide +kernel
theorem dX5_mean_20 : decode cX5_mean 20 = .ok (.iload_n 1, 1) := by decide +kernel
theorem dX5_mean_21 : decode cX5_mean 21 = .ok (.invokevirtual 110, 3) := by decide +kernel
theorem dX5_mean_24 : decode cX5_mean 24 = .ok (.istore_n 3, 1) := by decide +kernel
theorem dX5_mean_25 : decode cX5_mean 25 = .ok (.iload_n 3, 1) := by decide +kernel
theorem dX5_mean_26 : decode cX5_mean 26 = .ok (.ifCond .gt 9, 3) := by decide +kernel
theorem dX5_mean_29 : decode cX5_mean 29 = .ok (.aload_n 0, 1) := by decide +kernel
theorem dX5_mean_30 : decode cX5_mean 30 = .ok (.iconst 4, 1) := by decide +kernel
theorem dX5_mean_31 : decode cX5_mean 31 = .ok (.invokevirtual 96, 3) := by decide +kernel
theorem dX5_mean_34 : decode cX5_mean 34 = .ok (.ireturn, 1) := by decide +kernel
theorem dX5_mean_35 : decode cX5_mean 35 = .ok (.aload_n 0, 1) := by decide +kernel
theorem dX5_mean_36 : decode cX5_mean 36 = .ok (.aload_n 0, 1) := by decide +kernel
theorem dX5_mean_37 : decode cX5_mean 37 = .ok (.getfield 14, 3) := by decide +kernel
theorem dX5_mean_40 : decode cX5_mean 40 = .ok (.iload_n 1, 1) := by decide +kernel
theorem dX5_mean_41 : decode cX5_mean 41 = .ok (.invokevirtual 113, 3) := by decide +kernel
theorem dX5_mean_44 : decode cX5_mean 44 = .ok (.iload_n 3, 1) := by decide +kernel
theorem dX5_mean_45 : decode cX5_mean 45 = .ok (.i2l, 1) := by decide +kernel
theorem dX5_mean_46 : decode cX5_mean 46 = .ok (.ldiv, 1) := by decide +kernel
theorem dX5_mean_47 : decode cX5_mean 47 = .ok (.l2i, 1) := by decide +kernel
theorem dX5_mean_48 : decode cX5_mean 48 = .ok (.invokevirtual 76, 3) := by decide +kernel
theorem dX5_mean_51 : decode cX5_mean 51 = .ok (.ireturn, 1) := by decide +kernel
theorem dX5_text_0 : decode cX5_text 0 = .ok (.aload_n 0, 1) := by decide +kernel
theorem dX5_text_1 : decode cX5_text 1 = .ok (.aload_n 0, 1) := by decide +kernel
theorem dX5_text_2 : decode cX5_text 2 = .ok (.getfield 18, 3) := by decide +kernel
theorem dX5_text_5 : decode cX5_text 5 = .ok (.iload_n 1, 1) := by decide +kernel
theorem dX5_text_6 : decode cX5_text 6 = .ok (.iload_n 2, 1) := by decide +kernel
theorem dX5_text_7 : decode cX5_text 7 = .ok (.bipush 32, 2) := by decide +kernel
theorem dX5_text_9 : decode cX5_text 9 = .ok (.invokevirtual 64, 3) := by decide +kernel
theorem dX5_text_12 : decode cX5_text 12 = .ok (.ireturn, 1) := by decide +kernel
theorem dX5_put_0 : decode cX5_put 0 = .ok (.aload_n 0, 1) := by decide +kernel
theorem dX5_put_1 : decode cX5_put 1 = .ok (.aload_n 0, 1) := by decide +kernel
theorem dX5_put_2 : decode cX5_put 2 = .ok (.getfield 18, 3) := by decide +kernel
theorem dX5_put_5 : decode cX5_put 5 = .ok (.iload_n 1, 1) := by decide +kernel
theorem dX5_put_6 : decode cX5_put 6 = .ok (.iload_n 2, 1) := by decide +kernel
theorem dX5_put_7 : decode cX5_put 7 = .ok (.invokevirtual 68, 3) := by decide +kernel
theorem dX5_put_10 : decode cX5_put 10 = .ok (.istore 4, 2) := by decide +kernel
theorem dX5_put_12 : decode cX5_put 12 = .ok (.iload 4, 2) := by decide +kernel
theorem dX5_put_14 : decode cX5_put 14 = .ok (.ifCond .eq 6, 3) := by decide +kernel
theorem dX5_put_17 : decode cX5_put 17 = .ok (.iload 4, 2) := by decide +kernel
theorem dX5_put_19 : decode cX5_put 19 = .ok (.ireturn, 1) := by decide +kernel
theorem dX5_put_20 : decode cX5_put 20 = .ok (.aload_n 0, 1) := by decide +kernel
theorem dX5_put_21 : decode cX5_put 21 = .ok (.getfield 18, 3) := by decide +kernel
theorem dX5_put_24 : decode cX5_put 24 = .ok (.iload_n 1, 1) := by decide +kernel
theorem dX5_put_25 : decode cX5_put 25 = .ok (.iload_n 2, 1) := by decide +kernel
theorem dX5_put_26 : decode cX5_put 26 = .ok (.iload_n 3, 1) := by decide +kernel
theorem dX5_put_27 : decode cX5_put 27 = .ok (.i2b, 1) := by decide +kernel
theorem dX5_put_28 : decode cX5_put 28 = .ok (.invokevirtual 72, 3) := by decide +kernel
theorem dX5_put_31 : decode cX5_put 31 = .ok (.sipush 1000, 3) := by decide +kernel
theorem dX5_put_34 : decode cX5_put 34 = .ok (.iadd, 1) := by decide +kernel
theorem dX5_put_35 : decode cX5_put 35 = .ok (.ireturn, 1) := by decide +kernel
theorem dX5_fault_0 : decode cX5_fault 0 = .ok (.aload_n 0, 1) := by decide +kernel
theorem dX5_fault_1 : decode cX5_fault 1 = .ok (.aload_n 0, 1) := by decide +kernel
theorem dX5_fault_2 : decode cX5_fault 2 = .ok (.getfield 18, 3) := by decide +kernel
theorem dX5_fault_5 : decode cX5_fault 5 = .ok (.iload_n 1, 1) := by decide +kernel
theorem dX5_fault_6 : decode cX5_fault 6 = .ok (.invokevirtual 84, 3) := by decide +kernel
theorem dX5_fault_9 : decode cX5_fault 9 = .ok (.istore_n 2, 1) := by decide +kernel
theorem dX5_fault_10 : decode cX5_fault 10 = .ok (.iload_n 2, 1) := by decide +kernel
theorem dX5_fault_11 : decode cX5_fault 11 = .ok (.ifCond .eq 5, 3) := by decide +kernel
theorem dX5_fault_14 : decode cX5_fault 14 = .ok (.iload_n 2, 1) := by decide +kernel
theorem dX5_fault_15 : decode cX5_fault 15 = .ok (.ireturn, 1) := by decide +kernel
theorem dX5_fault_16 : decode cX5_fault 16 = .ok (.aload_n 0, 1) := by decide +kernel
theorem dX5_fault_17 : decode cX5_fault 17 = .ok (.getfield 24, 3) := by decide +kernel
theorem dX5_fault_20 : decode cX5_fault 20 = .ok (.aload_n 0, 1) := by decide +kernel
theorem dX5_fault_21 : decode cX5_fault 21 = .ok (.getfield 18, 3) := by decide +kernel
theorem dX5_fault_24 : decode cX5_fault 24 = .ok (.iload_n 1, 1) := by decide +kernel
theorem dX5_fault_25 : decode cX5_fault 25 = .ok (.invokevirtual 117, 3) := by decide +kernel
theorem dX5_fault_28 : decode cX5_fault 28 = .ok (.aload_n 0, 1) := by decide +kernel
theorem dX5_fault_29 : decode cX5_fault 29 = .ok (.getfield 18, 3) := by decide +kernel
theorem dX5_fault_32 : decode cX5_fault 32 = .ok (.iload_n 1, 1) := by decide +kernel
theorem dX5_fault_33 : decode cX5_fault 33 = .ok (.invokevirtual 110, 3) := by decide +kernel
theorem dX5_fault_36 : decode cX5_fault 36 = .ok (.invokevirtual 121, 3) := by decide +kernel
theorem dX5_fault_39 : decode cX5_fault 39 = .ok (.ireturn, 1) := by decide +kernel
theorem dX5_wheel_0 : decode cX5_wheel 0 = .ok (.aload_n 0, 1) := by decide +kernel
theorem dX5_wheel_1 : decode cX5_wheel 1 = .ok (.aload_n 0, 1) := by decide +kernel
theorem dX5_wheel_2 : decode cX5_wheel 2 = .ok (.getfield 18, 3) := by decide +kernel
theorem dX5_wheel_5 : decode cX5_wheel 5 = .ok (.iload_n 1, 1) := by decide +kernel
theorem dX5_wheel_6 : decode cX5_wheel 6 = .ok (.invokevirtual 84, 3) := by decide +kernel
theorem dX5_wheel_9 : decode cX5_wheel 9 = .ok (.istore_n 2, 1) := by decide +kernel
theorem dX5_wheel_10 : decode cX5_wheel 10 = .ok (.iload_n 2, 1) := by decide +kernel
theorem dX5_wheel_11 : decode cX5_wheel 11 = .ok (.ifCond .eq 5, 3) := by decide +kernel
theorem dX5_wheel_14 : decode cX5_wheel 14 = .ok (.iload_n 2, 1) := by decide +kernel
theorem dX5_wheel_15 : decode cX5_wheel 15 = .ok (.ireturn, 1) := by decide +kernel
theorem dX5_wheel_16 : decode cX5_wheel 16 = .ok (.aload_n 0, 1) := by decide +kernel
theorem dX5_wheel_17 : decode cX5_wheel 17 = .ok (.getfield 24, 3) := by decide +kernel
theorem dX5_wheel_20 : decode cX5_wheel 20 = .ok (.aload_n 0, 1) := by decide +kernel
theorem dX5_wheel_21 : decode cX5_wheel 21 = .ok (.getfield 18, 3) := by decide +kernel
theorem dX5_wheel_24 : decode cX5_wheel 24 = .ok (.iload_n 1, 1) := by decide +kernel
theorem dX5_wheel_25 : decode cX5_wheel 25 = .ok (.invokevirtual 117, 3) := by decide +kernel
theorem dX5_wheel_28 : decode cX5_wheel 28 = .ok (.aload_n 0, 1) := by decide +kernel
theorem dX5_wheel_29 : decode cX5_wheel 29 = .ok (.getfield 18, 3) := by decide +kernel
theorem dX5_wheel_32 : decode cX5_wheel 32 = .ok (.iload_n 1, 1) := by decide +kernel
theorem dX5_wheel_33 : decode cX5_wheel 33 = .ok (.invokevirtual 110, 3) := by decide +kernel
theorem dX5_wheel_36 : decode cX5_wheel 36 = .ok (.invokevirtual 121, 3) := by decide +kernel
theorem dX5_wheel_39 : decode cX5_wheel 39 = .ok (.bipush (-9), 2) := by decide +kernel
theorem dX5_wheel_41 : decode cX5_wheel 41 = .ok (.if_icmp .eq 6, 3) := by decide +kernel
theorem dX5_wheel_44 : decode cX5_wheel 44 = .ok (.bipush (-4), 2) := by decide +kernel
theorem dX5_wheel_46 : decode cX5_wheel 46 = .ok (.ireturn, 1) := by decide +kernel
theorem dX5_wheel_47 : decode cX5_wheel 47 = .ok (.aload_n 0, 1) := by decide +kernel
theorem dX5_wheel_48 : decode cX5_wheel 48 = .ok (.getfield 31, 3) := by decide +kernel
theorem dX5_wheel_51 : decode cX5_wheel 51 = .ok (.aload_n 0, 1) := by decide +kernel
theorem dX5_wheel_52 : decode cX5_wheel 52 = .ok (.getfield 24, 3) := by decide +kernel
theorem dX5_wheel_55 : decode cX5_wheel 55 = .ok (.getfield 125, 3) := by decide +kernel
theorem dX5_wheel_58 : decode cX5_wheel 58 = .ok (.invokevirtual 128, 3) := by decide +kernel
theorem dX5_wheel_61 : decode cX5_wheel 61 = .ok (.iconst 0, 1) := by decide +kernel
theorem dX5_wheel_62 : decode cX5_wheel 62 = .ok (.istore_n 3, 1) := by decide +kernel
theorem dX5_wheel_63 : decode cX5_wheel 63 = .ok (.iload_n 3, 1) := by decide +kernel
theorem dX5_wheel_64 : decode cX5_wheel 64 = .ok (.iconst 3, 1) := by decide +kernel
theorem dX5_wheel_65 : decode cX5_wheel 65 = .ok (.if_icmp .ge 19, 3) := by decide +kernel
theorem dX5_wheel_68 : decode cX5_wheel 68 = .ok (.aload_n 0, 1) := by decide +kernel
theorem dX5_wheel_69 : decode cX5_wheel 69 = .ok (.getfield 35, 3) := by decide +kernel
theorem dX5_wheel_72 : decode cX5_wheel 72 = .ok (.iload_n 3, 1) := by decide +kernel
theorem dX5_wheel_73 : decode cX5_wheel 73 = .ok (.aaload, 1) := by decide +kernel
theorem dX5_wheel_74 : decode cX5_wheel 74 = .ok (.iconst (-1), 1) := by decide +kernel
theorem dX5_wheel_75 : decode cX5_wheel 75 = .ok (.putfield 39, 3) := by decide +kernel
theorem dX5_wheel_78 : decode cX5_wheel 78 = .ok (.iinc 3 1, 3) := by decide +kernel
theorem dX5_wheel_81 : decode cX5_wheel 81 = .ok (.goto (-18), 3) := by decide +kernel
theorem dX5_wheel_84 : decode cX5_wheel 84 = .ok (.aload_n 0, 1) := by decide +kernel
theorem dX5_wheel_85 : decode cX5_wheel 85 = .ok (.getfield 31, 3) := by decide +kernel
theorem dX5_wheel_88 : decode cX5_wheel 88 = .ok (.getfield 45, 3) := by decide +kernel
theorem dX5_wheel_91 : decode cX5_wheel 91 = .ok (.getfield 131, 3) := by decide +kernel
theorem dX5_wheel_94 : decode cX5_wheel 94 = .ok (.ireturn, 1) := by decide +kernel
theorem dX5_spoke_0 : decode cX5_spoke 0 = .ok (.aload_n 0, 1) := by decide +kernel
theorem dX5_spoke_1 : decode cX5_spoke 1 = .ok (.getfield 31, 3) := by decide +kernel
theorem dX5_spoke_4 : decode cX5_spoke 4 = .ok (.getfield 45, 3) := by decide +kernel
theorem dX5_spoke_7 : decode cX5_spoke 7 = .ok (.iload_n 1, 1) := by decide +kernel
theorem dX5_spoke_8 : decode cX5_spoke 8 = .ok (.invokevirtual 136, 3) := by decide +kernel
theorem dX5_spoke_11 : decode cX5_spoke 11 = .ok (.ifCond .eq 12, 3) := by decide +kernel
theorem dX5_spoke_14 : decode cX5_spoke 14 = .ok (.iload_n 2, 1) := by decide +kernel
theorem dX5_spoke_15 : decode cX5_spoke 15 = .ok (.ifCond .lt 8, 3) := by decide +kernel
theorem dX5_spoke_18 : decode cX5_spoke 18 = .ok (.iload_n 2, 1) := by decide +kernel
theorem dX5_spoke_19 : decode cX5_spoke 19 = .ok (.iconst 5, 1) := by decide +kernel
theorem dX5_spoke_20 : decode cX5_spoke 20 = .ok (.if_icmp .le 5, 3) := by decide +kernel
theorem dX5_spoke_23 : decode cX5_spoke 23 = .ok (.iconst (-1), 1) := by decide +kernel
theorem dX5_spoke_24 : decode cX5_spoke 24 = .ok (.ireturn, 1) := by decide +kernel
theorem dX5_spoke_25 : decode cX5_spoke 25 = .ok (.aload_n 0, 1) := by decide +kernel
theorem dX5_spoke_26 : decode cX5_spoke 26 = .ok (.aload_n 0, 1) := by decide +kernel
theorem dX5_spoke_27 : decode cX5_spoke 27 = .ok (.getfield 31, 3) := by decide +kernel
theorem dX5_spoke_30 : decode cX5_spoke 30 = .ok (.getfield 45, 3) := by decide +kernel
theorem dX5_spoke_33 : decode cX5_spoke 33 = .ok (.iload_n 1, 1) := by decide +kernel
theorem dX5_spoke_34 : decode cX5_spoke 34 = .ok (.iload_n 2, 1) := by decide +kernel
theorem dX5_spoke_35 : decode cX5_spoke 35 = .ok (.invokevirtual 139, 3) := by decide +kernel
theorem dX5_spoke_38 : decode cX5_spoke 38 = .ok (.invokevirtual 76, 3) := by decide +kernel
theorem dX5_spoke_41 : decode cX5_spoke 41 = .ok (.ireturn, 1) := by decide +kernel
theorem dX5_mark_0 : decode cX5_mark 0 = .ok (.aload_n 0, 1) := by decide +kernel
theorem dX5_mark_1 : decode cX5_mark 1 = .ok (.getfield 31, 3) := by decide +kernel
theorem dX5_mark_4 : decode cX5_mark 4 = .ok (.getfield 45, 3) := by decide +kernel
theorem dX5_mark_7 : decode cX5_mark 7 = .ok (.iload_n 1, 1) := by decide +kernel
theorem dX5_mark_8 : decode cX5_mark 8 = .ok (.invokevirtual 136, 3) := by decide +kernel
theorem dX5_mark_11 : decode cX5_mark 11 = .ok (.ifCond .eq 13, 3) := by decide +kernel
theorem dX5_mark_14 : decode cX5_mark 14 = .ok (.iload_n 2, 1) := by decide +kernel
theorem dX5_mark_15 : decode cX5_mark 15 = .ok (.ifCond .le 9, 3) := by decide +kernel
theorem dX5_mark_18 : decode cX5_mark 18 = .ok (.iload_n 2, 1) := by decide +kernel
theorem dX5_mark_19 : decode cX5_mark 19 = .ok (.bipush 6, 2) := by decide +kernel
theorem dX5_mark_21 : decode cX5_mark 21 = .ok (.if_icmp .lt 5, 3) := by decide +kernel
theorem dX5_mark_24 : decode cX5_mark 24 = .ok (.iconst (-1), 1) := by decide +kernel
theorem dX5_mark_25 : decode cX5_mark 25 = .ok (.ireturn, 1) := by decide +kernel
theorem dX5_mark_26 : decode cX5_mark 26 = .ok (.aload_n 0, 1) := by decide +kernel
theorem dX5_mark_27 : decode cX5_mark 27 = .ok (.getfield 31, 3) := by decide +kernel
theorem dX5_mark_30 : decode cX5_mark 30 = .ok (.getfield 45, 3) := by decide +kernel
theorem dX5_mark_33 : decode cX5_mark 33 = .ok (.getfield 142, 3) := by decide +kernel
theorem dX5_mark_36 : decode cX5_mark 36 = .ok (.iload_n 1, 1) := by decide +kernel
theorem dX5_mark_37 : decode cX5_mark 37 = .ok (.iaload, 1) := by decide +kernel
theorem dX5_mark_38 : decode cX5_mark 38 = .ok (.iload_n 2, 1) := by decide +kernel
theorem dX5_mark_39 : decode cX5_mark 39 = .ok (.invokestatic 145, 3) := by decide +kernel
theorem dX5_mark_42 : decode cX5_mark 42 = .ok (.ifCond .ne 9, 3) := by decide +kernel
theorem dX5_mark_45 : decode cX5_mark 45 = .ok (.aload_n 0, 1) := by decide +kernel
theorem dX5_mark_46 : decode cX5_mark 46 = .ok (.iconst 3, 1) := by decide +kernel
theorem dX5_mark_47 : decode cX5_mark 47 = .ok (.invokevirtual 96, 3) := by decide +kernel
theorem dX5_mark_50 : decode cX5_mark 50 = .ok (.ireturn, 1) := by decide +kernel
theorem dX5_mark_51 : decode cX5_mark 51 = .ok (.aload_n 0, 1) := by decide +kernel
theorem dX5_mark_52 : decode cX5_mark 52 = .ok (.getfield 31, 3) := by decide +kernel
theorem dX5_mark_55 : decode cX5_mark 55 = .ok (.getfield 45, 3) := by decide +kernel
theorem dX5_mark_58 : decode cX5_mark 58 = .ok (.iload_n 1, 1) := by decide +kernel
theorem dX5_mark_59 : decode cX5_mark 59 = .ok (.iload_n 2, 1) := by decide +kernel
theorem dX5_mark_60 : decode cX5_mark 60 = .ok (.invokevirtual 149, 3) := by decide +kernel
theorem dX5_mark_63 : decode cX5_mark 63 = .ok (.ireturn, 1) := by decide +kernel
theorem dX5_bears_0 : decode cX5_bears 0 = .ok (.aload_n 0, 1) := by decide +kernel
theorem dX5_bears_1 : decode cX5_bears 1 = .ok (.getfield 31, 3) := by decide +kernel
theorem dX5_bears_4 : decode cX5_bears 4 = .ok (.getfield 45, 3) := by decide +kernel
theorem dX5_bears_7 : decode cX5_bears 7 = .ok (.iload_n 1, 1) := by decide +kernel
theorem dX5_bears_8 : decode cX5_bears 8 = .ok (.invokevirtual 136, 3) := by decide +kernel
theorem dX5_bears_11 : decode cX5_bears 11 = .ok (.ifCond .eq 23, 3) := by decide +kernel
theorem dX5_bears_14 : decode cX5_bears 14 = .ok (.iload_n 2, 1) := by decide +kernel
theorem dX5_bears_15 : decode cX5_bears 15 = .ok (.ifCond .lt 19, 3) := by decide +kernel
theorem dX5_bears_18 : decode cX5_bears 18 = .ok (.iload_n 2, 1) := by decide +kernel
theorem dX5_bears_19 : decode cX5_bears 19 = .ok (.bipush 9, 2) := by decide +kernel
theorem dX5_bears_21 : decode cX5_bears 21 = .ok (.if_icmp .gt 13, 3) := by decide +kernel
theorem dX5_bears_24 : decode cX5_bears 24 = .ok (.iload_n 3, 1) := by decide +kernel
theorem dX5_bears_25 : decode cX5_bears 25 = .ok (.ifCond .lt 9, 3) := by decide +kernel
theorem dX5_bears_28 : decode cX5_bears 28 = .ok (.iload_n 3, 1) := by decide +kernel
theorem dX5_bears_29 : decode cX5_bears 29 = .ok (.bipush 30, 2) := by decide +kernel
theorem dX5_bears_31 : decode cX5_bears 31 = .ok (.if_icmp .le 5, 3) := by decide +kernel
theorem dX5_bears_34 : decode cX5_bears 34 = .ok (.iconst (-1), 1) := by decide +kernel
theorem dX5_bears_35 : decode cX5_bears 35 = .ok (.ireturn, 1) := by decide +kernel
theorem dX5_bears_36 : decode cX5_bears 36 = .ok (.aload_n 0, 1) := by decide +kernel
theorem dX5_bears_37 : decode cX5_bears 37 = .ok (.getfield 31, 3) := by decide +kernel
theorem dX5_bears_40 : decode cX5_bears 40 = .ok (.getfield 45, 3) := by decide +kernel
theorem dX5_bears_43 : decode cX5_bears 43 = .ok (.getfield 142, 3) := by decide +kernel
theorem dX5_bears_46 : decode cX5_bears 46 = .ok (.iload_n 1, 1) := by decide +kernel
theorem dX5_bears_47 : decode cX5_bears 47 = .ok (.iaload, 1) := by decide +kernel
theorem dX5_bears_48 : decode cX5_bears 48 = .ok (.aload_n 0, 1) := by decide +kernel
theorem dX5_bears_49 : decode cX5_bears 49 = .ok (.getfield 31, 3) := by decide +kernel
theorem dX5_bears_52 : decode cX5_bears 52 = .ok (.getfield 45, 3) := by decide +kernel
theorem dX5_bears_55 : decode cX5_bears 55 = .ok (.getfield 152, 3) := by decide +kernel
theorem dX5_bears_58 : decode cX5_bears 58 = .ok (.iload_n 1, 1) := by decide +kernel
theorem dX5_bears_59 : decode cX5_bears 59 = .ok (.iaload, 1) := by decide +kernel
theorem dX5_bears_60 : decode cX5_bears 60 = .ok (.iload_n 3, 1) := by decide +kernel
theorem dX5_bears_61 : decode cX5_bears 61 = .ok (.iload_n 2, 1) := by decide +kernel
theorem dX5_bears_62 : decode cX5_bears 62 = .ok (.aload_n 0, 1) := by decide +kernel
theorem dX5_bears_63 : decode cX5_bears 63 = .ok (.getfield 31, 3) := by decide +kernel
theorem dX5_bears_66 : decode cX5_bears 66 = .ok (.getfield 45, 3) := by decide +kernel
theorem dX5_bears_69 : decode cX5_bears 69 = .ok (.getfield 155, 3) := by decide +kernel
theorem dX5_bears_72 : decode cX5_bears 72 = .ok (.invokestatic 159, 3) := by decide +kernel
theorem dX5_bears_75 : decode cX5_bears 75 = .ok (.ireturn, 1) := by decide +kernel
theorem dX5_step_0 : decode cX5_step 0 = .ok (.aload_n 0, 1) := by decide +kernel
theorem dX5_step_1 : decode cX5_step 1 = .ok (.getfield 31, 3) := by decide +kernel
theorem dX5_step_4 : decode cX5_step 4 = .ok (.getfield 45, 3) := by decide +kernel
theorem dX5_step_7 : decode cX5_step 7 = .ok (.invokevirtual 163, 3) := by decide +kernel
theorem dX5_step_10 : decode cX5_step 10 = .ok (.ifCond .ne 16, 3) := by decide +kernel
theorem dX5_step_13 : decode cX5_step 13 = .ok (.aload_n 0, 1) := by decide +kernel
theorem dX5_step_14 : decode cX5_step 14 = .ok (.getfield 31, 3) := by decide +kernel
theorem dX5_step_17 : decode cX5_step 17 = .ok (.getfield 45, 3) := by decide +kernel
theorem dX5_step_20 : decode cX5_step 20 = .ok (.invokevirtual 167, 3) := by decide +kernel
theorem dX5_step_23 : decode cX5_step 23 = .ok (.ifCond .eq 6, 3) := by decide +kernel
theorem dX5_step_26 : decode cX5_step 26 = .ok (.bipush (-4), 2) := by decide +kernel
theorem dX5_step_28 : decode cX5_step 28 = .ok (.ireturn, 1) := by decide +kernel
theorem dX5_step_29 : decode cX5_step 29 = .ok (.aload_n 0, 1) := by decide +kernel
theorem dX5_step_30 : decode cX5_step 30 = .ok (.iconst 0, 1) := by decide +kernel
theorem dX5_step_31 : decode cX5_step 31 = .ok (.iconst 0, 1) := by decide +kernel
theorem dX5_step_32 : decode cX5_step 32 = .ok (.invokevirtual 170, 3) := by decide +kernel
theorem dX5_step_35 : decode cX5_step 35 = .ok (.ireturn, 1) := by decide +kernel
theorem dX5_soak_0 : decode cX5_soak 0 = .ok (.aload_n 0, 1) := by decide +kernel
theorem dX5_soak_1 : decode cX5_soak 1 = .ok (.getfield 31, 3) := by decide +kernel
theorem dX5_soak_4 : decode cX5_soak 4 = .ok (.getfield 45, 3) := by decide +kernel
theorem dX5_soak_7 : decode cX5_soak 7 = .ok (.invokevirtual 163, 3) := by decide +kernel
theorem dX5_soak_10 : decode cX5_soak 10 = .ok (.ifCond .eq 8, 3) := by decide +kernel
theorem dX5_soak_13 : decode cX5_soak 13 = .ok (.bipush (-4), 2) := by decide +kernel
theorem dX5_soak_15 : decode cX5_soak 15 = .ok (.goto 9, 3) := by decide +kernel
theorem dX5_soak_18 : decode cX5_soak 18 = .ok (.aload_n 0, 1) := by decide +kernel
theorem dX5_soak_19 : decode cX5_soak 19 = .ok (.iconst 1, 1) := by decide +kernel
theorem dX5_soak_20 : decode cX5_soak 20 = .ok (.iconst 0, 1) := by decide +kernel
theorem dX5_soak_21 : decode cX5_soak 21 = .ok (.invokevirtual 170, 3) := by decide +kernel
theorem dX5_soak_24 : decode cX5_soak 24 = .ok (.ireturn, 1) := by decide +kernel
theorem dX5_weather_0 : decode cX5_weather 0 = .ok (.aload_n 0, 1) := by decide +kernel
theorem dX5_weather_1 : decode cX5_weather 1 = .ok (.getfield 31, 3) := by decide +kernel
theorem dX5_weather_4 : decode cX5_weather 4 = .ok (.getfield 45, 3) := by decide +kernel
theorem dX5_weather_7 : decode cX5_weather 7 = .ok (.invokevirtual 163, 3) := by decide +kernel
theorem dX5_weather_10 : decode cX5_weather 10 = .ok (.ifCond .eq 8, 3) := by decide +kernel
theorem dX5_weather_13 : decode cX5_weather 13 = .ok (.bipush (-4), 2) := by decide +kernel
theorem dX5_weather_15 : decode cX5_weather 15 = .ok (.goto 9, 3) := by decide +kernel
theorem dX5_weather_18 : decode cX5_weather 18 = .ok (.aload_n 0, 1) := by decide +kernel
theorem dX5_weather_19 : decode cX5_weather 19 = .ok (.iconst 2, 1) := by decide +kernel
theorem dX5_weather_20 : decode cX5_weather 20 = .ok (.iconst 0, 1) := by decide +kernel
theorem dX5_weather_21 : decode cX5_weather 21 = .ok (.invokevirtual 170, 3) := by decide +kernel
theorem dX5_weather_24 : decode cX5_weather 24 = .ok (.ireturn, 1) := by decide +kernel
theorem dX5_knock_0 : decode cX5_knock 0 = .ok (.aload_n 0, 1) := by decide +kernel
theorem dX5_knock_1 : decode cX5_knock 1 = .ok (.getfield 31, 3) := by decide +kernel
theorem dX5_knock_4 : decode cX5_knock 4 = .ok (.getfield 45, 3) := by decide +kernel
theorem dX5_knock_7 : decode cX5_knock 7 = .ok (.iload_n 1, 1) := by decide +kernel
theorem dX5_knock_8 : decode cX5_knock 8 = .ok (.invokevirtual 136, 3) := by decide +kernel
theorem dX5_knock_11 : decode cX5_knock 11 = .ok (.ifCond .ne 5, 3) := by decide +kernel
theorem dX5_knock_14 : decode cX5_knock 14 = .ok (.iconst (-1), 1) := by decide +kernel
theorem dX5_knock_15 : decode cX5_knock 15 = .ok (.ireturn, 1) := by decide +kernel
theorem dX5_knock_16 : decode cX5_knock 16 = .ok (.aload_n 0, 1) := by decide +kernel
theorem dX5_knock_17 : decode cX5_knock 17 = .ok (.getfield 31, 3) := by decide +kernel
theorem dX5_knock_20 : decode cX5_knock 20 = .ok (.getfield 45, 3) := by decide +kernel
theorem dX5_knock_23 : decode cX5_knock 23 = .ok (.iload_n 1, 1) := by decide +kernel
theorem dX5_knock_24 : decode cX5_knock 24 = .ok (.invokevirtual 173, 3) := by decide +kernel
theorem dX5_knock_27 : decode cX5_knock 27 = .ok (.ifCond .eq 12, 3) := by decide +kernel
theorem dX5_knock_30 : decode cX5_knock 30 = .ok (.aload_n 0, 1) := by decide +kernel
theorem dX5_knock_31 : decode cX5_knock 31 = .ok (.iconst 3, 1) := by decide +kernel
theorem dX5_knock_32 : decode cX5_knock 32 = .ok (.iload_n 1, 1) := by decide +kernel
theorem dX5_knock_33 : decode cX5_knock 33 = .ok (.invokevirtual 170, 3) := by decide +kernel
theorem dX5_knock_36 : decode cX5_knock 36 = .ok (.goto 5, 3) := by decide +kernel
theorem dX5_knock_39 : decode cX5_knock 39 = .ok (.bipush (-4), 2) := by decide +kernel
theorem dX5_knock_41 : decode cX5_knock 41 = .ok (.ireturn, 1) := by decide +kernel
theorem dX5_mend_0 : decode cX5_mend 0 = .ok (.aload_n 0, 1) := by decide +kernel
theorem dX5_mend_1 : decode cX5_mend 1 = .ok (.getfield 31, 3) := by decide +kernel
theorem dX5_mend_4 : decode cX5_mend 4 = .ok (.getfield 45, 3) := by decide +kernel
theorem dX5_mend_7 : decode cX5_mend 7 = .ok (.iload_n 1, 1) := by decide +kernel
theorem dX5_mend_8 : decode cX5_mend 8 = .ok (.invokevirtual 136, 3) := by decide +kernel
theorem dX5_mend_11 : decode cX5_mend 11 = .ok (.ifCond .eq 12, 3) := by decide +kernel
theorem dX5_mend_14 : decode cX5_mend 14 = .ok (.aload_n 0, 1) := by decide +kernel
theorem dX5_mend_15 : decode cX5_mend 15 = .ok (.iconst 4, 1) := by decide +kernel
theorem dX5_mend_16 : decode cX5_mend 16 = .ok (.iload_n 1, 1) := by decide +kernel
theorem dX5_mend_17 : decode cX5_mend 17 = .ok (.invokevirtual 170, 3) := by decide +kernel
theorem dX5_mend_20 : decode cX5_mend 20 = .ok (.goto 4, 3) := by decide +kernel
theorem dX5_mend_23 : decode cX5_mend 23 = .ok (.iconst (-1), 1) := by decide +kernel
theorem dX5_mend_24 : decode cX5_mend 24 = .ok (.ireturn, 1) := by decide +kernel
theorem dX5_undo_0 : decode cX5_undo 0 = .ok (.iload_n 1, 1) := by decide +kernel
theorem dX5_undo_1 : decode cX5_undo 1 = .ok (.ifCond .lt 14, 3) := by decide +kernel
theorem dX5_undo_4 : decode cX5_undo 4 = .ok (.iload_n 1, 1) := by decide +kernel
theorem dX5_undo_5 : decode cX5_undo 5 = .ok (.aload_n 0, 1) := by decide +kernel
theorem dX5_undo_6 : decode cX5_undo 6 = .ok (.getfield 31, 3) := by decide +kernel
theorem dX5_undo_9 : decode cX5_undo 9 = .ok (.getfield 39, 3) := by decide +kernel
theorem dX5_undo_12 : decode cX5_undo 12 = .ok (.if_icmp .le 5, 3) := by decide +kernel
theorem dX5_undo_15 : decode cX5_undo 15 = .ok (.iconst (-1), 1) := by decide +kernel
theorem dX5_undo_16 : decode cX5_undo 16 = .ok (.ireturn, 1) := by decide +kernel
theorem dX5_undo_17 : decode cX5_undo 17 = .ok (.aload_n 0, 1) := by decide +kernel
theorem dX5_undo_18 : decode cX5_undo 18 = .ok (.getfield 31, 3) := by decide +kernel
theorem dX5_undo_21 : decode cX5_undo 21 = .ok (.getfield 39, 3) := by decide +kernel
theorem dX5_undo_24 : decode cX5_undo 24 = .ok (.iload_n 1, 1) := by decide +kernel
theorem dX5_undo_25 : decode cX5_undo 25 = .ok (.isub, 1) := by decide +kernel
theorem dX5_undo_26 : decode cX5_undo 26 = .ok (.istore_n 2, 1) := by decide +kernel
theorem dX5_undo_27 : decode cX5_undo 27 = .ok (.aload_n 0, 1) := by decide +kernel
theorem dX5_undo_28 : decode cX5_undo 28 = .ok (.getfield 31, 3) := by decide +kernel
theorem dX5_undo_31 : decode cX5_undo 31 = .ok (.iload_n 1, 1) := by decide +kernel
theorem dX5_undo_32 : decode cX5_undo 32 = .ok (.invokevirtual 176, 3) := by decide +kernel
theorem dX5_undo_35 : decode cX5_undo 35 = .ok (.iload_n 2, 1) := by decide +kernel
theorem dX5_undo_36 : decode cX5_undo 36 = .ok (.ireturn, 1) := by decide +kernel
theorem dX5_keep_0 : decode cX5_keep 0 = .ok (.iload_n 1, 1) := by decide +kernel
theorem dX5_keep_1 : decode cX5_keep 1 = .ok (.ifCond .lt 8, 3) := by decide +kernel
theorem dX5_keep_4 : decode cX5_keep 4 = .ok (.iload_n 1, 1) := by decide +kernel
theorem dX5_keep_5 : decode cX5_keep 5 = .ok (.iconst 3, 1) := by decide +kernel
theorem dX5_keep_6 : decode cX5_keep 6 = .ok (.if_icmp .lt 5, 3) := by decide +kernel
theorem dX5_keep_9 : decode cX5_keep 9 = .ok (.iconst (-1), 1) := by decide +kernel
theorem dX5_keep_10 : decode cX5_keep 10 = .ok (.ireturn, 1) := by decide +kernel
theorem dX5_keep_11 : decode cX5_keep 11 = .ok (.aload_n 0, 1) := by decide +kernel
theorem dX5_keep_12 : decode cX5_keep 12 = .ok (.getfield 31, 3) := by decide +kernel
theorem dX5_keep_15 : decode cX5_keep 15 = .ok (.getfield 45, 3) := by decide +kernel
theorem dX5_keep_18 : decode cX5_keep 18 = .ok (.invokevirtual 163, 3) := by decide +kernel
theorem dX5_keep_21 : decode cX5_keep 21 = .ok (.ifCond .eq 6, 3) := by decide +kernel
theorem dX5_keep_24 : decode cX5_keep 24 = .ok (.bipush (-4), 2) := by decide +kernel
theorem dX5_keep_26 : decode cX5_keep 26 = .ok (.ireturn, 1) := by decide +kernel
theorem dX5_keep_27 : decode cX5_keep 27 = .ok (.aload_n 0, 1) := by decide +kernel
theorem dX5_keep_28 : decode cX5_keep 28 = .ok (.getfield 35, 3) := by decide +kernel
theorem dX5_keep_31 : decode cX5_keep 31 = .ok (.iload_n 1, 1) := by decide +kernel
theorem dX5_keep_32 : decode cX5_keep 32 = .ok (.aaload, 1) := by decide +kernel
theorem dX5_keep_33 : decode cX5_keep 33 = .ok (.aload_n 0, 1) := by decide +kernel
theorem dX5_keep_34 : decode cX5_keep 34 = .ok (.getfield 31, 3) := by decide +kernel
theorem dX5_keep_37 : decode cX5_keep 37 = .ok (.invokevirtual 179, 3) := by decide +kernel
theorem dX5_keep_40 : decode cX5_keep 40 = .ok (.aload_n 0, 1) := by decide +kernel
theorem dX5_keep_41 : decode cX5_keep 41 = .ok (.getfield 31, 3) := by decide +kernel
theorem dX5_keep_44 : decode cX5_keep 44 = .ok (.getfield 39, 3) := by decide +kernel
theorem dX5_keep_47 : decode cX5_keep 47 = .ok (.ireturn, 1) := by decide +kernel
theorem dX5_on_0 : decode cX5_on 0 = .ok (.iload_n 1, 1) := by decide +kernel
theorem dX5_on_1 : decode cX5_on 1 = .ok (.ifCond .lt 8, 3) := by decide +kernel
theorem dX5_on_4 : decode cX5_on 4 = .ok (.iload_n 1, 1) := by decide +kernel
theorem dX5_on_5 : decode cX5_on 5 = .ok (.iconst 3, 1) := by decide +kernel
theorem dX5_on_6 : decode cX5_on 6 = .ok (.if_icmp .lt 5, 3) := by decide +kernel
theorem dX5_on_9 : decode cX5_on 9 = .ok (.iconst (-1), 1) := by decide +kernel
theorem dX5_on_10 : decode cX5_on 10 = .ok (.ireturn, 1) := by decide +kernel
theorem dX5_on_11 : decode cX5_on 11 = .ok (.aload_n 0, 1) := by decide +kernel
theorem dX5_on_12 : decode cX5_on 12 = .ok (.getfield 35, 3) := by decide +kernel
theorem dX5_on_15 : decode cX5_on 15 = .ok (.iload_n 1, 1) := by decide +kernel
theorem dX5_on_16 : decode cX5_on 16 = .ok (.aaload, 1) := by decide +kernel
theorem dX5_on_17 : decode cX5_on 17 = .ok (.getfield 39, 3) := by decide +kernel
theorem dX5_on_20 : decode cX5_on 20 = .ok (.iconst (-1), 1) := by decide +kernel
theorem dX5_on_21 : decode cX5_on 21 = .ok (.if_icmp .ne 9, 3) := by decide +kernel
theorem dX5_on_24 : decode cX5_on 24 = .ok (.aload_n 0, 1) := by decide +kernel
theorem dX5_on_25 : decode cX5_on 25 = .ok (.iconst 1, 1) := by decide +kernel
theorem dX5_on_26 : decode cX5_on 26 = .ok (.invokevirtual 96, 3) := by decide +kernel
theorem dX5_on_29 : decode cX5_on 29 = .ok (.ireturn, 1) := by decide +kernel
theorem dX5_on_30 : decode cX5_on 30 = .ok (.aload_n 0, 1) := by decide +kernel
theorem dX5_on_31 : decode cX5_on 31 = .ok (.getfield 31, 3) := by decide +kernel
theorem dX5_on_34 : decode cX5_on 34 = .ok (.aload_n 0, 1) := by decide +kernel
theorem dX5_on_35 : decode cX5_on 35 = .ok (.getfield 35, 3) := by decide +kernel
theorem dX5_on_38 : decode cX5_on 38 = .ok (.iload_n 1, 1) := by decide +kernel
theorem dX5_on_39 : decode cX5_on 39 = .ok (.aaload, 1) := by decide +kernel
theorem dX5_on_40 : decode cX5_on 40 = .ok (.invokevirtual 179, 3) := by decide +kernel
theorem dX5_on_43 : decode cX5_on 43 = .ok (.aload_n 0, 1) := by decide +kernel
theorem dX5_on_44 : decode cX5_on 44 = .ok (.getfield 31, 3) := by decide +kernel
theorem dX5_on_47 : decode cX5_on 47 = .ok (.getfield 39, 3) := by decide +kernel
theorem dX5_on_50 : decode cX5_on 50 = .ok (.ireturn, 1) := by decide +kernel
theorem dX5_goes_0 : decode cX5_goes 0 = .ok (.iload_n 1, 1) := by decide +kernel
theorem dX5_goes_1 : decode cX5_goes 1 = .ok (.ifCond .lt 9, 3) := by decide +kernel
theorem dX5_goes_4 : decode cX5_goes 4 = .ok (.iload_n 1, 1) := by decide +kernel
theorem dX5_goes_5 : decode cX5_goes 5 = .ok (.bipush 60, 2) := by decide +kernel
theorem dX5_goes_7 : decode cX5_goes 7 = .ok (.if_icmp .le 5, 3) := by decide +kernel
theorem dX5_goes_10 : decode cX5_goes 10 = .ok (.iconst (-1), 1) := by decide +kernel
theorem dX5_goes_11 : decode cX5_goes 11 = .ok (.ireturn, 1) := by decide +kernel
theorem dX5_goes_12 : decode cX5_goes 12 = .ok (.aload_n 0, 1) := by decide +kernel
theorem dX5_goes_13 : decode cX5_goes 13 = .ok (.getfield 31, 3) := by decide +kernel
theorem dX5_goes_16 : decode cX5_goes 16 = .ok (.getfield 45, 3) := by decide +kernel
theorem dX5_goes_19 : decode cX5_goes 19 = .ok (.invokevirtual 163, 3) := by decide +kernel
theorem dX5_goes_22 : decode cX5_goes 22 = .ok (.ifCond .eq 6, 3) := by decide +kernel
theorem dX5_goes_25 : decode cX5_goes 25 = .ok (.bipush (-4), 2) := by decide +kernel
theorem dX5_goes_27 : decode cX5_goes 27 = .ok (.ireturn, 1) := by decide +kernel
theorem dX5_goes_28 : decode cX5_goes 28 = .ok (.aload_n 0, 1) := by decide +kernel
theorem dX5_goes_29 : decode cX5_goes 29 = .ok (.aload_n 0, 1) := by decide +kernel
theorem dX5_goes_30 : decode cX5_goes 30 = .ok (.getfield 52, 3) := by decide +kernel
theorem dX5_goes_33 : decode cX5_goes 33 = .ok (.iload_n 1, 1) := by decide +kernel
theorem dX5_goes_34 : decode cX5_goes 34 = .ok (.invokevirtual 183, 3) := by decide +kernel
theorem dX5_goes_37 : decode cX5_goes 37 = .ok (.invokevirtual 186, 3) := by decide +kernel
theorem dX5_goes_40 : decode cX5_goes 40 = .ok (.ireturn, 1) := by decide +kernel
theorem dX5_over_0 : decode cX5_over 0 = .ok (.aload_n 0, 1) := by decide +kernel
theorem dX5_over_1 : decode cX5_over 1 = .ok (.getfield 31, 3) := by decide +kernel
theorem dX5_over_4 : decode cX5_over 4 = .ok (.getfield 45, 3) := by decide +kernel
theorem dX5_over_7 : decode cX5_over 7 = .ok (.invokevirtual 163, 3) := by decide +kernel
theorem dX5_over_10 : decode cX5_over 10 = .ok (.ifCond .eq 8, 3) := by decide +kernel
theorem dX5_over_13 : decode cX5_over 13 = .ok (.bipush (-4), 2) := by decide +kernel
theorem dX5_over_15 : decode cX5_over 15 = .ok (.goto 14, 3) := by decide +kernel
theorem dX5_over_18 : decode cX5_over 18 = .ok (.aload_n 0, 1) := by decide +kernel
theorem dX5_over_19 : decode cX5_over 19 = .ok (.aload_n 0, 1) := by decide +kernel
theorem dX5_over_20 : decode cX5_over 20 = .ok (.getfield 52, 3) := by decide +kernel
theorem dX5_over_23 : decode cX5_over 23 = .ok (.invokevirtual 189, 3) := by decide +kernel
theorem dX5_over_26 : decode cX5_over 26 = .ok (.invokevirtual 186, 3) := by decide +kernel
theorem dX5_over_29 : decode cX5_over 29 = .ok (.ireturn, 1) := by decide +kernel
theorem dX5_limps_0 : decode cX5_limps 0 = .ok (.iload_n 1, 1) := by decide +kernel
theorem dX5_limps_1 : decode cX5_limps 1 = .ok (.iconst 1, 1) := by decide +kernel
theorem dX5_limps_2 : decode cX5_limps 2 = .ok (.if_icmp .lt 20, 3) := by decide +kernel
theorem dX5_limps_5 : decode cX5_limps 5 = .ok (.iload_n 1, 1) := by decide +kernel
theorem dX5_limps_6 : decode cX5_limps 6 = .ok (.bipush 20, 2) := by decide +kernel
theorem dX5_limps_8 : decode cX5_limps 8 = .ok (.if_icmp .gt 14, 3) := by decide +kernel
theorem dX5_limps_11 : decode cX5_limps 11 = .ok (.aload_n 0, 1) := by decide +kernel
theorem dX5_limps_12 : decode cX5_limps 12 = .ok (.getfield 14, 3) := by decide +kernel
theorem dX5_limps_15 : decode cX5_limps 15 = .ok (.iload_n 2, 1) := by decide +kernel
theorem dX5_limps_16 : decode cX5_limps 16 = .ok (.invokevirtual 92, 3) := by decide +kernel
theorem dX5_limps_19 : decode cX5_limps 19 = .ok (.ifCond .ne 5, 3) := by decide +kernel
theorem dX5_limps_22 : decode cX5_limps 22 = .ok (.iconst (-1), 1) := by decide +kernel
theorem dX5_limps_23 : decode cX5_limps 23 = .ok (.ireturn, 1) := by decide +kernel
theorem dX5_limps_24 : decode cX5_limps 24 = .ok (.aload_n 0, 1) := by decide +kernel
theorem dX5_limps_25 : decode cX5_limps 25 = .ok (.getfield 31, 3) := by decide +kernel
theorem dX5_limps_28 : decode cX5_limps 28 = .ok (.getfield 45, 3) := by decide +kernel
theorem dX5_limps_31 : decode cX5_limps 31 = .ok (.invokevirtual 163, 3) := by decide +kernel
theorem dX5_limps_34 : decode cX5_limps 34 = .ok (.ifCond .eq 6, 3) := by decide +kernel
theorem dX5_limps_37 : decode cX5_limps 37 = .ok (.bipush (-4), 2) := by decide +kernel
theorem dX5_limps_39 : decode cX5_limps 39 = .ok (.ireturn, 1) := by decide +kernel
theorem dX5_limps_40 : decode cX5_limps 40 = .ok (.aload_n 0, 1) := by decide +kernel
theorem dX5_limps_41 : decode cX5_limps 41 = .ok (.getfield 14, 3) := by decide +kernel
theorem dX5_limps_44 : decode cX5_limps 44 = .ok (.iload_n 2, 1) := by decide +kernel
theorem dX5_limps_45 : decode cX5_limps 45 = .ok (.iload_n 1, 1) := by decide +kernel
theorem dX5_limps_46 : decode cX5_limps 46 = .ok (.iconst 0, 1) := by decide +kernel
theorem dX5_limps_47 : decode cX5_limps 47 = .ok (.invokevirtual 193, 3) := by decide +kernel
theorem dX5_limps_50 : decode cX5_limps 50 = .ok (.aload_n 0, 1) := by decide +kernel
theorem dX5_limps_51 : decode cX5_limps 51 = .ok (.getfield 52, 3) := by decide +kernel
theorem dX5_limps_54 : decode cX5_limps 54 = .ok (.aload_n 0, 1) := by decide +kernel
theorem dX5_limps_55 : decode cX5_limps 55 = .ok (.getfield 14, 3) := by decide +kernel
theorem dX5_limps_58 : decode cX5_limps 58 = .ok (.iload_n 2, 1) := by decide +kernel
theorem dX5_limps_59 : decode cX5_limps 59 = .ok (.invokevirtual 117, 3) := by decide +kernel
theorem dX5_limps_62 : decode cX5_limps 62 = .ok (.iload_n 1, 1) := by decide +kernel
theorem dX5_limps_63 : decode cX5_limps 63 = .ok (.invokevirtual 197, 3) := by decide +kernel
theorem dX5_limps_66 : decode cX5_limps 66 = .ok (.ireturn, 1) := by decide +kernel
theorem dX5_gate_0 : decode cX5_gate 0 = .ok (.aload_n 0, 1) := by decide +kernel
theorem dX5_gate_1 : decode cX5_gate 1 = .ok (.getfield 31, 3) := by decide +kernel
theorem dX5_gate_4 : decode cX5_gate 4 = .ok (.getfield 45, 3) := by decide +kernel
theorem dX5_gate_7 : decode cX5_gate 7 = .ok (.invokevirtual 163, 3) := by decide +kernel
theorem dX5_gate_10 : decode cX5_gate 10 = .ok (.ifCond .eq 8, 3) := by decide +kernel
theorem dX5_gate_13 : decode cX5_gate 13 = .ok (.bipush (-4), 2) := by decide +kernel
theorem dX5_gate_15 : decode cX5_gate 15 = .ok (.goto 14, 3) := by decide +kernel
theorem dX5_gate_18 : decode cX5_gate 18 = .ok (.aload_n 0, 1) := by decide +kernel
theorem dX5_gate_19 : decode cX5_gate 19 = .ok (.aload_n 0, 1) := by decide +kernel
theorem dX5_gate_20 : decode cX5_gate 20 = .ok (.getfield 52, 3) := by decide +kernel
theorem dX5_gate_23 : decode cX5_gate 23 = .ok (.invokevirtual 200, 3) := by decide +kernel
theorem dX5_gate_26 : decode cX5_gate 26 = .ok (.invokevirtual 186, 3) := by decide +kernel
theorem dX5_gate_29 : decode cX5_gate 29 = .ok (.ireturn, 1) := by decide +kernel
theorem dX5_turned_0 : decode cX5_turned 0 = .ok (.aload_n 0, 1) := by decide +kernel
theorem dX5_turned_1 : decode cX5_turned 1 = .ok (.getfield 31, 3) := by decide +kernel
theorem dX5_turned_4 : decode cX5_turned 4 = .ok (.getfield 45, 3) := by decide +kernel
theorem dX5_turned_7 : decode cX5_turned 7 = .ok (.invokevirtual 163, 3) := by decide +kernel
theorem dX5_turned_10 : decode cX5_turned 10 = .ok (.ifCond .eq 8, 3) := by decide +kernel
theorem dX5_turned_13 : decode cX5_turned 13 = .ok (.bipush (-4), 2) := by decide +kernel
theorem dX5_turned_15 : decode cX5_turned 15 = .ok (.goto 14, 3) := by decide +kernel
theorem dX5_turned_18 : decode cX5_turned 18 = .ok (.aload_n 0, 1) := by decide +kernel
theorem dX5_turned_19 : decode cX5_turned 19 = .ok (.aload_n 0, 1) := by decide +kernel
theorem dX5_turned_20 : decode cX5_turned 20 = .ok (.getfield 52, 3) := by decide +kernel
theorem dX5_turned_23 : decode cX5_turned 23 = .ok (.invokevirtual 203, 3) := by decide +kernel
theorem dX5_turned_26 : decode cX5_turned 26 = .ok (.invokevirtual 186, 3) := by decide +kernel
theorem dX5_turned_29 : decode cX5_turned 29 = .ok (.ireturn, 1) := by decide +kernel
theorem dX5_change_0 : decode cX5_change 0 = .ok (.aload_n 0, 1) := by decide +kernel
theorem dX5_change_1 : decode cX5_change 1 = .ok (.getfield 31, 3) := by decide +kernel
theorem dX5_change_4 : decode cX5_change 4 = .ok (.getfield 45, 3) := by decide +kernel
theorem dX5_change_7 : decode cX5_change 7 = .ok (.invokevirtual 163, 3) := by decide +kernel
theorem dX5_change_10 : decode cX5_change 10 = .ok (.ifCond .eq 8, 3) := by decide +kernel
theorem dX5_change_13 : decode cX5_change 13 = .ok (.bipush (-4), 2) := by decide +kernel
theorem dX5_change_15 : decode cX5_change 15 = .ok (.goto 14, 3) := by decide +kernel
theorem dX5_change_18 : decode cX5_change 18 = .ok (.aload_n 0, 1) := by decide +kernel
theorem dX5_change_19 : decode cX5_change 19 = .ok (.aload_n 0, 1) := by decide +kernel
theorem dX5_change_20 : decode cX5_change 20 = .ok (.getfield 52, 3) := by decide +kernel
theorem dX5_change_23 : decode cX5_change 23 = .ok (.invokevirtual 206, 3) := by decide +kernel
theorem dX5_change_26 : decode cX5_change 26 = .ok (.invokevirtual 186, 3) := by decide +kernel
theorem dX5_change_29 : decode cX5_change 29 = .ok (.ireturn, 1) := by decide +kernel
theorem dX5_gone_0 : decode cX5_gone 0 = .ok (.aload_n 0, 1) := by decide +kernel
theorem dX5_gone_1 : decode cX5_gone 1 = .ok (.getfield 14, 3) := by decide +kernel
theorem dX5_gone_4 : decode cX5_gone 4 = .ok (.iload_n 1, 1) := by decide +kernel
theorem dX5_gone_5 : decode cX5_gone 5 = .ok (.invokevirtual 92, 3) := by decide +kernel
theorem dX5_gone_8 : decode cX5_gone 8 = .ok (.ifCond .ne 5, 3) := by decide +kernel
theorem dX5_gone_11 : decode cX5_gone 11 = .ok (.iconst (-1), 1) := by decide +kernel
theorem dX5_gone_12 : decode cX5_gone 12 = .ok (.ireturn, 1) := by decide +kernel
theorem dX5_gone_13 : decode cX5_gone 13 = .ok (.aload_n 0, 1) := by decide +kernel
theorem dX5_gone_14 : decode cX5_gone 14 = .ok (.getfield 31, 3) := by decide +kernel
theorem dX5_gone_17 : decode cX5_gone 17 = .ok (.getfield 45, 3) := by decide +kernel
theorem dX5_gone_20 : decode cX5_gone 20 = .ok (.invokevirtual 163, 3) := by decide +kernel
theorem dX5_gone_23 : decode cX5_gone 23 = .ok (.ifCond .eq 6, 3) := by decide +kernel
theorem dX5_gone_26 : decode cX5_gone 26 = .ok (.bipush (-4), 2) := by decide +kernel
theorem dX5_gone_28 : decode cX5_gone 28 = .ok (.ireturn, 1) := by decide +kernel
theorem dX5_gone_29 : decode cX5_gone 29 = .ok (.aload_n 0, 1) := by decide +kernel
theorem dX5_gone_30 : decode cX5_gone 30 = .ok (.iload_n 1, 1) := by decide +kernel
theorem dX5_gone_31 : decode cX5_gone 31 = .ok (.invokevirtual 209, 3) := by decide +kernel
theorem dX5_gone_34 : decode cX5_gone 34 = .ok (.istore_n 2, 1) := by decide +kernel
theorem dX5_gone_35 : decode cX5_gone 35 = .ok (.iload_n 2, 1) := by decide +kernel
theorem dX5_gone_36 : decode cX5_gone 36 = .ok (.ifCond .eq 5, 3) := by decide +kernel
theorem dX5_gone_39 : decode cX5_gone 39 = .ok (.iload_n 2, 1) := by decide +kernel
theorem dX5_gone_40 : decode cX5_gone 40 = .ok (.ireturn, 1) := by decide +kernel
theorem dX5_gone_41 : decode cX5_gone 41 = .ok (.aload_n 0, 1) := by decide +kernel
theorem dX5_gone_42 : decode cX5_gone 42 = .ok (.aload_n 0, 1) := by decide +kernel
theorem dX5_gone_43 : decode cX5_gone 43 = .ok (.getfield 52, 3) := by decide +kernel
theorem dX5_gone_46 : decode cX5_gone 46 = .ok (.aload_n 0, 1) := by decide +kernel
theorem dX5_gone_47 : decode cX5_gone 47 = .ok (.getfield 14, 3) := by decide +kernel
theorem dX5_gone_50 : decode cX5_gone 50 = .ok (.iload_n 1, 1) := by decide +kernel
theorem dX5_gone_51 : decode cX5_gone 51 = .ok (.invokevirtual 117, 3) := by decide +kernel
theorem dX5_gone_54 : decode cX5_gone 54 = .ok (.aload_n 0, 1) := by decide +kernel
theorem dX5_gone_55 : decode cX5_gone 55 = .ok (.getfield 14, 3) := by decide +kernel
theorem dX5_gone_58 : decode cX5_gone 58 = .ok (.iload_n 1, 1) := by decide +kernel
theorem dX5_gone_59 : decode cX5_gone 59 = .ok (.invokevirtual 110, 3) := by decide +kernel
theorem dX5_gone_62 : decode cX5_gone 62 = .ok (.invokevirtual 212, 3) := by decide +kernel
theorem dX5_gone_65 : decode cX5_gone 65 = .ok (.invokevirtual 186, 3) := by decide +kernel
theorem dX5_gone_68 : decode cX5_gone 68 = .ok (.ireturn, 1) := by decide +kernel
theorem dX5_strengths_0 : decode cX5_strengths 0 = .ok (.aload_n 0, 1) := by decide +kernel
theorem dX5_strengths_1 : decode cX5_strengths 1 = .ok (.iload_n 1, 1) := by decide +kernel
theorem dX5_strengths_2 : decode cX5_strengths 2 = .ok (.iload_n 2, 1) := by decide +kernel
theorem dX5_strengths_3 : decode cX5_strengths 3 = .ok (.invokevirtual 215, 3) := by decide +kernel
theorem dX5_strengths_6 : decode cX5_strengths 6 = .ok (.istore_n 3, 1) := by decide +kernel
theorem dX5_strengths_7 : decode cX5_strengths 7 = .ok (.iload_n 3, 1) := by decide +kernel
theorem dX5_strengths_8 : decode cX5_strengths 8 = .ok (.ifCond .eq 5, 3) := by decide +kernel
theorem dX5_strengths_11 : decode cX5_strengths 11 = .ok (.iload_n 3, 1) := by decide +kernel
theorem dX5_strengths_12 : decode cX5_strengths 12 = .ok (.ireturn, 1) := by decide +kernel
theorem dX5_strengths_13 : decode cX5_strengths 13 = .ok (.aload_n 0, 1) := by decide +kernel
theorem dX5_strengths_14 : decode cX5_strengths 14 = .ok (.getfield 52, 3) := by decide +kernel
theorem dX5_strengths_17 : decode cX5_strengths 17 = .ok (.iload_n 1, 1) := by decide +kernel
theorem dX5_strengths_18 : decode cX5_strengths 18 = .ok (.aload_n 0, 1) := by decide +kernel
theorem dX5_strengths_19 : decode cX5_strengths 19 = .ok (.getfield 14, 3) := by decide +kernel
theorem dX5_strengths_22 : decode cX5_strengths 22 = .ok (.iload_n 2, 1) := by decide +kernel
theorem dX5_strengths_23 : decode cX5_strengths 23 = .ok (.invokevirtual 117, 3) := by decide +kernel
theorem dX5_strengths_26 : decode cX5_strengths 26 = .ok (.aload_n 0, 1) := by decide +kernel
theorem dX5_strengths_27 : decode cX5_strengths 27 = .ok (.getfield 14, 3) := by decide +kernel
theorem dX5_strengths_30 : decode cX5_strengths 30 = .ok (.iload_n 2, 1) := by decide +kernel
theorem dX5_strengths_31 : decode cX5_strengths 31 = .ok (.invokevirtual 110, 3) := by decide +kernel
theorem dX5_strengths_34 : decode cX5_strengths 34 = .ok (.invokevirtual 218, 3) := by decide +kernel
theorem dX5_strengths_37 : decode cX5_strengths 37 = .ok (.ireturn, 1) := by decide +kernel
theorem dX5_kinds_0 : decode cX5_kinds 0 = .ok (.aload_n 0, 1) := by decide +kernel
theorem dX5_kinds_1 : decode cX5_kinds 1 = .ok (.iload_n 1, 1) := by decide +kernel
theorem dX5_kinds_2 : decode cX5_kinds 2 = .ok (.iload_n 2, 1) := by decide +kernel
theorem dX5_kinds_3 : decode cX5_kinds 3 = .ok (.invokevirtual 215, 3) := by decide +kernel
theorem dX5_kinds_6 : decode cX5_kinds 6 = .ok (.istore_n 3, 1) := by decide +kernel
theorem dX5_kinds_7 : decode cX5_kinds 7 = .ok (.iload_n 3, 1) := by decide +kernel
theorem dX5_kinds_8 : decode cX5_kinds 8 = .ok (.ifCond .eq 5, 3) := by decide +kernel
theorem dX5_kinds_11 : decode cX5_kinds 11 = .ok (.iload_n 3, 1) := by decide +kernel
theorem dX5_kinds_12 : decode cX5_kinds 12 = .ok (.ireturn, 1) := by decide +kernel
theorem dX5_kinds_13 : decode cX5_kinds 13 = .ok (.aload_n 0, 1) := by decide +kernel
theorem dX5_kinds_14 : decode cX5_kinds 14 = .ok (.getfield 52, 3) := by decide +kernel
theorem dX5_kinds_17 : decode cX5_kinds 17 = .ok (.iload_n 1, 1) := by decide +kernel
theorem dX5_kinds_18 : decode cX5_kinds 18 = .ok (.aload_n 0, 1) := by decide +kernel
theorem dX5_kinds_19 : decode cX5_kinds 19 = .ok (.getfield 14, 3) := by decide +kernel
theorem dX5_kinds_22 : decode cX5_kinds 22 = .ok (.iload_n 2, 1) := by decide +kernel
theorem dX5_kinds_23 : decode cX5_kinds 23 = .ok (.invokevirtual 117, 3) := by decide +kernel
theorem dX5_kinds_26 : decode cX5_kinds 26 = .ok (.aload_n 0, 1) := by decide +kernel
theorem dX5_kinds_27 : decode cX5_kinds 27 = .ok (.getfield 14, 3) := by decide +kernel
theorem dX5_kinds_30 : decode cX5_kinds 30 = .ok (.iload_n 2, 1) := by decide +kernel
theorem dX5_kinds_31 : decode cX5_kinds 31 = .ok (.invokevirtual 110, 3) := by decide +kernel
theorem dX5_kinds_34 : decode cX5_kinds 34 = .ok (.invokevirtual 222, 3) := by decide +kernel
theorem dX5_kinds_37 : decode cX5_kinds 37 = .ok (.ireturn, 1) := by decide +kernel
theorem dX5_look_0 : decode cX5_look 0 = .ok (.aload_n 0, 1) := by decide +kernel
theorem dX5_look_1 : decode cX5_look 1 = .ok (.getfield 31, 3) := by decide +kernel
theorem dX5_look_4 : decode cX5_look 4 = .ok (.getfield 45, 3) := by decide +kernel
theorem dX5_look_7 : decode cX5_look 7 = .ok (.iload_n 1, 1) := by decide +kernel
theorem dX5_look_8 : decode cX5_look 8 = .ok (.invokevirtual 136, 3) := by decide +kernel
theorem dX5_look_11 : decode cX5_look 11 = .ok (.ifCond .eq 18, 3) := by decide +kernel
theorem dX5_look_14 : decode cX5_look 14 = .ok (.aload_n 0, 1) := by decide +kernel
theorem dX5_look_15 : decode cX5_look 15 = .ok (.aload_n 0, 1) := by decide +kernel
theorem dX5_look_16 : decode cX5_look 16 = .ok (.getfield 52, 3) := by decide +kernel
theorem dX5_look_19 : decode cX5_look 19 = .ok (.iload_n 1, 1) := by decide +kernel
theorem dX5_look_20 : decode cX5_look 20 = .ok (.invokevirtual 225, 3) := by decide +kernel
theorem dX5_look_23 : decode cX5_look 23 = .ok (.invokevirtual 186, 3) := by decide +kernel
theorem dX5_look_26 : decode cX5_look 26 = .ok (.goto 4, 3) := by decide +kernel
theorem dX5_look_29 : decode cX5_look 29 = .ok (.iconst (-1), 1) := by decide +kernel
theorem dX5_look_30 : decode cX5_look 30 = .ok (.ireturn, 1) := by decide +kernel
theorem dX5_duel_0 : decode cX5_duel 0 = .ok (.iload_n 1, 1) := by decide +kernel
theorem dX5_duel_1 : decode cX5_duel 1 = .ok (.ifCond .lt 8, 3) := by decide +kernel
theorem dX5_duel_4 : decode cX5_duel 4 = .ok (.iload_n 1, 1) := by decide +kernel
theorem dX5_duel_5 : decode cX5_duel 5 = .ok (.iconst 4, 1) := by decide +kernel
theorem dX5_duel_6 : decode cX5_duel 6 = .ok (.if_icmp .le 5, 3) := by decide +kernel
theorem dX5_duel_9 : decode cX5_duel 9 = .ok (.iconst (-1), 1) := by decide +kernel
theorem dX5_duel_10 : decode cX5_duel 10 = .ok (.ireturn, 1) := by decide +kernel
theorem dX5_duel_11 : decode cX5_duel 11 = .ok (.aload_n 0, 1) := by decide +kernel
theorem dX5_duel_12 : decode cX5_duel 12 = .ok (.getfield 31, 3) := by decide +kernel
theorem dX5_duel_15 : decode cX5_duel 15 = .ok (.getfield 45, 3) := by decide +kernel
theorem dX5_duel_18 : decode cX5_duel 18 = .ok (.invokevirtual 163, 3) := by decide +kernel
theorem dX5_duel_21 : decode cX5_duel 21 = .ok (.ifCond .eq 6, 3) := by decide +kernel
theorem dX5_duel_24 : decode cX5_duel 24 = .ok (.bipush (-4), 2) := by decide +kernel
theorem dX5_duel_26 : decode cX5_duel 26 = .ok (.ireturn, 1) := by decide +kernel
theorem dX5_duel_27 : decode cX5_duel 27 = .ok (.aload_n 0, 1) := by decide +kernel
theorem dX5_duel_28 : decode cX5_duel 28 = .ok (.getfield 52, 3) := by decide +kernel
theorem dX5_duel_31 : decode cX5_duel 31 = .ok (.iload_n 1, 1) := by decide +kernel
theorem dX5_duel_32 : decode cX5_duel 32 = .ok (.iconst 1, 1) := by decide +kernel
theorem dX5_duel_33 : decode cX5_duel 33 = .ok (.aload_n 0, 1) := by decide +kernel
theorem dX5_duel_34 : decode cX5_duel 34 = .ok (.getfield 31, 3) := by decide +kernel
theorem dX5_duel_37 : decode cX5_duel 37 = .ok (.getfield 45, 3) := by decide +kernel
theorem dX5_duel_40 : decode cX5_duel 40 = .ok (.getfield 228, 3) := by decide +kernel
theorem dX5_duel_43 : decode cX5_duel 43 = .ok (.iconst 0, 1) := by decide +kernel
theorem dX5_duel_44 : decode cX5_duel 44 = .ok (.iconst (-1), 1) := by decide +kernel
theorem dX5_duel_45 : decode cX5_duel 45 = .ok (.bipush 13, 2) := by decide +kernel
theorem dX5_duel_47 : decode cX5_duel 47 = .ok (.invokevirtual 231, 3) := by decide +kernel
theorem dX5_duel_50 : decode cX5_duel 50 = .ok (.ireturn, 1) := by decide +kernel
theorem dX5_odds_0 : decode cX5_odds 0 = .ok (.iload_n 1, 1) := by decide +kernel
theorem dX5_odds_1 : decode cX5_odds 1 = .ok (.ifCond .lt 19, 3) := by decide +kernel
theorem dX5_odds_4 : decode cX5_odds 4 = .ok (.iload_n 1, 1) := by decide +kernel
theorem dX5_odds_5 : decode cX5_odds 5 = .ok (.bipush 20, 2) := by decide +kernel
theorem dX5_odds_7 : decode cX5_odds 7 = .ok (.if_icmp .gt 13, 3) := by decide +kernel
theorem dX5_odds_10 : decode cX5_odds 10 = .ok (.iload_n 2, 1) := by decide +kernel
theorem dX5_odds_11 : decode cX5_odds 11 = .ok (.ifCond .lt 9, 3) := by decide +kernel
theorem dX5_odds_14 : decode cX5_odds 14 = .ok (.iload_n 2, 1) := by decide +kernel
theorem dX5_odds_15 : decode cX5_odds 15 = .ok (.bipush 12, 2) := by decide +kernel
theorem dX5_odds_17 : decode cX5_odds 17 = .ok (.if_icmp .le 5, 3) := by decide +kernel
theorem dX5_odds_20 : decode cX5_odds 20 = .ok (.iconst (-1), 1) := by decide +kernel
theorem dX5_odds_21 : decode cX5_odds 21 = .ok (.ireturn, 1) := by decide +kernel
theorem dX5_odds_22 : decode cX5_odds 22 = .ok (.aload_n 0, 1) := by decide +kernel
theorem dX5_odds_23 : decode cX5_odds 23 = .ok (.getfield 31, 3) := by decide +kernel
theorem dX5_odds_26 : decode cX5_odds 26 = .ok (.getfield 45, 3) := by decide +kernel
theorem dX5_odds_29 : decode cX5_odds 29 = .ok (.invokevirtual 163, 3) := by decide +kernel
theorem dX5_odds_32 : decode cX5_odds 32 = .ok (.ifCond .eq 6, 3) := by decide +kernel
theorem dX5_odds_35 : decode cX5_odds 35 = .ok (.bipush (-4), 2) := by decide +kernel
theorem dX5_odds_37 : decode cX5_odds 37 = .ok (.ireturn, 1) := by decide +kernel
theorem dX5_odds_38 : decode cX5_odds 38 = .ok (.aload_n 0, 1) := by decide +kernel
theorem dX5_odds_39 : decode cX5_odds 39 = .ok (.aload_n 0, 1) := by decide +kernel
theorem dX5_odds_40 : decode cX5_odds 40 = .ok (.getfield 52, 3) := by decide +kernel
theorem dX5_odds_43 : decode cX5_odds 43 = .ok (.iload_n 1, 1) := by decide +kernel
theorem dX5_odds_44 : decode cX5_odds 44 = .ok (.iload_n 2, 1) := by decide +kernel
theorem dX5_odds_45 : decode cX5_odds 45 = .ok (.invokevirtual 235, 3) := by decide +kernel
theorem dX5_odds_48 : decode cX5_odds 48 = .ok (.invokevirtual 239, 3) := by decide +kernel
theorem dX5_odds_51 : decode cX5_odds 51 = .ok (.ireturn, 1) := by decide +kernel
theorem dX5_mid_0 : decode cX5_mid 0 = .ok (.iload_n 1, 1) := by decide +kernel
theorem dX5_mid_1 : decode cX5_mid 1 = .ok (.ifCond .lt 9, 3) := by decide +kernel
theorem dX5_mid_4 : decode cX5_mid 4 = .ok (.iload_n 1, 1) := by decide +kernel
theorem dX5_mid_5 : decode cX5_mid 5 = .ok (.bipush 12, 2) := by decide +kernel
theorem dX5_mid_7 : decode cX5_mid 7 = .ok (.if_icmp .le 5, 3) := by decide +kernel
theorem dX5_mid_10 : decode cX5_mid 10 = .ok (.iconst (-1), 1) := by decide +kernel
theorem dX5_mid_11 : decode cX5_mid 11 = .ok (.ireturn, 1) := by decide +kernel
theorem dX5_mid_12 : decode cX5_mid 12 = .ok (.aload_n 0, 1) := by decide +kernel
theorem dX5_mid_13 : decode cX5_mid 13 = .ok (.getfield 31, 3) := by decide +kernel
theorem dX5_mid_16 : decode cX5_mid 16 = .ok (.getfield 45, 3) := by decide +kernel
theorem dX5_mid_19 : decode cX5_mid 19 = .ok (.invokevirtual 163, 3) := by decide +kernel
theorem dX5_mid_22 : decode cX5_mid 22 = .ok (.ifCond .eq 6, 3) := by decide +kernel
theorem dX5_mid_25 : decode cX5_mid 25 = .ok (.bipush (-4), 2) := by decide +kernel
theorem dX5_mid_27 : decode cX5_mid 27 = .ok (.ireturn, 1) := by decide +kernel
theorem dX5_mid_28 : decode cX5_mid 28 = .ok (.aload_n 0, 1) := by decide +kernel
theorem dX5_mid_29 : decode cX5_mid 29 = .ok (.aload_n 0, 1) := by decide +kernel
theorem dX5_mid_30 : decode cX5_mid 30 = .ok (.getfield 52, 3) := by decide +kernel
theorem dX5_mid_33 : decode cX5_mid 33 = .ok (.iload_n 1, 1) := by decide +kernel
theorem dX5_mid_34 : decode cX5_mid 34 = .ok (.invokevirtual 243, 3) := by decide +kernel
theorem dX5_mid_37 : decode cX5_mid 37 = .ok (.invokevirtual 239, 3) := by decide +kernel
theorem dX5_mid_40 : decode cX5_mid 40 = .ok (.ireturn, 1) := by decide +kernel
theorem dX5_lots_0 : decode cX5_lots 0 = .ok (.iload_n 1, 1) := by decide +kernel
theorem dX5_lots_1 : decode cX5_lots 1 = .ok (.iconst 1, 1) := by decide +kernel
theorem dX5_lots_2 : decode cX5_lots 2 = .ok (.if_icmp .lt 23, 3) := by decide +kernel
theorem dX5_lots_5 : decode cX5_lots 5 = .ok (.iload_n 1, 1) := by decide +kernel
theorem dX5_lots_6 : decode cX5_lots 6 = .ok (.bipush 20, 2) := by decide +kernel
theorem dX5_lots_8 : decode cX5_lots 8 = .ok (.if_icmp .gt 17, 3) := by decide +kernel
theorem dX5_lots_11 : decode cX5_lots 11 = .ok (.iload_n 2, 1) := by decide +kernel
theorem dX5_lots_12 : decode cX5_lots 12 = .ok (.iconst 1, 1) := by decide +kernel
theorem dX5_lots_13 : decode cX5_lots 13 = .ok (.if_icmp .lt 12, 3) := by decide +kernel
theorem dX5_lots_16 : decode cX5_lots 16 = .ok (.iload_n 2, 1) := by decide +kernel
theorem dX5_lots_17 : decode cX5_lots 17 = .ok (.i2l, 1) := by decide +kernel
theorem dX5_lots_18 : decode cX5_lots 18 = .ok (.ldc2_w 246, 3) := by decide +kernel
theorem dX5_lots_21 : decode cX5_lots 21 = .ok (.lcmp, 1) := by decide +kernel
theorem dX5_lots_22 : decode cX5_lots 22 = .ok (.ifCond .lt 5, 3) := by decide +kernel
theorem dX5_lots_25 : decode cX5_lots 25 = .ok (.iconst (-1), 1) := by decide +kernel
theorem dX5_lots_26 : decode cX5_lots 26 = .ok (.ireturn, 1) := by decide +kernel
theorem dX5_lots_27 : decode cX5_lots 27 = .ok (.aload_n 0, 1) := by decide +kernel
theorem dX5_lots_28 : decode cX5_lots 28 = .ok (.getfield 31, 3) := by decide +kernel
theorem dX5_lots_31 : decode cX5_lots 31 = .ok (.getfield 45, 3) := by decide +kernel
theorem dX5_lots_34 : decode cX5_lots 34 = .ok (.invokevirtual 163, 3) := by decide +kernel
theorem dX5_lots_37 : decode cX5_lots 37 = .ok (.ifCond .eq 6, 3) := by decide +kernel
theorem dX5_lots_40 : decode cX5_lots 40 = .ok (.bipush (-4), 2) := by decide +kernel
theorem dX5_lots_42 : decode cX5_lots 42 = .ok (.ireturn, 1) := by decide +kernel
theorem dX5_lots_43 : decode cX5_lots 43 = .ok (.aload_n 0, 1) := by decide +kernel
theorem dX5_lots_44 : decode cX5_lots 44 = .ok (.getfield 31, 3) := by decide +kernel
theorem dX5_lots_47 : decode cX5_lots 47 = .ok (.getfield 39, 3) := by decide +kernel
theorem dX5_lots_50 : decode cX5_lots 50 = .ok (.iload_n 1, 1) := by decide +kernel
theorem dX5_lots_51 : decode cX5_lots 51 = .ok (.iadd, 1) := by decide +kernel
theorem dX5_lots_52 : decode cX5_lots 52 = .ok (.bipush 40, 2) := by decide +kernel
theorem dX5_lots_54 : decode cX5_lots 54 = .ok (.if_icmp .le 6, 3) := by decide +kernel
theorem dX5_lots_57 : decode cX5_lots 57 = .ok (.bipush (-2), 2) := by decide +kernel
theorem dX5_lots_59 : decode cX5_lots 59 = .ok (.ireturn, 1) := by decide +kernel
theorem dX5_lots_60 : decode cX5_lots 60 = .ok (.iload_n 2, 1) := by decide +kernel
theorem dX5_lots_61 : decode cX5_lots 61 = .ok (.i2l, 1) := by decide +kernel
theorem dX5_lots_62 : decode cX5_lots 62 = .ok (.lstore_n 3, 1) := by decide +kernel
theorem dX5_lots_63 : decode cX5_lots 63 = .ok (.iconst 0, 1) := by decide +kernel
theorem dX5_lots_64 : decode cX5_lots 64 = .ok (.istore 5, 2) := by decide +kernel
theorem dX5_lots_66 : decode cX5_lots 66 = .ok (.iload 5, 2) := by decide +kernel
theorem dX5_lots_68 : decode cX5_lots 68 = .ok (.iload_n 1, 1) := by decide +kernel
theorem dX5_lots_69 : decode cX5_lots 69 = .ok (.if_icmp .ge 24, 3) := by decide +kernel
theorem dX5_lots_72 : decode cX5_lots 72 = .ok (.lload_n 3, 1) := by decide +kernel
theorem dX5_lots_73 : decode cX5_lots 73 = .ok (.ldc2_w 248, 3) := by decide +kernel
theorem dX5_lots_76 : decode cX5_lots 76 = .ok (.lmul, 1) := by decide +kernel
theorem dX5_lots_77 : decode cX5_lots 77 = .ok (.ldc2_w 246, 3) := by decide +kernel
theorem dX5_lots_80 : decode cX5_lots 80 = .ok (.lrem, 1) := by decide +kernel
theorem dX5_lots_81 : decode cX5_lots 81 = .ok (.lstore_n 3, 1) := by decide +kernel
theorem dX5_lots_82 : decode cX5_lots 82 = .ok (.aload_n 0, 1) := by decide +kernel
theorem dX5_lots_83 : decode cX5_lots 83 = .ok (.lload_n 3, 1) := by decide +kernel
theorem dX5_lots_84 : decode cX5_lots 84 = .ok (.invokevirtual 250, 3) := by decide +kernel
theorem dX5_lots_87 : decode cX5_lots 87 = .ok (.iinc 5 1, 3) := by decide +kernel
theorem dX5_lots_90 : decode cX5_lots 90 = .ok (.goto (-24), 3) := by decide +kernel
theorem dX5_lots_93 : decode cX5_lots 93 = .ok (.aload_n 0, 1) := by decide +kernel
theorem dX5_lots_94 : decode cX5_lots 94 = .ok (.getfield 31, 3) := by decide +kernel
theorem dX5_lots_97 : decode cX5_lots 97 = .ok (.getfield 45, 3) := by decide +kernel
theorem dX5_lots_100 : decode cX5_lots 100 = .ok (.getfield 254, 3) := by decide +kernel
theorem dX5_lots_103 : decode cX5_lots 103 = .ok (.ireturn, 1) := by decide +kernel
theorem dX5_asked_0 : decode cX5_asked 0 = .ok (.aload_n 0, 1) := by decide +kernel
theorem dX5_asked_1 : decode cX5_asked 1 = .ok (.getfield 257, 3) := by decide +kernel
theorem dX5_asked_4 : decode cX5_asked 4 = .ok (.ireturn, 1) := by decide +kernel
theorem dX5_upper_0 : decode cX5_upper 0 = .ok (.aload_n 0, 1) := by decide +kernel
theorem dX5_upper_1 : decode cX5_upper 1 = .ok (.getfield 260, 3) := by decide +kernel
theorem dX5_upper_4 : decode cX5_upper 4 = .ok (.lreturn, 1) := by decide +kernel
theorem dX5_lower_0 : decode cX5_lower 0 = .ok (.aload_n 0, 1) := by decide +kernel
theorem dX5_lower_1 : decode cX5_lower 1 = .ok (.getfield 60, 3) := by decide +kernel
theorem dX5_lower_4 : decode cX5_lower 4 = .ok (.lreturn, 1) := by decide +kernel
theorem dX5_count_0 : decode cX5_count 0 = .ok (.iload_n 1, 1) := by decide +kernel
theorem dX5_count_1 : decode cX5_count 1 = .ok (.ifCond .lt 9, 3) := by decide +kernel
theorem dX5_count_4 : decode cX5_count 4 = .ok (.iload_n 1, 1) := by decide +kernel
theorem dX5_count_5 : decode cX5_count 5 = .ok (.bipush 12, 2) := by decide +kernel
theorem dX5_count_7 : decode cX5_count 7 = .ok (.if_icmp .le 7, 3) := by decide +kernel
theorem dX5_count_10 : decode cX5_count 10 = .ok (.iconst (-1), 1) := by decide +kernel
theorem dX5_count_11 : decode cX5_count 11 = .ok (.goto 8, 3) := by decide +kernel
theorem dX5_count_14 : decode cX5_count 14 = .ok (.aload_n 0, 1) := by decide +kernel
theorem dX5_count_15 : decode cX5_count 15 = .ok (.iload_n 1, 1) := by decide +kernel
theorem dX5_count_16 : decode cX5_count 16 = .ok (.invokevirtual 263, 3) := by decide +kernel
theorem dX5_count_19 : decode cX5_count 19 = .ok (.ireturn, 1) := by decide +kernel
theorem dX5_finding_0 : decode cX5_finding 0 = .ok (.aload_n 0, 1) := by decide +kernel
theorem dX5_finding_1 : decode cX5_finding 1 = .ok (.getfield 266, 3) := by decide +kernel
theorem dX5_finding_4 : decode cX5_finding 4 = .ok (.ireturn, 1) := by decide +kernel
theorem dX5_findings_0 : decode cX5_findings 0 = .ok (.iload_n 1, 1) := by decide +kernel
theorem dX5_findings_1 : decode cX5_findings 1 = .ok (.iconst 1, 1) := by decide +kernel
theorem dX5_findings_2 : decode cX5_findings 2 = .ok (.if_icmp .lt 8, 3) := by decide +kernel
theorem dX5_findings_5 : decode cX5_findings 5 = .ok (.iload_n 1, 1) := by decide +kernel
theorem dX5_findings_6 : decode cX5_findings 6 = .ok (.iconst 5, 1) := by decide +kernel
theorem dX5_findings_7 : decode cX5_findings 7 = .ok (.if_icmp .le 7, 3) := by decide +kernel
theorem dX5_findings_10 : decode cX5_findings 10 = .ok (.iconst (-1), 1) := by decide +kernel
theorem dX5_findings_11 : decode cX5_findings 11 = .ok (.goto 9, 3) := by decide +kernel
theorem dX5_findings_14 : decode cX5_findings 14 = .ok (.aload_n 0, 1) := by decide +kernel
theorem dX5_findings_15 : decode cX5_findings 15 = .ok (.getfield 56, 3) := by decide +kernel
theorem dX5_findings_18 : decode cX5_findings 18 = .ok (.iload_n 1, 1) := by decide +kernel
theorem dX5_findings_19 : decode cX5_findings 19 = .ok (.iaload, 1) := by decide +kernel
theorem dX5_findings_20 : decode cX5_findings 20 = .ok (.ireturn, 1) := by decide +kernel
theorem dX5_digest_0 : decode cX5_digest 0 = .ok (.ldc2_w 269, 3) := by decide +kernel
theorem dX5_digest_3 : decode cX5_digest 3 = .ok (.lstore_n 1, 1) := by decide +kernel
theorem dX5_digest_4 : decode cX5_digest 4 = .ok (.iconst 0, 1) := by decide +kernel
theorem dX5_digest_5 : decode cX5_digest 5 = .ok (.istore_n 3, 1) := by decide +kernel
theorem dX5_digest_6 : decode cX5_digest 6 = .ok (.iload_n 3, 1) := by decide +kernel
theorem dX5_digest_7 : decode cX5_digest 7 = .ok (.bipush 12, 2) := by decide +kernel
theorem dX5_digest_9 : decode cX5_digest 9 = .ok (.if_icmp .gt 22, 3) := by decide +kernel
theorem dX5_digest_12 : decode cX5_digest 12 = .ok (.ldc2_w 271, 3) := by decide +kernel
theorem dX5_digest_15 : decode cX5_digest 15 = .ok (.lload_n 1, 1) := by decide +kernel
theorem dX5_digest_16 : decode cX5_digest 16 = .ok (.lmul, 1) := by decide +kernel
theorem dX5_digest_17 : decode cX5_digest 17 = .ok (.aload_n 0, 1) := by decide +kernel
theorem dX5_digest_18 : decode cX5_digest 18 = .ok (.iload_n 3, 1) := by decide +kernel
theorem dX5_digest_19 : decode cX5_digest 19 = .ok (.invokevirtual 263, 3) := by decide +kernel
theorem dX5_digest_22 : decode cX5_digest 22 = .ok (.i2l, 1) := by decide +kernel
theorem dX5_digest_23 : decode cX5_digest 23 = .ok (.ladd, 1) := by decide +kernel
theorem dX5_digest_24 : decode cX5_digest 24 = .ok (.lstore_n 1, 1) := by decide +kernel
theorem dX5_digest_25 : decode cX5_digest 25 = .ok (.iinc 3 1, 3) := by decide +kernel
theorem dX5_digest_28 : decode cX5_digest 28 = .ok (.goto (-22), 3) := by decide +kernel
theorem dX5_digest_31 : decode cX5_digest 31 = .ok (.aload_n 0, 1) := by decide +kernel
theorem dX5_digest_32 : decode cX5_digest 32 = .ok (.getfield 31, 3) := by decide +kernel
theorem dX5_digest_35 : decode cX5_digest 35 = .ok (.getfield 45, 3) := by decide +kernel
theorem dX5_digest_38 : decode cX5_digest 38 = .ok (.lload_n 1, 1) := by decide +kernel
theorem dX5_digest_39 : decode cX5_digest 39 = .ok (.invokevirtual 273, 3) := by decide +kernel
theorem dX5_digest_42 : decode cX5_digest 42 = .ok (.lstore_n 1, 1) := by decide +kernel
theorem dX5_digest_43 : decode cX5_digest 43 = .ok (.iconst 0, 1) := by decide +kernel
theorem dX5_digest_44 : decode cX5_digest 44 = .ok (.istore_n 3, 1) := by decide +kernel
theorem dX5_digest_45 : decode cX5_digest 45 = .ok (.iload_n 3, 1) := by decide +kernel
theorem dX5_digest_46 : decode cX5_digest 46 = .ok (.iconst 3, 1) := by decide +kernel
theorem dX5_digest_47 : decode cX5_digest 47 = .ok (.if_icmp .ge 26, 3) := by decide +kernel
theorem dX5_digest_50 : decode cX5_digest 50 = .ok (.ldc2_w 271, 3) := by decide +kernel
theorem dX5_digest_53 : decode cX5_digest 53 = .ok (.lload_n 1, 1) := by decide +kernel
theorem dX5_digest_54 : decode cX5_digest 54 = .ok (.lmul, 1) := by decide +kernel
theorem dX5_digest_55 : decode cX5_digest 55 = .ok (.aload_n 0, 1) := by decide +kernel
theorem dX5_digest_56 : decode cX5_digest 56 = .ok (.getfield 35, 3) := by decide +kernel
theorem dX5_digest_59 : decode cX5_digest 59 = .ok (.iload_n 3, 1) := by decide +kernel
theorem dX5_digest_60 : decode cX5_digest 60 = .ok (.aaload, 1) := by decide +kernel
theorem dX5_digest_61 : decode cX5_digest 61 = .ok (.getfield 39, 3) := by decide +kernel
theorem dX5_digest_64 : decode cX5_digest 64 = .ok (.i2l, 1) := by decide +kernel
theorem dX5_digest_65 : decode cX5_digest 65 = .ok (.ladd, 1) := by decide +kernel
theorem dX5_digest_66 : decode cX5_digest 66 = .ok (.lstore_n 1, 1) := by decide +kernel
theorem dX5_digest_67 : decode cX5_digest 67 = .ok (.iinc 3 1, 3) := by decide +kernel
theorem dX5_digest_70 : decode cX5_digest 70 = .ok (.goto (-25), 3) := by decide +kernel
theorem dX5_digest_73 : decode cX5_digest 73 = .ok (.aload_n 0, 1) := by decide +kernel
theorem dX5_digest_74 : decode cX5_digest 74 = .ok (.getfield 18, 3) := by decide +kernel
theorem dX5_digest_77 : decode cX5_digest 77 = .ok (.aload_n 0, 1) := by decide +kernel
theorem dX5_digest_78 : decode cX5_digest 78 = .ok (.getfield 14, 3) := by decide +kernel
theorem dX5_digest_81 : decode cX5_digest 81 = .ok (.lload_n 1, 1) := by decide +kernel
theorem dX5_digest_82 : decode cX5_digest 82 = .ok (.invokevirtual 277, 3) := by decide +kernel
theorem dX5_digest_85 : decode cX5_digest 85 = .ok (.invokevirtual 277, 3) := by decide +kernel
theorem dX5_digest_88 : decode cX5_digest 88 = .ok (.lreturn, 1) := by decide +kernel
theorem dX5_refuse_0 : decode cX5_refuse 0 = .ok (.aload_n 0, 1) := by decide +kernel
theorem dX5_refuse_1 : decode cX5_refuse 1 = .ok (.iload_n 1, 1) := by decide +kernel
theorem dX5_refuse_2 : decode cX5_refuse 2 = .ok (.putfield 266, 3) := by decide +kernel
theorem dX5_refuse_5 : decode cX5_refuse 5 = .ok (.aload_n 0, 1) := by decide +kernel
theorem dX5_refuse_6 : decode cX5_refuse 6 = .ok (.getfield 56, 3) := by decide +kernel
theorem dX5_refuse_9 : decode cX5_refuse 9 = .ok (.iload_n 1, 1) := by decide +kernel
theorem dX5_refuse_10 : decode cX5_refuse 10 = .ok (.dup2, 1) := by decide +kernel
theorem dX5_refuse_11 : decode cX5_refuse 11 = .ok (.iaload, 1) := by decide +kernel
theorem dX5_refuse_12 : decode cX5_refuse 12 = .ok (.iconst 1, 1) := by decide +kernel
theorem dX5_refuse_13 : decode cX5_refuse 13 = .ok (.iadd, 1) := by decide +kernel
theorem dX5_refuse_14 : decode cX5_refuse 14 = .ok (.iastore, 1) := by decide +kernel
theorem dX5_refuse_15 : decode cX5_refuse 15 = .ok (.bipush (-3), 2) := by decide +kernel
theorem dX5_refuse_17 : decode cX5_refuse 17 = .ok (.ireturn, 1) := by decide +kernel
theorem dX5_refuseMissing_0 : decode cX5_refuseMissing 0 = .ok (.aload_n 1, 1) := by decide +kernel
theorem dX5_refuseMissing_1 : decode cX5_refuseMissing 1 = .ok (.iload_n 2, 1) := by decide +kernel
theorem dX5_refuseMissing_2 : decode cX5_refuseMissing 2 = .ok (.invokevirtual 92, 3) := by decide +kernel
theorem dX5_refuseMissing_5 : decode cX5_refuseMissing 5 = .ok (.ifCond .ne 5, 3) := by decide +kernel
theorem dX5_refuseMissing_8 : decode cX5_refuseMissing 8 = .ok (.iconst (-1), 1) := by decide +kernel
theorem dX5_refuseMissing_9 : decode cX5_refuseMissing 9 = .ok (.ireturn, 1) := by decide +kernel
theorem dX5_refuseMissing_10 : decode cX5_refuseMissing 10 = .ok (.aload_n 1, 1) := by decide +kernel
theorem dX5_refuseMissing_11 : decode cX5_refuseMissing 11 = .ok (.iload_n 2, 1) := by decide +kernel
theorem dX5_refuseMissing_12 : decode cX5_refuseMissing 12 = .ok (.invokevirtual 99, 3) := by decide +kernel
theorem dX5_refuseMissing_15 : decode cX5_refuseMissing 15 = .ok (.ifCond .eq 11, 3) := by decide +kernel
theorem dX5_refuseMissing_18 : decode cX5_refuseMissing 18 = .ok (.aload_n 0, 1) := by decide +kernel
theorem dX5_refuseMissing_19 : decode cX5_refuseMissing 19 = .ok (.iconst 1, 1) := by decide +kernel
theorem dX5_refuseMissing_20 : decode cX5_refuseMissing 20 = .ok (.invokevirtual 96, 3) := by decide +kernel
theorem dX5_refuseMissing_23 : decode cX5_refuseMissing 23 = .ok (.goto 4, 3) := by decide +kernel
theorem dX5_refuseMissing_26 : decode cX5_refuseMissing 26 = .ok (.iconst 0, 1) := by decide +kernel
theorem dX5_refuseMissing_27 : decode cX5_refuseMissing 27 = .ok (.ireturn, 1) := by decide +kernel
theorem dX5_refusePlace_0 : decode cX5_refusePlace 0 = .ok (.aload_n 0, 1) := by decide +kernel
theorem dX5_refusePlace_1 : decode cX5_refusePlace 1 = .ok (.aload_n 1, 1) := by decide +kernel
theorem dX5_refusePlace_2 : decode cX5_refusePlace 2 = .ok (.iload_n 2, 1) := by decide +kernel
theorem dX5_refusePlace_3 : decode cX5_refusePlace 3 = .ok (.invokevirtual 84, 3) := by decide +kernel
theorem dX5_refusePlace_6 : decode cX5_refusePlace 6 = .ok (.istore 4, 2) := by decide +kernel
theorem dX5_refusePlace_8 : decode cX5_refusePlace 8 = .ok (.iload 4, 2) := by decide +kernel
theorem dX5_refusePlace_10 : decode cX5_refusePlace 10 = .ok (.ifCond .eq 6, 3) := by decide +kernel
theorem dX5_refusePlace_13 : decode cX5_refusePlace 13 = .ok (.iload 4, 2) := by decide +kernel
theorem dX5_refusePlace_15 : decode cX5_refusePlace 15 = .ok (.ireturn, 1) := by decide +kernel
theorem dX5_refusePlace_16 : decode cX5_refusePlace 16 = .ok (.aload_n 1, 1) := by decide +kernel
theorem dX5_refusePlace_17 : decode cX5_refusePlace 17 = .ok (.iload_n 2, 1) := by decide +kernel
theorem dX5_refusePlace_18 : decode cX5_refusePlace 18 = .ok (.iload_n 3, 1) := by decide +kernel
theorem dX5_refusePlace_19 : decode cX5_refusePlace 19 = .ok (.invokevirtual 278, 3) := by decide +kernel
theorem dX5_refusePlace_22 : decode cX5_refusePlace 22 = .ok (.ifCond .eq 7, 3) := by decide +kernel
theorem dX5_refusePlace_25 : decode cX5_refusePlace 25 = .ok (.iconst 0, 1) := by decide +kernel
theorem dX5_refusePlace_26 : decode cX5_refusePlace 26 = .ok (.goto 8, 3) := by decide +kernel
theorem dX5_refusePlace_29 : decode cX5_refusePlace 29 = .ok (.aload_n 0, 1) := by decide +kernel
theorem dX5_refusePlace_30 : decode cX5_refusePlace 30 = .ok (.iconst 2, 1) := by decide +kernel
theorem dX5_refusePlace_31 : decode cX5_refusePlace 31 = .ok (.invokevirtual 96, 3) := by decide +kernel
theorem dX5_refusePlace_34 : decode cX5_refusePlace 34 = .ok (.ireturn, 1) := by decide +kernel
theorem dX5_refuseLimps_0 : decode cX5_refuseLimps 0 = .ok (.aload_n 0, 1) := by decide +kernel
theorem dX5_refuseLimps_1 : decode cX5_refuseLimps 1 = .ok (.getfield 14, 3) := by decide +kernel
theorem dX5_refuseLimps_4 : decode cX5_refuseLimps 4 = .ok (.iload_n 1, 1) := by decide +kernel
theorem dX5_refuseLimps_5 : decode cX5_refuseLimps 5 = .ok (.invokevirtual 99, 3) := by decide +kernel
theorem dX5_refuseLimps_8 : decode cX5_refuseLimps 8 = .ok (.ifCond .eq 9, 3) := by decide +kernel
theorem dX5_refuseLimps_11 : decode cX5_refuseLimps 11 = .ok (.aload_n 0, 1) := by decide +kernel
theorem dX5_refuseLimps_12 : decode cX5_refuseLimps 12 = .ok (.iconst 1, 1) := by decide +kernel
theorem dX5_refuseLimps_13 : decode cX5_refuseLimps 13 = .ok (.invokevirtual 96, 3) := by decide +kernel
theorem dX5_refuseLimps_16 : decode cX5_refuseLimps 16 = .ok (.ireturn, 1) := by decide +kernel
theorem dX5_refuseLimps_17 : decode cX5_refuseLimps 17 = .ok (.aload_n 0, 1) := by decide +kernel
theorem dX5_refuseLimps_18 : decode cX5_refuseLimps 18 = .ok (.getfield 14, 3) := by decide +kernel
theorem dX5_refuseLimps_21 : decode cX5_refuseLimps 21 = .ok (.iload_n 1, 1) := by decide +kernel
theorem dX5_refuseLimps_22 : decode cX5_refuseLimps 22 = .ok (.invokevirtual 110, 3) := by decide +kernel
theorem dX5_refuseLimps_25 : decode cX5_refuseLimps 25 = .ok (.iconst 1, 1) := by decide +kernel
theorem dX5_refuseLimps_26 : decode cX5_refuseLimps 26 = .ok (.if_icmp .lt 16, 3) := by decide +kernel
theorem dX5_refuseLimps_29 : decode cX5_refuseLimps 29 = .ok (.aload_n 0, 1) := by decide +kernel
theorem dX5_refuseLimps_30 : decode cX5_refuseLimps 30 = .ok (.getfield 14, 3) := by decide +kernel
theorem dX5_refuseLimps_33 : decode cX5_refuseLimps 33 = .ok (.iload_n 1, 1) := by decide +kernel
theorem dX5_refuseLimps_34 : decode cX5_refuseLimps 34 = .ok (.invokevirtual 110, 3) := by decide +kernel
theorem dX5_refuseLimps_37 : decode cX5_refuseLimps 37 = .ok (.bipush 20, 2) := by decide +kernel
theorem dX5_refuseLimps_39 : decode cX5_refuseLimps 39 = .ok (.if_icmp .le 9, 3) := by decide +kernel
theorem dX5_refuseLimps_42 : decode cX5_refuseLimps 42 = .ok (.aload_n 0, 1) := by decide +kernel
theorem dX5_refuseLimps_43 : decode cX5_refuseLimps 43 = .ok (.iconst 5, 1) := by decide +kernel
theorem dX5_refuseLimps_44 : decode cX5_refuseLimps 44 = .ok (.invokevirtual 96, 3) := by decide +kernel
theorem dX5_refuseLimps_47 : decode cX5_refuseLimps 47 = .ok (.ireturn, 1) := by decide +kernel
theorem dX5_refuseLimps_48 : decode cX5_refuseLimps 48 = .ok (.aload_n 0, 1) := by decide +kernel
theorem dX5_refuseLimps_49 : decode cX5_refuseLimps 49 = .ok (.getfield 14, 3) := by decide +kernel
theorem dX5_refuseLimps_52 : decode cX5_refuseLimps 52 = .ok (.iload_n 1, 1) := by decide +kernel
theorem dX5_refuseLimps_53 : decode cX5_refuseLimps 53 = .ok (.invokevirtual 281, 3) := by decide +kernel
theorem dX5_refuseLimps_56 : decode cX5_refuseLimps 56 = .ok (.ifCond .eq 7, 3) := by decide +kernel
theorem dX5_refuseLimps_59 : decode cX5_refuseLimps 59 = .ok (.iconst 0, 1) := by decide +kernel
theorem dX5_refuseLimps_60 : decode cX5_refuseLimps 60 = .ok (.goto 8, 3) := by decide +kernel
theorem dX5_refuseLimps_63 : decode cX5_refuseLimps 63 = .ok (.aload_n 0, 1) := by decide +kernel
theorem dX5_refuseLimps_64 : decode cX5_refuseLimps 64 = .ok (.iconst 3, 1) := by decide +kernel
theorem dX5_refuseLimps_65 : decode cX5_refuseLimps 65 = .ok (.invokevirtual 96, 3) := by decide +kernel
theorem dX5_refuseLimps_68 : decode cX5_refuseLimps 68 = .ok (.ireturn, 1) := by decide +kernel
theorem dX5_refuseGuess_0 : decode cX5_refuseGuess 0 = .ok (.aload_n 0, 1) := by decide +kernel
theorem dX5_refuseGuess_1 : decode cX5_refuseGuess 1 = .ok (.getfield 31, 3) := by decide +kernel
theorem dX5_refuseGuess_4 : decode cX5_refuseGuess 4 = .ok (.getfield 45, 3) := by decide +kernel
theorem dX5_refuseGuess_7 : decode cX5_refuseGuess 7 = .ok (.iload_n 1, 1) := by decide +kernel
theorem dX5_refuseGuess_8 : decode cX5_refuseGuess 8 = .ok (.invokevirtual 136, 3) := by decide +kernel
theorem dX5_refuseGuess_11 : decode cX5_refuseGuess 11 = .ok (.ifCond .eq 22, 3) := by decide +kernel
theorem dX5_refuseGuess_14 : decode cX5_refuseGuess 14 = .ok (.aload_n 0, 1) := by decide +kernel
theorem dX5_refuseGuess_15 : decode cX5_refuseGuess 15 = .ok (.getfield 14, 3) := by decide +kernel
theorem dX5_refuseGuess_18 : decode cX5_refuseGuess 18 = .ok (.iload_n 2, 1) := by decide +kernel
theorem dX5_refuseGuess_19 : decode cX5_refuseGuess 19 = .ok (.invokevirtual 92, 3) := by decide +kernel
theorem dX5_refuseGuess_22 : decode cX5_refuseGuess 22 = .ok (.ifCond .eq 11, 3) := by decide +kernel
theorem dX5_refuseGuess_25 : decode cX5_refuseGuess 25 = .ok (.aload_n 0, 1) := by decide +kernel
theorem dX5_refuseGuess_26 : decode cX5_refuseGuess 26 = .ok (.iload_n 2, 1) := by decide +kernel
theorem dX5_refuseGuess_27 : decode cX5_refuseGuess 27 = .ok (.invokevirtual 209, 3) := by decide +kernel
theorem dX5_refuseGuess_30 : decode cX5_refuseGuess 30 = .ok (.goto 4, 3) := by decide +kernel
theorem dX5_refuseGuess_33 : decode cX5_refuseGuess 33 = .ok (.iconst (-1), 1) := by decide +kernel
theorem dX5_refuseGuess_34 : decode cX5_refuseGuess 34 = .ok (.ireturn, 1) := by decide +kernel
theorem dX5_makeAnew_0 : decode cX5_makeAnew 0 = .ok (.aload_n 1, 1) := by decide +kernel
theorem dX5_makeAnew_1 : decode cX5_makeAnew 1 = .ok (.iload_n 2, 1) := by decide +kernel
theorem dX5_makeAnew_2 : decode cX5_makeAnew 2 = .ok (.invokevirtual 92, 3) := by decide +kernel
theorem dX5_makeAnew_5 : decode cX5_makeAnew 5 = .ok (.ifCond .eq 11, 3) := by decide +kernel
theorem dX5_makeAnew_8 : decode cX5_makeAnew 8 = .ok (.iload_n 3, 1) := by decide +kernel
theorem dX5_makeAnew_9 : decode cX5_makeAnew 9 = .ok (.aload_n 1, 1) := by decide +kernel
theorem dX5_makeAnew_10 : decode cX5_makeAnew 10 = .ok (.getfield 284, 3) := by decide +kernel
theorem dX5_makeAnew_13 : decode cX5_makeAnew 13 = .ok (.if_icmp .le 5, 3) := by decide +kernel
theorem dX5_makeAnew_16 : decode cX5_makeAnew 16 = .ok (.iconst (-1), 1) := by decide +kernel
theorem dX5_makeAnew_17 : decode cX5_makeAnew 17 = .ok (.ireturn, 1) := by decide +kernel
theorem dX5_makeAnew_18 : decode cX5_makeAnew 18 = .ok (.iload_n 3, 1) := by decide +kernel
theorem dX5_makeAnew_19 : decode cX5_makeAnew 19 = .ok (.ifCond .ge 9, 3) := by decide +kernel
theorem dX5_makeAnew_22 : decode cX5_makeAnew 22 = .ok (.aload_n 0, 1) := by decide +kernel
theorem dX5_makeAnew_23 : decode cX5_makeAnew 23 = .ok (.iconst 5, 1) := by decide +kernel
theorem dX5_makeAnew_24 : decode cX5_makeAnew 24 = .ok (.invokevirtual 96, 3) := by decide +kernel
theorem dX5_makeAnew_27 : decode cX5_makeAnew 27 = .ok (.ireturn, 1) := by decide +kernel
theorem dX5_makeAnew_28 : decode cX5_makeAnew 28 = .ok (.aload_n 1, 1) := by decide +kernel
theorem dX5_makeAnew_29 : decode cX5_makeAnew 29 = .ok (.iload_n 2, 1) := by decide +kernel
theorem dX5_makeAnew_30 : decode cX5_makeAnew 30 = .ok (.iload_n 3, 1) := by decide +kernel
theorem dX5_makeAnew_31 : decode cX5_makeAnew 31 = .ok (.iload 4, 2) := by decide +kernel
theorem dX5_makeAnew_33 : decode cX5_makeAnew 33 = .ok (.invokevirtual 193, 3) := by decide +kernel
theorem dX5_makeAnew_36 : decode cX5_makeAnew 36 = .ok (.iload_n 3, 1) := by decide +kernel
theorem dX5_makeAnew_37 : decode cX5_makeAnew 37 = .ok (.ireturn, 1) := by decide +kernel
theorem dX5_tell_0 : decode cX5_tell 0 = .ok (.aload_n 0, 1) := by decide +kernel
theorem dX5_tell_1 : decode cX5_tell 1 = .ok (.iload_n 1, 1) := by decide +kernel
theorem dX5_tell_2 : decode cX5_tell 2 = .ok (.putfield 257, 3) := by decide +kernel
theorem dX5_tell_5 : decode cX5_tell 5 = .ok (.iconst 1, 1) := by decide +kernel
theorem dX5_tell_6 : decode cX5_tell 6 = .ok (.ireturn, 1) := by decide +kernel
theorem dX5_tellBeside_0 : decode cX5_tellBeside 0 = .ok (.iload_n 1, 1) := by decide +kernel
theorem dX5_tellBeside_1 : decode cX5_tellBeside 1 = .ok (.bipush (-9), 2) := by decide +kernel
theorem dX5_tellBeside_3 : decode cX5_tellBeside 3 = .ok (.if_icmp .eq 14, 3) := by decide +kernel
theorem dX5_tellBeside_6 : decode cX5_tellBeside 6 = .ok (.aload_n 0, 1) := by decide +kernel
theorem dX5_tellBeside_7 : decode cX5_tellBeside 7 = .ok (.aload_n 0, 1) := by decide +kernel
theorem dX5_tellBeside_8 : decode cX5_tellBeside 8 = .ok (.getfield 52, 3) := by decide +kernel
theorem dX5_tellBeside_11 : decode cX5_tellBeside 11 = .ok (.getfield 287, 3) := by decide +kernel
theorem dX5_tellBeside_14 : decode cX5_tellBeside 14 = .ok (.putfield 257, 3) := by decide +kernel
theorem dX5_tellBeside_17 : decode cX5_tellBeside 17 = .ok (.iload_n 1, 1) := by decide +kernel
theorem dX5_tellBeside_18 : decode cX5_tellBeside 18 = .ok (.ireturn, 1) := by decide +kernel
theorem dX5_tellShare_0 : decode cX5_tellShare 0 = .ok (.ldc2_w 290, 3) := by decide +kernel
theorem dX5_tellShare_3 : decode cX5_tellShare 3 = .ok (.aload_n 0, 1) := by decide +kernel
theorem dX5_tellShare_4 : decode cX5_tellShare 4 = .ok (.getfield 31, 3) := by decide +kernel
theorem dX5_tellShare_7 : decode cX5_tellShare 7 = .ok (.getfield 45, 3) := by decide +kernel
theorem dX5_tellShare_10 : decode cX5_tellShare 10 = .ok (.getfield 228, 3) := by decide +kernel
theorem dX5_tellShare_13 : decode cX5_tellShare 13 = .ok (.invokestatic 292, 3) := by decide +kernel
theorem dX5_tellShare_16 : decode cX5_tellShare 16 = .ok (.invokestatic 297, 3) := by decide +kernel
theorem dX5_tellShare_19 : decode cX5_tellShare 19 = .ok (.lstore_n 3, 1) := by decide +kernel
theorem dX5_tellShare_20 : decode cX5_tellShare 20 = .ok (.lload_n 1, 1) := by decide +kernel
theorem dX5_tellShare_21 : decode cX5_tellShare 21 = .ok (.lload_n 3, 1) := by decide +kernel
theorem dX5_tellShare_22 : decode cX5_tellShare 22 = .ok (.invokestatic 301, 3) := by decide +kernel
theorem dX5_tellShare_25 : decode cX5_tellShare 25 = .ok (.lstore 5, 2) := by decide +kernel
theorem dX5_tellShare_27 : decode cX5_tellShare 27 = .ok (.lload 5, 2) := by decide +kernel
theorem dX5_tellShare_29 : decode cX5_tellShare 29 = .ok (.lconst 0, 1) := by decide +kernel
theorem dX5_tellShare_30 : decode cX5_tellShare 30 = .ok (.lcmp, 1) := by decide +kernel
theorem dX5_tellShare_31 : decode cX5_tellShare 31 = .ok (.ifCond .le 19, 3) := by decide +kernel
theorem dX5_tellShare_34 : decode cX5_tellShare 34 = .ok (.aload_n 0, 1) := by decide +kernel
theorem dX5_tellShare_35 : decode cX5_tellShare 35 = .ok (.lload_n 1, 1) := by decide +kernel
theorem dX5_tellShare_36 : decode cX5_tellShare 36 = .ok (.lload 5, 2) := by decide +kernel
theorem dX5_tellShare_38 : decode cX5_tellShare 38 = .ok (.ldiv, 1) := by decide +kernel
theorem dX5_tellShare_39 : decode cX5_tellShare 39 = .ok (.putfield 260, 3) := by decide +kernel
theorem dX5_tellShare_42 : decode cX5_tellShare 42 = .ok (.aload_n 0, 1) := by decide +kernel
theorem dX5_tellShare_43 : decode cX5_tellShare 43 = .ok (.lload_n 3, 1) := by decide +kernel
theorem dX5_tellShare_44 : decode cX5_tellShare 44 = .ok (.lload 5, 2) := by decide +kernel
theorem dX5_tellShare_46 : decode cX5_tellShare 46 = .ok (.ldiv, 1) := by decide +kernel
theorem dX5_tellShare_47 : decode cX5_tellShare 47 = .ok (.putfield 60, 3) := by decide +kernel
theorem dX5_tellShare_50 : decode cX5_tellShare 50 = .ok (.iconst 1, 1) := by decide +kernel
theorem dX5_tellShare_51 : decode cX5_tellShare 51 = .ok (.ireturn, 1) := by decide +kernel
theorem dX5_doDeed_0 : decode cX5_doDeed 0 = .ok (.aload_n 0, 1) := by decide +kernel
theorem dX5_doDeed_1 : decode cX5_doDeed 1 = .ok (.getfield 31, 3) := by decide +kernel
theorem dX5_doDeed_4 : decode cX5_doDeed 4 = .ok (.getfield 39, 3) := by decide +kernel
theorem dX5_doDeed_7 : decode cX5_doDeed 7 = .ok (.bipush 40, 2) := by decide +kernel
theorem dX5_doDeed_9 : decode cX5_doDeed 9 = .ok (.if_icmp .lt 8, 3) := by decide +kernel
theorem dX5_doDeed_12 : decode cX5_doDeed 12 = .ok (.bipush (-2), 2) := by decide +kernel
theorem dX5_doDeed_14 : decode cX5_doDeed 14 = .ok (.goto 12, 3) := by decide +kernel
theorem dX5_doDeed_17 : decode cX5_doDeed 17 = .ok (.aload_n 0, 1) := by decide +kernel
theorem dX5_doDeed_18 : decode cX5_doDeed 18 = .ok (.getfield 31, 3) := by decide +kernel
theorem dX5_doDeed_21 : decode cX5_doDeed 21 = .ok (.iload_n 1, 1) := by decide +kernel
theorem dX5_doDeed_22 : decode cX5_doDeed 22 = .ok (.iload_n 2, 1) := by decide +kernel
theorem dX5_doDeed_23 : decode cX5_doDeed 23 = .ok (.invokevirtual 305, 3) := by decide +kernel
theorem dX5_doDeed_26 : decode cX5_doDeed 26 = .ok (.ireturn, 1) := by decide +kernel
theorem dX5_doLot_0 : decode cX5_doLot 0 = .ok (.lload_n 1, 1) := by decide +kernel
theorem dX5_doLot_1 : decode cX5_doLot 1 = .ok (.ldc2_w 308, 3) := by decide +kernel
theorem dX5_doLot_4 : decode cX5_doLot 4 = .ok (.lrem, 1) := by decide +kernel
theorem dX5_doLot_5 : decode cX5_doLot 5 = .ok (.l2i, 1) := by decide +kernel
theorem dX5_doLot_6 : decode cX5_doLot 6 = .ok (.istore_n 3, 1) := by decide +kernel
theorem dX5_doLot_7 : decode cX5_doLot 7 = .ok (.iload_n 3, 1) := by decide +kernel
theorem dX5_doLot_8 : decode cX5_doLot 8 = .ok (.ifCond .ne 16, 3) := by decide +kernel
theorem dX5_doLot_11 : decode cX5_doLot 11 = .ok (.aload_n 0, 1) := by decide +kernel
theorem dX5_doLot_12 : decode cX5_doLot 12 = .ok (.getfield 31, 3) := by decide +kernel
theorem dX5_doLot_15 : decode cX5_doLot 15 = .ok (.iconst 2, 1) := by decide +kernel
theorem dX5_doLot_16 : decode cX5_doLot 16 = .ok (.iconst 0, 1) := by decide +kernel
theorem dX5_doLot_17 : decode cX5_doLot 17 = .ok (.invokevirtual 305, 3) := by decide +kernel
theorem dX5_doLot_20 : decode cX5_doLot 20 = .ok (.pop, 1) := by decide +kernel
theorem dX5_doLot_21 : decode cX5_doLot 21 = .ok (.goto 73, 3) := by decide +kernel
theorem dX5_doLot_24 : decode cX5_doLot 24 = .ok (.iload_n 3, 1) := by decide +kernel
theorem dX5_doLot_25 : decode cX5_doLot 25 = .ok (.iconst 1, 1) := by decide +kernel
theorem dX5_doLot_26 : decode cX5_doLot 26 = .ok (.if_icmp .ne 41, 3) := by decide +kernel
theorem dX5_doLot_29 : decode cX5_doLot 29 = .ok (.iconst 1, 1) := by decide +kernel
theorem dX5_doLot_30 : decode cX5_doLot 30 = .ok (.aload_n 0, 1) := by decide +kernel
theorem dX5_doLot_31 : decode cX5_doLot 31 = .ok (.getfield 31, 3) := by decide +kernel
theorem dX5_doLot_34 : decode cX5_doLot 34 = .ok (.getfield 45, 3) := by decide +kernel
theorem dX5_doLot_37 : decode cX5_doLot 37 = .ok (.getfield 131, 3) := by decide +kernel
theorem dX5_doLot_40 : decode cX5_doLot 40 = .ok (.invokestatic 310, 3) := by decide +kernel
theorem dX5_doLot_43 : decode cX5_doLot 43 = .ok (.istore 4, 2) := by decide +kernel
theorem dX5_doLot_45 : decode cX5_doLot 45 = .ok (.aload_n 0, 1) := by decide +kernel
theorem dX5_doLot_46 : decode cX5_doLot 46 = .ok (.getfield 31, 3) := by decide +kernel
theorem dX5_doLot_49 : decode cX5_doLot 49 = .ok (.iconst 4, 1) := by decide +kernel
theorem dX5_doLot_50 : decode cX5_doLot 50 = .ok (.lload_n 1, 1) := by decide +kernel
theorem dX5_doLot_51 : decode cX5_doLot 51 = .ok (.ldc2_w 315, 3) := by decide +kernel
theorem dX5_doLot_54 : decode cX5_doLot 54 = .ok (.ldiv, 1) := by decide +kernel
theorem dX5_doLot_55 : decode cX5_doLot 55 = .ok (.iload 4, 2) := by decide +kernel
theorem dX5_doLot_57 : decode cX5_doLot 57 = .ok (.i2l, 1) := by decide +kernel
theorem dX5_doLot_58 : decode cX5_doLot 58 = .ok (.lrem, 1) := by decide +kernel
theorem dX5_doLot_59 : decode cX5_doLot 59 = .ok (.l2i, 1) := by decide +kernel
theorem dX5_doLot_60 : decode cX5_doLot 60 = .ok (.invokevirtual 305, 3) := by decide +kernel
theorem dX5_doLot_63 : decode cX5_doLot 63 = .ok (.pop, 1) := by decide +kernel
theorem dX5_doLot_64 : decode cX5_doLot 64 = .ok (.goto 30, 3) := by decide +kernel
theorem dX5_doLot_67 : decode cX5_doLot 67 = .ok (.aload_n 0, 1) := by decide +kernel
theorem dX5_doLot_68 : decode cX5_doLot 68 = .ok (.getfield 31, 3) := by decide +kernel
theorem dX5_doLot_71 : decode cX5_doLot 71 = .ok (.aload_n 0, 1) := by decide +kernel
theorem dX5_doLot_72 : decode cX5_doLot 72 = .ok (.getfield 31, 3) := by decide +kernel
theorem dX5_doLot_75 : decode cX5_doLot 75 = .ok (.getfield 45, 3) := by decide +kernel
theorem dX5_doLot_78 : decode cX5_doLot 78 = .ok (.invokevirtual 167, 3) := by decide +kernel
theorem dX5_doLot_81 : decode cX5_doLot 81 = .ok (.ifCond .eq 7, 3) := by decide +kernel
theorem dX5_doLot_84 : decode cX5_doLot 84 = .ok (.iconst 1, 1) := by decide +kernel
theorem dX5_doLot_85 : decode cX5_doLot 85 = .ok (.goto 4, 3) := by decide +kernel
theorem dX5_doLot_88 : decode cX5_doLot 88 = .ok (.iconst 0, 1) := by decide +kernel
theorem dX5_doLot_89 : decode cX5_doLot 89 = .ok (.iconst 0, 1) := by decide +kernel
theorem dX5_doLot_90 : decode cX5_doLot 90 = .ok (.invokevirtual 305, 3) := by decide +kernel
theorem dX5_doLot_93 : decode cX5_doLot 93 = .ok (.pop, 1) := by decide +kernel
theorem dX5_doLot_94 : decode cX5_doLot 94 = .ok (.return_, 1) := by decide +kernel
theorem dX5_counted_0 : decode cX5_counted 0 = .ok (.aload_n 0, 1) := by decide +kernel
theorem dX5_counted_1 : decode cX5_counted 1 = .ok (.getfield 31, 3) := by decide +kernel
theorem dX5_counted_4 : decode cX5_counted 4 = .ok (.getfield 45, 3) := by decide +kernel
theorem dX5_counted_7 : decode cX5_counted 7 = .ok (.astore_n 2, 1) := by decide +kernel
theorem dX5_counted_8 : decode cX5_counted 8 = .ok (.iload_n 1, 1) := by decide +kernel
theorem dX5_counted_9 : decode cX5_counted 9 = .ok (.tableswitch 148 0 11 #[63, 68, 73, 81, 86, 91, 104, 117, 122, 130, 138, 143], 63) := by decide +kernel
theorem dX5_counted_72 : decode cX5_counted 72 = .ok (.aload_n 2, 1) := by decide +kernel
theorem dX5_counted_73 : decode cX5_counted 73 = .ok (.getfield 131, 3) := by decide +kernel
theorem dX5_counted_76 : decode cX5_counted 76 = .ok (.ireturn, 1) := by decide +kernel
theorem dX5_counted_77 : decode cX5_counted 77 = .ok (.aload_n 2, 1) := by decide +kernel
theorem dX5_counted_78 : decode cX5_counted 78 = .ok (.getfield 254, 3) := by decide +kernel
theorem dX5_counted_81 : decode cX5_counted 81 = .ok (.ireturn, 1) := by decide +kernel
theorem dX5_counted_82 : decode cX5_counted 82 = .ok (.aload_n 0, 1) := by decide +kernel
theorem dX5_counted_83 : decode cX5_counted 83 = .ok (.getfield 31, 3) := by decide +kernel
theorem dX5_counted_86 : decode cX5_counted 86 = .ok (.getfield 39, 3) := by decide +kernel
theorem dX5_counted_89 : decode cX5_counted 89 = .ok (.ireturn, 1) := by decide +kernel
theorem dX5_counted_90 : decode cX5_counted 90 = .ok (.aload_n 2, 1) := by decide +kernel
theorem dX5_counted_91 : decode cX5_counted 91 = .ok (.getfield 317, 3) := by decide +kernel
theorem dX5_counted_94 : decode cX5_counted 94 = .ok (.ireturn, 1) := by decide +kernel
theorem dX5_counted_95 : decode cX5_counted 95 = .ok (.aload_n 2, 1) := by decide +kernel
theorem dX5_counted_96 : decode cX5_counted 96 = .ok (.getfield 228, 3) := by decide +kernel
theorem dX5_counted_99 : decode cX5_counted 99 = .ok (.ireturn, 1) := by decide +kernel
theorem dX5_counted_100 : decode cX5_counted 100 = .ok (.aload_n 2, 1) := by decide +kernel
theorem dX5_counted_101 : decode cX5_counted 101 = .ok (.getfield 155, 3) := by decide +kernel
theorem dX5_counted_104 : decode cX5_counted 104 = .ok (.ifCond .eq 7, 3) := by decide +kernel
theorem dX5_counted_107 : decode cX5_counted 107 = .ok (.iconst 1, 1) := by decide +kernel
theorem dX5_counted_108 : decode cX5_counted 108 = .ok (.goto 4, 3) := by decide +kernel
theorem dX5_counted_111 : decode cX5_counted 111 = .ok (.iconst 0, 1) := by decide +kernel
theorem dX5_counted_112 : decode cX5_counted 112 = .ok (.ireturn, 1) := by decide +kernel
theorem dX5_counted_113 : decode cX5_counted 113 = .ok (.aload_n 2, 1) := by decide +kernel
theorem dX5_counted_114 : decode cX5_counted 114 = .ok (.invokevirtual 167, 3) := by decide +kernel
theorem dX5_counted_117 : decode cX5_counted 117 = .ok (.ifCond .eq 7, 3) := by decide +kernel
theorem dX5_counted_120 : decode cX5_counted 120 = .ok (.iconst 1, 1) := by decide +kernel
theorem dX5_counted_121 : decode cX5_counted 121 = .ok (.goto 4, 3) := by decide +kernel
theorem dX5_counted_124 : decode cX5_counted 124 = .ok (.iconst 0, 1) := by decide +kernel
theorem dX5_counted_125 : decode cX5_counted 125 = .ok (.ireturn, 1) := by decide +kernel
theorem dX5_counted_126 : decode cX5_counted 126 = .ok (.aload_n 2, 1) := by decide +kernel
theorem dX5_counted_127 : decode cX5_counted 127 = .ok (.getfield 320, 3) := by decide +kernel
theorem dX5_counted_130 : decode cX5_counted 130 = .ok (.ireturn, 1) := by decide +kernel
theorem dX5_counted_131 : decode cX5_counted 131 = .ok (.aload_n 0, 1) := by decide +kernel
theorem dX5_counted_132 : decode cX5_counted 132 = .ok (.getfield 14, 3) := by decide +kernel
theorem dX5_counted_135 : decode cX5_counted 135 = .ok (.invokevirtual 323, 3) := by decide +kernel
theorem dX5_counted_138 : decode cX5_counted 138 = .ok (.ireturn, 1) := by decide +kernel
theorem dX5_counted_139 : decode cX5_counted 139 = .ok (.aload_n 0, 1) := by decide +kernel
theorem dX5_counted_140 : decode cX5_counted 140 = .ok (.getfield 18, 3) := by decide +kernel
theorem dX5_counted_143 : decode cX5_counted 143 = .ok (.invokevirtual 323, 3) := by decide +kernel
theorem dX5_counted_146 : decode cX5_counted 146 = .ok (.ireturn, 1) := by decide +kernel
theorem dX5_counted_147 : decode cX5_counted 147 = .ok (.aload_n 0, 1) := by decide +kernel
theorem dX5_counted_148 : decode cX5_counted 148 = .ok (.invokevirtual 326, 3) := by decide +kernel
theorem dX5_counted_151 : decode cX5_counted 151 = .ok (.ireturn, 1) := by decide +kernel
theorem dX5_counted_152 : decode cX5_counted 152 = .ok (.aload_n 2, 1) := by decide +kernel
theorem dX5_counted_153 : decode cX5_counted 153 = .ok (.invokevirtual 329, 3) := by decide +kernel
theorem dX5_counted_156 : decode cX5_counted 156 = .ok (.ireturn, 1) := by decide +kernel
theorem dX5_counted_157 : decode cX5_counted 157 = .ok (.aload_n 2, 1) := by decide +kernel
theorem dX5_counted_158 : decode cX5_counted 158 = .ok (.invokevirtual 332, 3) := by decide +kernel
theorem dX5_counted_161 : decode cX5_counted 161 = .ok (.ireturn, 1) := by decide +kernel
theorem dX5_keptOnes_0 : decode cX5_keptOnes 0 = .ok (.iconst 0, 1) := by decide +kernel
theorem dX5_keptOnes_1 : decode cX5_keptOnes 1 = .ok (.istore_n 1, 1) := by decide +kernel
theorem dX5_keptOnes_2 : decode cX5_keptOnes 2 = .ok (.iconst 0, 1) := by decide +kernel
theorem dX5_keptOnes_3 : decode cX5_keptOnes 3 = .ok (.istore_n 2, 1) := by decide +kernel
theorem dX5_keptOnes_4 : decode cX5_keptOnes 4 = .ok (.iload_n 2, 1) := by decide +kernel
theorem dX5_keptOnes_5 : decode cX5_keptOnes 5 = .ok (.iconst 3, 1) := by decide +kernel
theorem dX5_keptOnes_6 : decode cX5_keptOnes 6 = .ok (.if_icmp .ge 25, 3) := by decide +kernel
theorem dX5_keptOnes_9 : decode cX5_keptOnes 9 = .ok (.aload_n 0, 1) := by decide +kernel
theorem dX5_keptOnes_10 : decode cX5_keptOnes 10 = .ok (.getfield 35, 3) := by decide +kernel
theorem dX5_keptOnes_13 : decode cX5_keptOnes 13 = .ok (.iload_n 2, 1) := by decide +kernel
theorem dX5_keptOnes_14 : decode cX5_keptOnes 14 = .ok (.aaload, 1) := by decide +kernel
theorem dX5_keptOnes_15 : decode cX5_keptOnes 15 = .ok (.getfield 39, 3) := by decide +kernel
theorem dX5_keptOnes_18 : decode cX5_keptOnes 18 = .ok (.iconst (-1), 1) := by decide +kernel
theorem dX5_keptOnes_19 : decode cX5_keptOnes 19 = .ok (.if_icmp .eq 6, 3) := by decide +kernel
theorem dX5_keptOnes_22 : decode cX5_keptOnes 22 = .ok (.iinc 1 1, 3) := by decide +kernel
theorem dX5_keptOnes_25 : decode cX5_keptOnes 25 = .ok (.iinc 2 1, 3) := by decide +kernel
theorem dX5_keptOnes_28 : decode cX5_keptOnes 28 = .ok (.goto (-24), 3) := by decide +kernel
theorem dX5_keptOnes_31 : decode cX5_keptOnes 31 = .ok (.iload_n 1, 1) := by decide +kernel
theorem dX5_keptOnes_32 : decode cX5_keptOnes 32 = .ok (.ireturn, 1) := by decide +kernel
theorem dX5_isOfKind_0 : decode cX5_isOfKind 0 = .ok (.iload_n 0, 1) := by decide +kernel
theorem dX5_isOfKind_1 : decode cX5_isOfKind 1 = .ok (.iload_n 1, 1) := by decide +kernel
theorem dX5_isOfKind_2 : decode cX5_isOfKind 2 = .ok (.if_icmp .eq 12, 3) := by decide +kernel
theorem dX5_isOfKind_5 : decode cX5_isOfKind 5 = .ok (.getstatic 335, 3) := by decide +kernel
theorem dX5_isOfKind_8 : decode cX5_isOfKind 8 = .ok (.iload_n 0, 1) := by decide +kernel
theorem dX5_isOfKind_9 : decode cX5_isOfKind 9 = .ok (.iaload, 1) := by decide +kernel
theorem dX5_isOfKind_10 : decode cX5_isOfKind 10 = .ok (.iload_n 1, 1) := by decide +kernel
theorem dX5_isOfKind_11 : decode cX5_isOfKind 11 = .ok (.if_icmp .ne 7, 3) := by decide +kernel
theorem dX5_isOfKind_14 : decode cX5_isOfKind 14 = .ok (.iconst 1, 1) := by decide +kernel
theorem dX5_isOfKind_15 : decode cX5_isOfKind 15 = .ok (.goto 4, 3) := by decide +kernel
theorem dX5_isOfKind_18 : decode cX5_isOfKind 18 = .ok (.iconst 0, 1) := by decide +kernel
theorem dX5_isOfKind_19 : decode cX5_isOfKind 19 = .ok (.ireturn, 1) := by decide +kernel
theorem dX5_bearing_0 : decode cX5_bearing 0 = .ok (.iconst 0, 1) := by decide +kernel
theorem dX5_bearing_1 : decode cX5_bearing 1 = .ok (.iconst 2, 1) := by decide +kernel
theorem dX5_bearing_2 : decode cX5_bearing 2 = .ok (.iload_n 1, 1) := by decide +kernel
theorem dX5_bearing_3 : decode cX5_bearing 3 = .ok (.imul, 1) := by decide +kernel
theorem dX5_bearing_4 : decode cX5_bearing 4 = .ok (.iload_n 0, 1) := by decide +kernel
theorem dX5_bearing_5 : decode cX5_bearing 5 = .ok (.iload_n 2, 1) := by decide +kernel
theorem dX5_bearing_6 : decode cX5_bearing 6 = .ok (.iload 4, 2) := by decide +kernel
theorem dX5_bearing_8 : decode cX5_bearing 8 = .ok (.invokestatic 338, 3) := by decide +kernel
theorem dX5_bearing_11 : decode cX5_bearing 11 = .ok (.isub, 1) := by decide +kernel
theorem dX5_bearing_12 : decode cX5_bearing 12 = .ok (.invokestatic 310, 3) := by decide +kernel
theorem dX5_bearing_15 : decode cX5_bearing 15 = .ok (.istore 5, 2) := by decide +kernel
theorem dX5_bearing_17 : decode cX5_bearing 17 = .ok (.iload_n 0, 1) := by decide +kernel
theorem dX5_bearing_18 : decode cX5_bearing 18 = .ok (.tableswitch 46 1 3 #[26, 31, 31], 26) := by decide +kernel
theorem dX5_bearing_44 : decode cX5_bearing 44 = .ok (.iload 5, 2) := by decide +kernel
theorem dX5_bearing_46 : decode cX5_bearing 46 = .ok (.iconst 2, 1) := by decide +kernel
theorem dX5_bearing_47 : decode cX5_bearing 47 = .ok (.idiv, 1) := by decide +kernel
theorem dX5_bearing_48 : decode cX5_bearing 48 = .ok (.ireturn, 1) := by decide +kernel
theorem dX5_bearing_49 : decode cX5_bearing 49 = .ok (.iload_n 3, 1) := by decide +kernel
theorem dX5_bearing_50 : decode cX5_bearing 50 = .ok (.iconst 5, 1) := by decide +kernel
theorem dX5_bearing_51 : decode cX5_bearing 51 = .ok (.if_icmp .lt 10, 3) := by decide +kernel
theorem dX5_bearing_54 : decode cX5_bearing 54 = .ok (.iload 5, 2) := by decide +kernel
theorem dX5_bearing_56 : decode cX5_bearing 56 = .ok (.iconst 3, 1) := by decide +kernel
theorem dX5_bearing_57 : decode cX5_bearing 57 = .ok (.iadd, 1) := by decide +kernel
theorem dX5_bearing_58 : decode cX5_bearing 58 = .ok (.goto 5, 3) := by decide +kernel
theorem dX5_bearing_61 : decode cX5_bearing 61 = .ok (.iload 5, 2) := by decide +kernel
theorem dX5_bearing_63 : decode cX5_bearing 63 = .ok (.ireturn, 1) := by decide +kernel
theorem dX5_bearing_64 : decode cX5_bearing 64 = .ok (.iload 5, 2) := by decide +kernel
theorem dX5_bearing_66 : decode cX5_bearing 66 = .ok (.ireturn, 1) := by decide +kernel
theorem dX5_feltWear_0 : decode cX5_feltWear 0 = .ok (.iload_n 0, 1) := by decide +kernel
theorem dX5_feltWear_1 : decode cX5_feltWear 1 = .ok (.tableswitch 43 3 5 #[27, 31, 33], 27) := by decide +kernel
theorem dX5_feltWear_28 : decode cX5_feltWear 28 = .ok (.iload_n 1, 1) := by decide +kernel
theorem dX5_feltWear_29 : decode cX5_feltWear 29 = .ok (.iconst 2, 1) := by decide +kernel
theorem dX5_feltWear_30 : decode cX5_feltWear 30 = .ok (.idiv, 1) := by decide +kernel
theorem dX5_feltWear_31 : decode cX5_feltWear 31 = .ok (.ireturn, 1) := by decide +kernel
theorem dX5_feltWear_32 : decode cX5_feltWear 32 = .ok (.iconst 0, 1) := by decide +kernel
theorem dX5_feltWear_33 : decode cX5_feltWear 33 = .ok (.ireturn, 1) := by decide +kernel
theorem dX5_feltWear_34 : decode cX5_feltWear 34 = .ok (.iload_n 2, 1) := by decide +kernel
theorem dX5_feltWear_35 : decode cX5_feltWear 35 = .ok (.ifCond .eq 7, 3) := by decide +kernel
theorem dX5_feltWear_38 : decode cX5_feltWear 38 = .ok (.iload_n 1, 1) := by decide +kernel
theorem dX5_feltWear_39 : decode cX5_feltWear 39 = .ok (.goto 4, 3) := by decide +kernel
theorem dX5_feltWear_42 : decode cX5_feltWear 42 = .ok (.iconst 0, 1) := by decide +kernel
theorem dX5_feltWear_43 : decode cX5_feltWear 43 = .ok (.ireturn, 1) := by decide +kernel
theorem dX5_feltWear_44 : decode cX5_feltWear 44 = .ok (.iload_n 1, 1) := by decide +kernel
theorem dX5_feltWear_45 : decode cX5_feltWear 45 = .ok (.ireturn, 1) := by decide +kernel
theorem dX5_power_0 : decode cX5_power 0 = .ok (.lconst 1, 1) := by decide +kernel
theorem dX5_power_1 : decode cX5_power 1 = .ok (.lstore_n 3, 1) := by decide +kernel
theorem dX5_power_2 : decode cX5_power 2 = .ok (.iconst 0, 1) := by decide +kernel
theorem dX5_power_3 : decode cX5_power 3 = .ok (.istore 5, 2) := by decide +kernel
theorem dX5_power_5 : decode cX5_power 5 = .ok (.iload 5, 2) := by decide +kernel
theorem dX5_power_7 : decode cX5_power 7 = .ok (.iload_n 2, 1) := by decide +kernel
theorem dX5_power_8 : decode cX5_power 8 = .ok (.if_icmp .ge 13, 3) := by decide +kernel
theorem dX5_power_11 : decode cX5_power 11 = .ok (.lload_n 3, 1) := by decide +kernel
theorem dX5_power_12 : decode cX5_power 12 = .ok (.lload_n 0, 1) := by decide +kernel
theorem dX5_power_13 : decode cX5_power 13 = .ok (.lmul, 1) := by decide +kernel
theorem dX5_power_14 : decode cX5_power 14 = .ok (.lstore_n 3, 1) := by decide +kernel
theorem dX5_power_15 : decode cX5_power 15 = .ok (.iinc 5 1, 3) := by decide +kernel
theorem dX5_power_18 : decode cX5_power 18 = .ok (.goto (-13), 3) := by decide +kernel
theorem dX5_power_21 : decode cX5_power 21 = .ok (.lload_n 3, 1) := by decide +kernel
theorem dX5_power_22 : decode cX5_power 22 = .ok (.lreturn, 1) := by decide +kernel
theorem dX5_commonDivisor_0 : decode cX5_commonDivisor 0 = .ok (.lload_n 0, 1) := by decide +kernel
theorem dX5_commonDivisor_1 : decode cX5_commonDivisor 1 = .ok (.lstore 4, 2) := by decide +kernel
theorem dX5_commonDivisor_3 : decode cX5_commonDivisor 3 = .ok (.lload_n 2, 1) := by decide +kernel
theorem dX5_commonDivisor_4 : decode cX5_commonDivisor 4 = .ok (.lstore 6, 2) := by decide +kernel
theorem dX5_commonDivisor_6 : decode cX5_commonDivisor 6 = .ok (.iconst 0, 1) := by decide +kernel
theorem dX5_commonDivisor_7 : decode cX5_commonDivisor 7 = .ok (.istore 8, 2) := by decide +kernel
theorem dX5_commonDivisor_9 : decode cX5_commonDivisor 9 = .ok (.iload 8, 2) := by decide +kernel
theorem dX5_commonDivisor_11 : decode cX5_commonDivisor 11 = .ok (.bipush 100, 2) := by decide +kernel
theorem dX5_commonDivisor_13 : decode cX5_commonDivisor 13 = .ok (.if_icmp .ge 31, 3) := by decide +kernel
theorem dX5_commonDivisor_16 : decode cX5_commonDivisor 16 = .ok (.lload 6, 2) := by decide +kernel
theorem dX5_commonDivisor_18 : decode cX5_commonDivisor 18 = .ok (.lconst 0, 1) := by decide +kernel
theorem dX5_commonDivisor_19 : decode cX5_commonDivisor 19 = .ok (.lcmp, 1) := by decide +kernel
theorem dX5_commonDivisor_20 : decode cX5_commonDivisor 20 = .ok (.ifCond .eq 24, 3) := by decide +kernel
theorem dX5_commonDivisor_23 : decode cX5_commonDivisor 23 = .ok (.lload 4, 2) := by decide +kernel
theorem dX5_commonDivisor_25 : decode cX5_commonDivisor 25 = .ok (.lload 6, 2) := by decide +kernel
theorem dX5_commonDivisor_27 : decode cX5_commonDivisor 27 = .ok (.lrem, 1) := by decide +kernel
theorem dX5_commonDivisor_28 : decode cX5_commonDivisor 28 = .ok (.lstore 9, 2) := by decide +kernel
theorem dX5_commonDivisor_30 : decode cX5_commonDivisor 30 = .ok (.lload 6, 2) := by decide +kernel
theorem dX5_commonDivisor_32 : decode cX5_commonDivisor 32 = .ok (.lstore 4, 2) := by decide +kernel
theorem dX5_commonDivisor_34 : decode cX5_commonDivisor 34 = .ok (.lload 9, 2) := by decide +kernel
theorem dX5_commonDivisor_36 : decode cX5_commonDivisor 36 = .ok (.lstore 6, 2) := by decide +kernel
theorem dX5_commonDivisor_38 : decode cX5_commonDivisor 38 = .ok (.iinc 8 1, 3) := by decide +kernel
theorem dX5_commonDivisor_41 : decode cX5_commonDivisor 41 = .ok (.goto (-32), 3) := by decide +kernel
theorem dX5_commonDivisor_44 : decode cX5_commonDivisor 44 = .ok (.lload 4, 2) := by decide +kernel
theorem dX5_commonDivisor_46 : decode cX5_commonDivisor 46 = .ok (.lreturn, 1) := by decide +kernel
