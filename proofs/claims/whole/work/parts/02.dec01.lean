theorem dX8_thread_84 : decode cX8_thread 84 = .ok (.iload_n 1, 1) := by decide +kernel
theorem dX8_thread_85 : decode cX8_thread 85 = .ok (.iload_n 2, 1) := by decide +kernel
theorem dX8_thread_86 : decode cX8_thread 86 = .ok (.invokevirtual 127, 3) := by decide +kernel
theorem dX8_thread_89 : decode cX8_thread 89 = .ok (.ireturn, 1) := by decide +kernel
theorem dX8_thread_90 : decode cX8_thread 90 = .ok (.aload_n 0, 1) := by decide +kernel
theorem dX8_thread_91 : decode cX8_thread 91 = .ok (.getfield 10, 3) := by decide +kernel
theorem dX8_thread_94 : decode cX8_thread 94 = .ok (.iload_n 1, 1) := by decide +kernel
theorem dX8_thread_95 : decode cX8_thread 95 = .ok (.iload_n 2, 1) := by decide +kernel
theorem dX8_thread_96 : decode cX8_thread 96 = .ok (.invokevirtual 130, 3) := by decide +kernel
theorem dX8_thread_99 : decode cX8_thread 99 = .ok (.ifCond .eq 7, 3) := by decide +kernel
theorem dX8_thread_102 : decode cX8_thread 102 = .ok (.iconst 1, 1) := by decide +kernel
theorem dX8_thread_103 : decode cX8_thread 103 = .ok (.goto 4, 3) := by decide +kernel
theorem dX8_thread_106 : decode cX8_thread 106 = .ok (.iconst 0, 1) := by decide +kernel
theorem dX8_thread_107 : decode cX8_thread 107 = .ok (.ireturn, 1) := by decide +kernel
theorem dX8_thread_108 : decode cX8_thread 108 = .ok (.bipush 100, 2) := by decide +kernel
theorem dX8_thread_110 : decode cX8_thread 110 = .ok (.aload_n 0, 1) := by decide +kernel
theorem dX8_thread_111 : decode cX8_thread 111 = .ok (.getfield 39, 3) := by decide +kernel
theorem dX8_thread_114 : decode cX8_thread 114 = .ok (.aload_n 0, 1) := by decide +kernel
theorem dX8_thread_115 : decode cX8_thread 115 = .ok (.getfield 10, 3) := by decide +kernel
theorem dX8_thread_118 : decode cX8_thread 118 = .ok (.iload_n 1, 1) := by decide +kernel
theorem dX8_thread_119 : decode cX8_thread 119 = .ok (.iload_n 2, 1) := by decide +kernel
theorem dX8_thread_120 : decode cX8_thread 120 = .ok (.invokevirtual 133, 3) := by decide +kernel
theorem dX8_thread_123 : decode cX8_thread 123 = .ok (.iadd, 1) := by decide +kernel
theorem dX8_thread_124 : decode cX8_thread 124 = .ok (.ireturn, 1) := by decide +kernel
theorem dX8_sheet_0 : decode cX8_sheet 0 = .ok (.iload_n 1, 1) := by decide +kernel
theorem dX8_sheet_1 : decode cX8_sheet 1 = .ok (.ifCond .lt 14, 3) := by decide +kernel
theorem dX8_sheet_4 : decode cX8_sheet 4 = .ok (.iload_n 1, 1) := by decide +kernel
theorem dX8_sheet_5 : decode cX8_sheet 5 = .ok (.iconst 3, 1) := by decide +kernel
theorem dX8_sheet_6 : decode cX8_sheet 6 = .ok (.if_icmp .gt 9, 3) := by decide +kernel
theorem dX8_sheet_9 : decode cX8_sheet 9 = .ok (.iload_n 2, 1) := by decide +kernel
theorem dX8_sheet_10 : decode cX8_sheet 10 = .ok (.bipush 6, 2) := by decide +kernel
theorem dX8_sheet_12 : decode cX8_sheet 12 = .ok (.if_icmp .le 5, 3) := by decide +kernel
theorem dX8_sheet_15 : decode cX8_sheet 15 = .ok (.iconst (-1), 1) := by decide +kernel
theorem dX8_sheet_16 : decode cX8_sheet 16 = .ok (.ireturn, 1) := by decide +kernel
theorem dX8_sheet_17 : decode cX8_sheet 17 = .ok (.iload_n 1, 1) := by decide +kernel
theorem dX8_sheet_18 : decode cX8_sheet 18 = .ok (.iconst 3, 1) := by decide +kernel
theorem dX8_sheet_19 : decode cX8_sheet 19 = .ok (.if_icmp .ge 10, 3) := by decide +kernel
theorem dX8_sheet_22 : decode cX8_sheet 22 = .ok (.iload_n 2, 1) := by decide +kernel
theorem dX8_sheet_23 : decode cX8_sheet 23 = .ok (.ifCond .ge 6, 3) := by decide +kernel
theorem dX8_sheet_26 : decode cX8_sheet 26 = .ok (.bipush (-2), 2) := by decide +kernel
theorem dX8_sheet_28 : decode cX8_sheet 28 = .ok (.ireturn, 1) := by decide +kernel
theorem dX8_sheet_29 : decode cX8_sheet 29 = .ok (.iload_n 1, 1) := by decide +kernel
theorem dX8_sheet_30 : decode cX8_sheet 30 = .ok (.iconst 3, 1) := by decide +kernel
theorem dX8_sheet_31 : decode cX8_sheet 31 = .ok (.if_icmp .ne 7, 3) := by decide +kernel
theorem dX8_sheet_34 : decode cX8_sheet 34 = .ok (.iconst 0, 1) := by decide +kernel
theorem dX8_sheet_35 : decode cX8_sheet 35 = .ok (.goto 4, 3) := by decide +kernel
theorem dX8_sheet_38 : decode cX8_sheet 38 = .ok (.iload_n 2, 1) := by decide +kernel
theorem dX8_sheet_39 : decode cX8_sheet 39 = .ok (.istore 5, 2) := by decide +kernel
theorem dX8_sheet_41 : decode cX8_sheet 41 = .ok (.aload_n 0, 1) := by decide +kernel
theorem dX8_sheet_42 : decode cX8_sheet 42 = .ok (.getfield 10, 3) := by decide +kernel
theorem dX8_sheet_45 : decode cX8_sheet 45 = .ok (.iload 5, 2) := by decide +kernel
theorem dX8_sheet_47 : decode cX8_sheet 47 = .ok (.iload_n 3, 1) := by decide +kernel
theorem dX8_sheet_48 : decode cX8_sheet 48 = .ok (.iload 4, 2) := by decide +kernel
theorem dX8_sheet_50 : decode cX8_sheet 50 = .ok (.invokevirtual 137, 3) := by decide +kernel
theorem dX8_sheet_53 : decode cX8_sheet 53 = .ok (.istore 6, 2) := by decide +kernel
theorem dX8_sheet_55 : decode cX8_sheet 55 = .ok (.iload_n 1, 1) := by decide +kernel
theorem dX8_sheet_56 : decode cX8_sheet 56 = .ok (.iconst 3, 1) := by decide +kernel
theorem dX8_sheet_57 : decode cX8_sheet 57 = .ok (.if_icmp .ne 8, 3) := by decide +kernel
theorem dX8_sheet_60 : decode cX8_sheet 60 = .ok (.bipush (-3), 2) := by decide +kernel
theorem dX8_sheet_62 : decode cX8_sheet 62 = .ok (.goto 5, 3) := by decide +kernel
theorem dX8_sheet_65 : decode cX8_sheet 65 = .ok (.iload 6, 2) := by decide +kernel
theorem dX8_sheet_67 : decode cX8_sheet 67 = .ok (.ireturn, 1) := by decide +kernel
theorem dX8_nights_0 : decode cX8_nights 0 = .ok (.iload_n 1, 1) := by decide +kernel
theorem dX8_nights_1 : decode cX8_nights 1 = .ok (.ifCond .lt 9, 3) := by decide +kernel
theorem dX8_nights_4 : decode cX8_nights 4 = .ok (.iload_n 1, 1) := by decide +kernel
theorem dX8_nights_5 : decode cX8_nights 5 = .ok (.bipush 60, 2) := by decide +kernel
theorem dX8_nights_7 : decode cX8_nights 7 = .ok (.if_icmp .le 5, 3) := by decide +kernel
theorem dX8_nights_10 : decode cX8_nights 10 = .ok (.iconst (-1), 1) := by decide +kernel
theorem dX8_nights_11 : decode cX8_nights 11 = .ok (.ireturn, 1) := by decide +kernel
theorem dX8_nights_12 : decode cX8_nights 12 = .ok (.aload_n 0, 1) := by decide +kernel
theorem dX8_nights_13 : decode cX8_nights 13 = .ok (.getfield 72, 3) := by decide +kernel
theorem dX8_nights_16 : decode cX8_nights 16 = .ok (.aload_n 0, 1) := by decide +kernel
theorem dX8_nights_17 : decode cX8_nights 17 = .ok (.getfield 10, 3) := by decide +kernel
theorem dX8_nights_20 : decode cX8_nights 20 = .ok (.invokevirtual 141, 3) := by decide +kernel
theorem dX8_nights_23 : decode cX8_nights 23 = .ok (.aload_n 0, 1) := by decide +kernel
theorem dX8_nights_24 : decode cX8_nights 24 = .ok (.getfield 10, 3) := by decide +kernel
theorem dX8_nights_27 : decode cX8_nights 27 = .ok (.getfield 145, 3) := by decide +kernel
theorem dX8_nights_30 : decode cX8_nights 30 = .ok (.invokevirtual 148, 3) := by decide +kernel
theorem dX8_nights_33 : decode cX8_nights 33 = .ok (.aload_n 0, 1) := by decide +kernel
theorem dX8_nights_34 : decode cX8_nights 34 = .ok (.iload_n 1, 1) := by decide +kernel
theorem dX8_nights_35 : decode cX8_nights 35 = .ok (.invokevirtual 152, 3) := by decide +kernel
theorem dX8_nights_38 : decode cX8_nights 38 = .ok (.ireturn, 1) := by decide +kernel
theorem dX8_weaves_0 : decode cX8_weaves 0 = .ok (.aload_n 0, 1) := by decide +kernel
theorem dX8_weaves_1 : decode cX8_weaves 1 = .ok (.getfield 10, 3) := by decide +kernel
theorem dX8_weaves_4 : decode cX8_weaves 4 = .ok (.invokevirtual 141, 3) := by decide +kernel
theorem dX8_weaves_7 : decode cX8_weaves 7 = .ok (.lstore 4, 2) := by decide +kernel
theorem dX8_weaves_9 : decode cX8_weaves 9 = .ok (.aload_n 0, 1) := by decide +kernel
theorem dX8_weaves_10 : decode cX8_weaves 10 = .ok (.getfield 10, 3) := by decide +kernel
theorem dX8_weaves_13 : decode cX8_weaves 13 = .ok (.iload_n 1, 1) := by decide +kernel
theorem dX8_weaves_14 : decode cX8_weaves 14 = .ok (.iload_n 2, 1) := by decide +kernel
theorem dX8_weaves_15 : decode cX8_weaves 15 = .ok (.iload_n 3, 1) := by decide +kernel
theorem dX8_weaves_16 : decode cX8_weaves 16 = .ok (.invokevirtual 156, 3) := by decide +kernel
theorem dX8_weaves_19 : decode cX8_weaves 19 = .ok (.istore 6, 2) := by decide +kernel
theorem dX8_weaves_21 : decode cX8_weaves 21 = .ok (.aload_n 0, 1) := by decide +kernel
theorem dX8_weaves_22 : decode cX8_weaves 22 = .ok (.iload 6, 2) := by decide +kernel
theorem dX8_weaves_24 : decode cX8_weaves 24 = .ok (.lload 4, 2) := by decide +kernel
theorem dX8_weaves_26 : decode cX8_weaves 26 = .ok (.aload_n 0, 1) := by decide +kernel
theorem dX8_weaves_27 : decode cX8_weaves 27 = .ok (.getfield 10, 3) := by decide +kernel
theorem dX8_weaves_30 : decode cX8_weaves 30 = .ok (.getfield 145, 3) := by decide +kernel
theorem dX8_weaves_33 : decode cX8_weaves 33 = .ok (.invokevirtual 159, 3) := by decide +kernel
theorem dX8_weaves_36 : decode cX8_weaves 36 = .ok (.ireturn, 1) := by decide +kernel
theorem dX8_draws_0 : decode cX8_draws 0 = .ok (.aload_n 0, 1) := by decide +kernel
theorem dX8_draws_1 : decode cX8_draws 1 = .ok (.getfield 10, 3) := by decide +kernel
theorem dX8_draws_4 : decode cX8_draws 4 = .ok (.invokevirtual 141, 3) := by decide +kernel
theorem dX8_draws_7 : decode cX8_draws 7 = .ok (.lstore_n 3, 1) := by decide +kernel
theorem dX8_draws_8 : decode cX8_draws 8 = .ok (.aload_n 0, 1) := by decide +kernel
theorem dX8_draws_9 : decode cX8_draws 9 = .ok (.getfield 10, 3) := by decide +kernel
theorem dX8_draws_12 : decode cX8_draws 12 = .ok (.iload_n 1, 1) := by decide +kernel
theorem dX8_draws_13 : decode cX8_draws 13 = .ok (.iload_n 2, 1) := by decide +kernel
theorem dX8_draws_14 : decode cX8_draws 14 = .ok (.invokevirtual 163, 3) := by decide +kernel
theorem dX8_draws_17 : decode cX8_draws 17 = .ok (.istore 5, 2) := by decide +kernel
theorem dX8_draws_19 : decode cX8_draws 19 = .ok (.aload_n 0, 1) := by decide +kernel
theorem dX8_draws_20 : decode cX8_draws 20 = .ok (.iload 5, 2) := by decide +kernel
theorem dX8_draws_22 : decode cX8_draws 22 = .ok (.lload_n 3, 1) := by decide +kernel
theorem dX8_draws_23 : decode cX8_draws 23 = .ok (.aload_n 0, 1) := by decide +kernel
theorem dX8_draws_24 : decode cX8_draws 24 = .ok (.getfield 10, 3) := by decide +kernel
theorem dX8_draws_27 : decode cX8_draws 27 = .ok (.getfield 145, 3) := by decide +kernel
theorem dX8_draws_30 : decode cX8_draws 30 = .ok (.invokevirtual 159, 3) := by decide +kernel
theorem dX8_draws_33 : decode cX8_draws 33 = .ok (.ireturn, 1) := by decide +kernel
theorem dX8_flips_0 : decode cX8_flips 0 = .ok (.aload_n 0, 1) := by decide +kernel
theorem dX8_flips_1 : decode cX8_flips 1 = .ok (.getfield 10, 3) := by decide +kernel
theorem dX8_flips_4 : decode cX8_flips 4 = .ok (.invokevirtual 141, 3) := by decide +kernel
theorem dX8_flips_7 : decode cX8_flips 7 = .ok (.lstore_n 3, 1) := by decide +kernel
theorem dX8_flips_8 : decode cX8_flips 8 = .ok (.aload_n 0, 1) := by decide +kernel
theorem dX8_flips_9 : decode cX8_flips 9 = .ok (.getfield 10, 3) := by decide +kernel
theorem dX8_flips_12 : decode cX8_flips 12 = .ok (.iload_n 1, 1) := by decide +kernel
theorem dX8_flips_13 : decode cX8_flips 13 = .ok (.iload_n 2, 1) := by decide +kernel
theorem dX8_flips_14 : decode cX8_flips 14 = .ok (.invokevirtual 166, 3) := by decide +kernel
theorem dX8_flips_17 : decode cX8_flips 17 = .ok (.istore 5, 2) := by decide +kernel
theorem dX8_flips_19 : decode cX8_flips 19 = .ok (.aload_n 0, 1) := by decide +kernel
theorem dX8_flips_20 : decode cX8_flips 20 = .ok (.iload 5, 2) := by decide +kernel
theorem dX8_flips_22 : decode cX8_flips 22 = .ok (.lload_n 3, 1) := by decide +kernel
theorem dX8_flips_23 : decode cX8_flips 23 = .ok (.aload_n 0, 1) := by decide +kernel
theorem dX8_flips_24 : decode cX8_flips 24 = .ok (.getfield 10, 3) := by decide +kernel
theorem dX8_flips_27 : decode cX8_flips 27 = .ok (.getfield 145, 3) := by decide +kernel
theorem dX8_flips_30 : decode cX8_flips 30 = .ok (.invokevirtual 159, 3) := by decide +kernel
theorem dX8_flips_33 : decode cX8_flips 33 = .ok (.ireturn, 1) := by decide +kernel
theorem dX8_mirrors_0 : decode cX8_mirrors 0 = .ok (.aload_n 0, 1) := by decide +kernel
theorem dX8_mirrors_1 : decode cX8_mirrors 1 = .ok (.getfield 10, 3) := by decide +kernel
theorem dX8_mirrors_4 : decode cX8_mirrors 4 = .ok (.invokevirtual 141, 3) := by decide +kernel
theorem dX8_mirrors_7 : decode cX8_mirrors 7 = .ok (.lstore_n 2, 1) := by decide +kernel
theorem dX8_mirrors_8 : decode cX8_mirrors 8 = .ok (.aload_n 0, 1) := by decide +kernel
theorem dX8_mirrors_9 : decode cX8_mirrors 9 = .ok (.getfield 10, 3) := by decide +kernel
theorem dX8_mirrors_12 : decode cX8_mirrors 12 = .ok (.iload_n 1, 1) := by decide +kernel
theorem dX8_mirrors_13 : decode cX8_mirrors 13 = .ok (.invokevirtual 169, 3) := by decide +kernel
theorem dX8_mirrors_16 : decode cX8_mirrors 16 = .ok (.istore 4, 2) := by decide +kernel
theorem dX8_mirrors_18 : decode cX8_mirrors 18 = .ok (.aload_n 0, 1) := by decide +kernel
theorem dX8_mirrors_19 : decode cX8_mirrors 19 = .ok (.iload 4, 2) := by decide +kernel
theorem dX8_mirrors_21 : decode cX8_mirrors 21 = .ok (.lload_n 2, 1) := by decide +kernel
theorem dX8_mirrors_22 : decode cX8_mirrors 22 = .ok (.aload_n 0, 1) := by decide +kernel
theorem dX8_mirrors_23 : decode cX8_mirrors 23 = .ok (.getfield 10, 3) := by decide +kernel
theorem dX8_mirrors_26 : decode cX8_mirrors 26 = .ok (.getfield 145, 3) := by decide +kernel
theorem dX8_mirrors_29 : decode cX8_mirrors 29 = .ok (.invokevirtual 159, 3) := by decide +kernel
theorem dX8_mirrors_32 : decode cX8_mirrors 32 = .ok (.ireturn, 1) := by decide +kernel
theorem dX8_work_0 : decode cX8_work 0 = .ok (.aload_n 0, 1) := by decide +kernel
theorem dX8_work_1 : decode cX8_work 1 = .ok (.invokevirtual 172, 3) := by decide +kernel
theorem dX8_work_4 : decode cX8_work 4 = .ok (.istore_n 1, 1) := by decide +kernel
theorem dX8_work_5 : decode cX8_work 5 = .ok (.iload_n 1, 1) := by decide +kernel
theorem dX8_work_6 : decode cX8_work 6 = .ok (.iconst (-1), 1) := by decide +kernel
theorem dX8_work_7 : decode cX8_work 7 = .ok (.if_icmp .eq 15, 3) := by decide +kernel
theorem dX8_work_10 : decode cX8_work 10 = .ok (.aload_n 0, 1) := by decide +kernel
theorem dX8_work_11 : decode cX8_work 11 = .ok (.getfield 25, 3) := by decide +kernel
theorem dX8_work_14 : decode cX8_work 14 = .ok (.iconst 0, 1) := by decide +kernel
theorem dX8_work_15 : decode cX8_work 15 = .ok (.putfield 83, 3) := by decide +kernel
theorem dX8_work_18 : decode cX8_work 18 = .ok (.iconst (-1), 1) := by decide +kernel
theorem dX8_work_19 : decode cX8_work 19 = .ok (.iload_n 1, 1) := by decide +kernel
theorem dX8_work_20 : decode cX8_work 20 = .ok (.isub, 1) := by decide +kernel
theorem dX8_work_21 : decode cX8_work 21 = .ok (.ireturn, 1) := by decide +kernel
theorem dX8_work_22 : decode cX8_work 22 = .ok (.aload_n 0, 1) := by decide +kernel
theorem dX8_work_23 : decode cX8_work 23 = .ok (.getfield 10, 3) := by decide +kernel
theorem dX8_work_26 : decode cX8_work 26 = .ok (.invokevirtual 141, 3) := by decide +kernel
theorem dX8_work_29 : decode cX8_work 29 = .ok (.lstore_n 2, 1) := by decide +kernel
theorem dX8_work_30 : decode cX8_work 30 = .ok (.aload_n 0, 1) := by decide +kernel
theorem dX8_work_31 : decode cX8_work 31 = .ok (.getfield 10, 3) := by decide +kernel
theorem dX8_work_34 : decode cX8_work 34 = .ok (.getfield 145, 3) := by decide +kernel
theorem dX8_work_37 : decode cX8_work 37 = .ok (.istore 4, 2) := by decide +kernel
theorem dX8_work_39 : decode cX8_work 39 = .ok (.iconst 0, 1) := by decide +kernel
theorem dX8_work_40 : decode cX8_work 40 = .ok (.istore 5, 2) := by decide +kernel
theorem dX8_work_42 : decode cX8_work 42 = .ok (.iconst 0, 1) := by decide +kernel
theorem dX8_work_43 : decode cX8_work 43 = .ok (.istore 6, 2) := by decide +kernel
theorem dX8_work_45 : decode cX8_work 45 = .ok (.iconst 0, 1) := by decide +kernel
theorem dX8_work_46 : decode cX8_work 46 = .ok (.istore 7, 2) := by decide +kernel
theorem dX8_work_48 : decode cX8_work 48 = .ok (.iload 7, 2) := by decide +kernel
theorem dX8_work_50 : decode cX8_work 50 = .ok (.aload_n 0, 1) := by decide +kernel
theorem dX8_work_51 : decode cX8_work 51 = .ok (.getfield 25, 3) := by decide +kernel
theorem dX8_work_54 : decode cX8_work 54 = .ok (.getfield 83, 3) := by decide +kernel
theorem dX8_work_57 : decode cX8_work 57 = .ok (.if_icmp .ge 51, 3) := by decide +kernel
theorem dX8_work_60 : decode cX8_work 60 = .ok (.iload 6, 2) := by decide +kernel
theorem dX8_work_62 : decode cX8_work 62 = .ok (.ifCond .ne 46, 3) := by decide +kernel
theorem dX8_work_65 : decode cX8_work 65 = .ok (.aload_n 0, 1) := by decide +kernel
theorem dX8_work_66 : decode cX8_work 66 = .ok (.iload 7, 2) := by decide +kernel
theorem dX8_work_68 : decode cX8_work 68 = .ok (.invokevirtual 176, 3) := by decide +kernel
theorem dX8_work_71 : decode cX8_work 71 = .ok (.ifCond .ge 9, 3) := by decide +kernel
theorem dX8_work_74 : decode cX8_work 74 = .ok (.iconst 1, 1) := by decide +kernel
theorem dX8_work_75 : decode cX8_work 75 = .ok (.istore 6, 2) := by decide +kernel
theorem dX8_work_77 : decode cX8_work 77 = .ok (.goto 6, 3) := by decide +kernel
theorem dX8_work_80 : decode cX8_work 80 = .ok (.iinc 5 1, 3) := by decide +kernel
theorem dX8_work_83 : decode cX8_work 83 = .ok (.iload 7, 2) := by decide +kernel
theorem dX8_work_85 : decode cX8_work 85 = .ok (.iconst 1, 1) := by decide +kernel
theorem dX8_work_86 : decode cX8_work 86 = .ok (.aload_n 0, 1) := by decide +kernel
theorem dX8_work_87 : decode cX8_work 87 = .ok (.getfield 25, 3) := by decide +kernel
theorem dX8_work_90 : decode cX8_work 90 = .ok (.iload 7, 2) := by decide +kernel
theorem dX8_work_92 : decode cX8_work 92 = .ok (.invokevirtual 179, 3) := by decide +kernel
theorem dX8_work_95 : decode cX8_work 95 = .ok (.invokestatic 182, 3) := by decide +kernel
theorem dX8_work_98 : decode cX8_work 98 = .ok (.invokevirtual 186, 3) := by decide +kernel
theorem dX8_work_101 : decode cX8_work 101 = .ok (.iadd, 1) := by decide +kernel
theorem dX8_work_102 : decode cX8_work 102 = .ok (.iadd, 1) := by decide +kernel
theorem dX8_work_103 : decode cX8_work 103 = .ok (.istore 7, 2) := by decide +kernel
theorem dX8_work_105 : decode cX8_work 105 = .ok (.goto (-57), 3) := by decide +kernel
theorem dX8_work_108 : decode cX8_work 108 = .ok (.aload_n 0, 1) := by decide +kernel
theorem dX8_work_109 : decode cX8_work 109 = .ok (.getfield 25, 3) := by decide +kernel
theorem dX8_work_112 : decode cX8_work 112 = .ok (.iconst 0, 1) := by decide +kernel
theorem dX8_work_113 : decode cX8_work 113 = .ok (.putfield 83, 3) := by decide +kernel
theorem dX8_work_116 : decode cX8_work 116 = .ok (.iload 5, 2) := by decide +kernel
theorem dX8_work_118 : decode cX8_work 118 = .ok (.ifCond .le 13, 3) := by decide +kernel
theorem dX8_work_121 : decode cX8_work 121 = .ok (.aload_n 0, 1) := by decide +kernel
theorem dX8_work_122 : decode cX8_work 122 = .ok (.getfield 72, 3) := by decide +kernel
theorem dX8_work_125 : decode cX8_work 125 = .ok (.lload_n 2, 1) := by decide +kernel
theorem dX8_work_126 : decode cX8_work 126 = .ok (.iload 4, 2) := by decide +kernel
theorem dX8_work_128 : decode cX8_work 128 = .ok (.invokevirtual 148, 3) := by decide +kernel
theorem dX8_work_131 : decode cX8_work 131 = .ok (.aload_n 0, 1) := by decide +kernel
theorem dX8_work_132 : decode cX8_work 132 = .ok (.getfield 32, 3) := by decide +kernel
theorem dX8_work_135 : decode cX8_work 135 = .ok (.iload 6, 2) := by decide +kernel
theorem dX8_work_137 : decode cX8_work 137 = .ok (.i2l, 1) := by decide +kernel
theorem dX8_work_138 : decode cX8_work 138 = .ok (.aload_n 0, 1) := by decide +kernel
theorem dX8_work_139 : decode cX8_work 139 = .ok (.getfield 10, 3) := by decide +kernel
theorem dX8_work_142 : decode cX8_work 142 = .ok (.invokevirtual 191, 3) := by decide +kernel
theorem dX8_work_145 : decode cX8_work 145 = .ok (.i2l, 1) := by decide +kernel
theorem dX8_work_146 : decode cX8_work 146 = .ok (.invokevirtual 194, 3) := by decide +kernel
theorem dX8_work_149 : decode cX8_work 149 = .ok (.iload 5, 2) := by decide +kernel
theorem dX8_work_151 : decode cX8_work 151 = .ok (.ireturn, 1) := by decide +kernel
theorem dX8_undo_0 : decode cX8_undo 0 = .ok (.aload_n 0, 1) := by decide +kernel
theorem dX8_undo_1 : decode cX8_undo 1 = .ok (.getfield 72, 3) := by decide +kernel
theorem dX8_undo_4 : decode cX8_undo 4 = .ok (.getfield 198, 3) := by decide +kernel
theorem dX8_undo_7 : decode cX8_undo 7 = .ok (.ifCond .ne 5, 3) := by decide +kernel
theorem dX8_undo_10 : decode cX8_undo 10 = .ok (.iconst (-1), 1) := by decide +kernel
theorem dX8_undo_11 : decode cX8_undo 11 = .ok (.ireturn, 1) := by decide +kernel
theorem dX8_undo_12 : decode cX8_undo 12 = .ok (.aload_n 0, 1) := by decide +kernel
theorem dX8_undo_13 : decode cX8_undo 13 = .ok (.getfield 72, 3) := by decide +kernel
theorem dX8_undo_16 : decode cX8_undo 16 = .ok (.dup, 1) := by decide +kernel
theorem dX8_undo_17 : decode cX8_undo 17 = .ok (.getfield 198, 3) := by decide +kernel
theorem dX8_undo_20 : decode cX8_undo 20 = .ok (.iconst 1, 1) := by decide +kernel
theorem dX8_undo_21 : decode cX8_undo 21 = .ok (.isub, 1) := by decide +kernel
theorem dX8_undo_22 : decode cX8_undo 22 = .ok (.putfield 198, 3) := by decide +kernel
theorem dX8_undo_25 : decode cX8_undo 25 = .ok (.aload_n 0, 1) := by decide +kernel
theorem dX8_undo_26 : decode cX8_undo 26 = .ok (.getfield 72, 3) := by decide +kernel
theorem dX8_undo_29 : decode cX8_undo 29 = .ok (.aload_n 0, 1) := by decide +kernel
theorem dX8_undo_30 : decode cX8_undo 30 = .ok (.getfield 72, 3) := by decide +kernel
theorem dX8_undo_33 : decode cX8_undo 33 = .ok (.getfield 198, 3) := by decide +kernel
theorem dX8_undo_36 : decode cX8_undo 36 = .ok (.aload_n 0, 1) := by decide +kernel
theorem dX8_undo_37 : decode cX8_undo 37 = .ok (.getfield 10, 3) := by decide +kernel
theorem dX8_undo_40 : decode cX8_undo 40 = .ok (.invokevirtual 199, 3) := by decide +kernel
theorem dX8_undo_43 : decode cX8_undo 43 = .ok (.aload_n 0, 1) := by decide +kernel
theorem dX8_undo_44 : decode cX8_undo 44 = .ok (.getfield 72, 3) := by decide +kernel
theorem dX8_undo_47 : decode cX8_undo 47 = .ok (.getfield 198, 3) := by decide +kernel
theorem dX8_undo_50 : decode cX8_undo 50 = .ok (.ireturn, 1) := by decide +kernel
theorem dX8_next_0 : decode cX8_next 0 = .ok (.aload_n 0, 1) := by decide +kernel
theorem dX8_next_1 : decode cX8_next 1 = .ok (.getfield 39, 3) := by decide +kernel
theorem dX8_next_4 : decode cX8_next 4 = .ok (.aload_n 0, 1) := by decide +kernel
theorem dX8_next_5 : decode cX8_next 5 = .ok (.getfield 10, 3) := by decide +kernel
theorem dX8_next_8 : decode cX8_next 8 = .ok (.invokevirtual 203, 3) := by decide +kernel
theorem dX8_next_11 : decode cX8_next 11 = .ok (.istore_n 1, 1) := by decide +kernel
theorem dX8_next_12 : decode cX8_next 12 = .ok (.iload_n 1, 1) := by decide +kernel
theorem dX8_next_13 : decode cX8_next 13 = .ok (.ifCond .ge 6, 3) := by decide +kernel
theorem dX8_next_16 : decode cX8_next 16 = .ok (.bipush (-2), 2) := by decide +kernel
theorem dX8_next_18 : decode cX8_next 18 = .ok (.ireturn, 1) := by decide +kernel
theorem dX8_next_19 : decode cX8_next 19 = .ok (.aload_n 0, 1) := by decide +kernel
theorem dX8_next_20 : decode cX8_next 20 = .ok (.getfield 32, 3) := by decide +kernel
theorem dX8_next_23 : decode cX8_next 23 = .ok (.bipush 100, 2) := by decide +kernel
theorem dX8_next_25 : decode cX8_next 25 = .ok (.aload_n 0, 1) := by decide +kernel
theorem dX8_next_26 : decode cX8_next 26 = .ok (.getfield 39, 3) := by decide +kernel
theorem dX8_next_29 : decode cX8_next 29 = .ok (.aload_n 0, 1) := by decide +kernel
theorem dX8_next_30 : decode cX8_next 30 = .ok (.getfield 10, 3) := by decide +kernel
theorem dX8_next_33 : decode cX8_next 33 = .ok (.iload_n 1, 1) := by decide +kernel
theorem dX8_next_34 : decode cX8_next 34 = .ok (.bipush 6, 2) := by decide +kernel
theorem dX8_next_36 : decode cX8_next 36 = .ok (.idiv, 1) := by decide +kernel
theorem dX8_next_37 : decode cX8_next 37 = .ok (.iload_n 1, 1) := by decide +kernel
theorem dX8_next_38 : decode cX8_next 38 = .ok (.bipush 6, 2) := by decide +kernel
theorem dX8_next_40 : decode cX8_next 40 = .ok (.irem, 1) := by decide +kernel
theorem dX8_next_41 : decode cX8_next 41 = .ok (.invokevirtual 133, 3) := by decide +kernel
theorem dX8_next_44 : decode cX8_next 44 = .ok (.iadd, 1) := by decide +kernel
theorem dX8_next_45 : decode cX8_next 45 = .ok (.i2l, 1) := by decide +kernel
theorem dX8_next_46 : decode cX8_next 46 = .ok (.invokevirtual 207, 3) := by decide +kernel
theorem dX8_next_49 : decode cX8_next 49 = .ok (.iload_n 1, 1) := by decide +kernel
theorem dX8_next_50 : decode cX8_next 50 = .ok (.ireturn, 1) := by decide +kernel
theorem dX8_later_0 : decode cX8_later 0 = .ok (.iload_n 1, 1) := by decide +kernel
theorem dX8_later_1 : decode cX8_later 1 = .ok (.ifCond .lt 9, 3) := by decide +kernel
theorem dX8_later_4 : decode cX8_later 4 = .ok (.iload_n 1, 1) := by decide +kernel
theorem dX8_later_5 : decode cX8_later 5 = .ok (.bipush 60, 2) := by decide +kernel
theorem dX8_later_7 : decode cX8_later 7 = .ok (.if_icmp .le 5, 3) := by decide +kernel
theorem dX8_later_10 : decode cX8_later 10 = .ok (.iconst (-1), 1) := by decide +kernel
theorem dX8_later_11 : decode cX8_later 11 = .ok (.ireturn, 1) := by decide +kernel
theorem dX8_later_12 : decode cX8_later 12 = .ok (.aload_n 0, 1) := by decide +kernel
theorem dX8_later_13 : decode cX8_later 13 = .ok (.getfield 16, 3) := by decide +kernel
theorem dX8_later_16 : decode cX8_later 16 = .ok (.aload_n 0, 1) := by decide +kernel
theorem dX8_later_17 : decode cX8_later 17 = .ok (.getfield 10, 3) := by decide +kernel
theorem dX8_later_20 : decode cX8_later 20 = .ok (.invokevirtual 93, 3) := by decide +kernel
theorem dX8_later_23 : decode cX8_later 23 = .ok (.iconst 0, 1) := by decide +kernel
theorem dX8_later_24 : decode cX8_later 24 = .ok (.istore_n 2, 1) := by decide +kernel
theorem dX8_later_25 : decode cX8_later 25 = .ok (.iload_n 2, 1) := by decide +kernel
theorem dX8_later_26 : decode cX8_later 26 = .ok (.iload_n 1, 1) := by decide +kernel
theorem dX8_later_27 : decode cX8_later 27 = .ok (.if_icmp .ge 27, 3) := by decide +kernel
theorem dX8_later_30 : decode cX8_later 30 = .ok (.aload_n 0, 1) := by decide +kernel
theorem dX8_later_31 : decode cX8_later 31 = .ok (.getfield 16, 3) := by decide +kernel
theorem dX8_later_34 : decode cX8_later 34 = .ok (.aload_n 0, 1) := by decide +kernel
theorem dX8_later_35 : decode cX8_later 35 = .ok (.getfield 39, 3) := by decide +kernel
theorem dX8_later_38 : decode cX8_later 38 = .ok (.aload_n 0, 1) := by decide +kernel
theorem dX8_later_39 : decode cX8_later 39 = .ok (.getfield 16, 3) := by decide +kernel
theorem dX8_later_42 : decode cX8_later 42 = .ok (.invokevirtual 203, 3) := by decide +kernel
theorem dX8_later_45 : decode cX8_later 45 = .ok (.invokevirtual 210, 3) := by decide +kernel
theorem dX8_later_48 : decode cX8_later 48 = .ok (.iinc 2 1, 3) := by decide +kernel
theorem dX8_later_51 : decode cX8_later 51 = .ok (.goto (-26), 3) := by decide +kernel
theorem dX8_later_54 : decode cX8_later 54 = .ok (.aload_n 0, 1) := by decide +kernel
theorem dX8_later_55 : decode cX8_later 55 = .ok (.getfield 32, 3) := by decide +kernel
theorem dX8_later_58 : decode cX8_later 58 = .ok (.aload_n 0, 1) := by decide +kernel
theorem dX8_later_59 : decode cX8_later 59 = .ok (.getfield 16, 3) := by decide +kernel
theorem dX8_later_62 : decode cX8_later 62 = .ok (.getfield 100, 3) := by decide +kernel
theorem dX8_later_65 : decode cX8_later 65 = .ok (.i2l, 1) := by decide +kernel
theorem dX8_later_66 : decode cX8_later 66 = .ok (.aload_n 0, 1) := by decide +kernel
theorem dX8_later_67 : decode cX8_later 67 = .ok (.getfield 16, 3) := by decide +kernel
theorem dX8_later_70 : decode cX8_later 70 = .ok (.getfield 213, 3) := by decide +kernel
theorem dX8_later_73 : decode cX8_later 73 = .ok (.i2l, 1) := by decide +kernel
theorem dX8_later_74 : decode cX8_later 74 = .ok (.invokevirtual 194, 3) := by decide +kernel
theorem dX8_later_77 : decode cX8_later 77 = .ok (.iconst 0, 1) := by decide +kernel
theorem dX8_later_78 : decode cX8_later 78 = .ok (.istore_n 2, 1) := by decide +kernel
theorem dX8_later_79 : decode cX8_later 79 = .ok (.iload_n 2, 1) := by decide +kernel
theorem dX8_later_80 : decode cX8_later 80 = .ok (.aload_n 0, 1) := by decide +kernel
theorem dX8_later_81 : decode cX8_later 81 = .ok (.getfield 16, 3) := by decide +kernel
theorem dX8_later_84 : decode cX8_later 84 = .ok (.getfield 100, 3) := by decide +kernel
theorem dX8_later_87 : decode cX8_later 87 = .ok (.if_icmp .ge 26, 3) := by decide +kernel
theorem dX8_later_90 : decode cX8_later 90 = .ok (.aload_n 0, 1) := by decide +kernel
theorem dX8_later_91 : decode cX8_later 91 = .ok (.getfield 32, 3) := by decide +kernel
theorem dX8_later_94 : decode cX8_later 94 = .ok (.aload_n 0, 1) := by decide +kernel
theorem dX8_later_95 : decode cX8_later 95 = .ok (.getfield 16, 3) := by decide +kernel
theorem dX8_later_98 : decode cX8_later 98 = .ok (.iconst 0, 1) := by decide +kernel
theorem dX8_later_99 : decode cX8_later 99 = .ok (.iload_n 2, 1) := by decide +kernel
theorem dX8_later_100 : decode cX8_later 100 = .ok (.invokevirtual 121, 3) := by decide +kernel
theorem dX8_later_103 : decode cX8_later 103 = .ok (.i2l, 1) := by decide +kernel
theorem dX8_later_104 : decode cX8_later 104 = .ok (.invokevirtual 216, 3) := by decide +kernel
theorem dX8_later_107 : decode cX8_later 107 = .ok (.iinc 2 1, 3) := by decide +kernel
theorem dX8_later_110 : decode cX8_later 110 = .ok (.goto (-31), 3) := by decide +kernel
theorem dX8_later_113 : decode cX8_later 113 = .ok (.aload_n 0, 1) := by decide +kernel
theorem dX8_later_114 : decode cX8_later 114 = .ok (.getfield 16, 3) := by decide +kernel
theorem dX8_later_117 : decode cX8_later 117 = .ok (.invokevirtual 191, 3) := by decide +kernel
theorem dX8_later_120 : decode cX8_later 120 = .ok (.ireturn, 1) := by decide +kernel
theorem dX8_falls_0 : decode cX8_falls 0 = .ok (.aload_n 0, 1) := by decide +kernel
theorem dX8_falls_1 : decode cX8_falls 1 = .ok (.getfield 16, 3) := by decide +kernel
theorem dX8_falls_4 : decode cX8_falls 4 = .ok (.aload_n 0, 1) := by decide +kernel
theorem dX8_falls_5 : decode cX8_falls 5 = .ok (.getfield 10, 3) := by decide +kernel
theorem dX8_falls_8 : decode cX8_falls 8 = .ok (.invokevirtual 93, 3) := by decide +kernel
theorem dX8_falls_11 : decode cX8_falls 11 = .ok (.iconst 0, 1) := by decide +kernel
theorem dX8_falls_12 : decode cX8_falls 12 = .ok (.istore_n 1, 1) := by decide +kernel
theorem dX8_falls_13 : decode cX8_falls 13 = .ok (.iload_n 1, 1) := by decide +kernel
theorem dX8_falls_14 : decode cX8_falls 14 = .ok (.bipush 60, 2) := by decide +kernel
theorem dX8_falls_16 : decode cX8_falls 16 = .ok (.if_icmp .gt 58, 3) := by decide +kernel
theorem dX8_falls_19 : decode cX8_falls 19 = .ok (.aload_n 0, 1) := by decide +kernel
theorem dX8_falls_20 : decode cX8_falls 20 = .ok (.getfield 49, 3) := by decide +kernel
theorem dX8_falls_23 : decode cX8_falls 23 = .ok (.aload_n 0, 1) := by decide +kernel
theorem dX8_falls_24 : decode cX8_falls 24 = .ok (.getfield 16, 3) := by decide +kernel
theorem dX8_falls_27 : decode cX8_falls 27 = .ok (.invokevirtual 218, 3) := by decide +kernel
theorem dX8_falls_30 : decode cX8_falls 30 = .ok (.ifCond .ne 20, 3) := by decide +kernel
theorem dX8_falls_33 : decode cX8_falls 33 = .ok (.aload_n 0, 1) := by decide +kernel
theorem dX8_falls_34 : decode cX8_falls 34 = .ok (.getfield 32, 3) := by decide +kernel
theorem dX8_falls_37 : decode cX8_falls 37 = .ok (.aload_n 0, 1) := by decide +kernel
theorem dX8_falls_38 : decode cX8_falls 38 = .ok (.getfield 16, 3) := by decide +kernel
theorem dX8_falls_41 : decode cX8_falls 41 = .ok (.invokevirtual 191, 3) := by decide +kernel
theorem dX8_falls_44 : decode cX8_falls 44 = .ok (.i2l, 1) := by decide +kernel
theorem dX8_falls_45 : decode cX8_falls 45 = .ok (.invokevirtual 207, 3) := by decide +kernel
theorem dX8_falls_48 : decode cX8_falls 48 = .ok (.iload_n 1, 1) := by decide +kernel
theorem dX8_falls_49 : decode cX8_falls 49 = .ok (.ireturn, 1) := by decide +kernel
theorem dX8_falls_50 : decode cX8_falls 50 = .ok (.aload_n 0, 1) := by decide +kernel
theorem dX8_falls_51 : decode cX8_falls 51 = .ok (.getfield 16, 3) := by decide +kernel
theorem dX8_falls_54 : decode cX8_falls 54 = .ok (.aload_n 0, 1) := by decide +kernel
theorem dX8_falls_55 : decode cX8_falls 55 = .ok (.getfield 39, 3) := by decide +kernel
theorem dX8_falls_58 : decode cX8_falls 58 = .ok (.aload_n 0, 1) := by decide +kernel
theorem dX8_falls_59 : decode cX8_falls 59 = .ok (.getfield 16, 3) := by decide +kernel
theorem dX8_falls_62 : decode cX8_falls 62 = .ok (.invokevirtual 203, 3) := by decide +kernel
theorem dX8_falls_65 : decode cX8_falls 65 = .ok (.invokevirtual 210, 3) := by decide +kernel
theorem dX8_falls_68 : decode cX8_falls 68 = .ok (.iinc 1 1, 3) := by decide +kernel
theorem dX8_falls_71 : decode cX8_falls 71 = .ok (.goto (-58), 3) := by decide +kernel
theorem dX8_falls_74 : decode cX8_falls 74 = .ok (.bipush (-2), 2) := by decide +kernel
theorem dX8_falls_76 : decode cX8_falls 76 = .ok (.ireturn, 1) := by decide +kernel
theorem dX8_rags_0 : decode cX8_rags 0 = .ok (.aload_n 0, 1) := by decide +kernel
theorem dX8_rags_1 : decode cX8_rags 1 = .ok (.getfield 16, 3) := by decide +kernel
theorem dX8_rags_4 : decode cX8_rags 4 = .ok (.aload_n 0, 1) := by decide +kernel
theorem dX8_rags_5 : decode cX8_rags 5 = .ok (.getfield 25, 3) := by decide +kernel
theorem dX8_rags_8 : decode cX8_rags 8 = .ok (.invokevirtual 89, 3) := by decide +kernel
theorem dX8_rags_11 : decode cX8_rags 11 = .ok (.istore_n 1, 1) := by decide +kernel
theorem dX8_rags_12 : decode cX8_rags 12 = .ok (.aload_n 0, 1) := by decide +kernel
theorem dX8_rags_13 : decode cX8_rags 13 = .ok (.getfield 25, 3) := by decide +kernel
theorem dX8_rags_16 : decode cX8_rags 16 = .ok (.iconst 0, 1) := by decide +kernel
theorem dX8_rags_17 : decode cX8_rags 17 = .ok (.putfield 83, 3) := by decide +kernel
theorem dX8_rags_20 : decode cX8_rags 20 = .ok (.iload_n 1, 1) := by decide +kernel
theorem dX8_rags_21 : decode cX8_rags 21 = .ok (.iconst (-1), 1) := by decide +kernel
theorem dX8_rags_22 : decode cX8_rags 22 = .ok (.if_icmp .eq 7, 3) := by decide +kernel
theorem dX8_rags_25 : decode cX8_rags 25 = .ok (.iconst (-1), 1) := by decide +kernel
theorem dX8_rags_26 : decode cX8_rags 26 = .ok (.iload_n 1, 1) := by decide +kernel
theorem dX8_rags_27 : decode cX8_rags 27 = .ok (.isub, 1) := by decide +kernel
theorem dX8_rags_28 : decode cX8_rags 28 = .ok (.ireturn, 1) := by decide +kernel
theorem dX8_rags_29 : decode cX8_rags 29 = .ok (.aload_n 0, 1) := by decide +kernel
theorem dX8_rags_30 : decode cX8_rags 30 = .ok (.getfield 32, 3) := by decide +kernel
theorem dX8_rags_33 : decode cX8_rags 33 = .ok (.invokevirtual 222, 3) := by decide +kernel
theorem dX8_rags_36 : decode cX8_rags 36 = .ok (.iconst 0, 1) := by decide +kernel
theorem dX8_rags_37 : decode cX8_rags 37 = .ok (.istore_n 2, 1) := by decide +kernel
theorem dX8_rags_38 : decode cX8_rags 38 = .ok (.iconst 0, 1) := by decide +kernel
theorem dX8_rags_39 : decode cX8_rags 39 = .ok (.istore_n 3, 1) := by decide +kernel
theorem dX8_rags_40 : decode cX8_rags 40 = .ok (.iload_n 3, 1) := by decide +kernel
theorem dX8_rags_41 : decode cX8_rags 41 = .ok (.iconst 1, 1) := by decide +kernel
theorem dX8_rags_42 : decode cX8_rags 42 = .ok (.aload_n 0, 1) := by decide +kernel
theorem dX8_rags_43 : decode cX8_rags 43 = .ok (.getfield 10, 3) := by decide +kernel
theorem dX8_rags_46 : decode cX8_rags 46 = .ok (.getfield 213, 3) := by decide +kernel
theorem dX8_rags_49 : decode cX8_rags 49 = .ok (.ishl, 1) := by decide +kernel
theorem dX8_rags_50 : decode cX8_rags 50 = .ok (.if_icmp .ge 48, 3) := by decide +kernel
theorem dX8_rags_53 : decode cX8_rags 53 = .ok (.aload_n 0, 1) := by decide +kernel
theorem dX8_rags_54 : decode cX8_rags 54 = .ok (.getfield 10, 3) := by decide +kernel
theorem dX8_rags_57 : decode cX8_rags 57 = .ok (.getfield 213, 3) := by decide +kernel
theorem dX8_rags_60 : decode cX8_rags 60 = .ok (.iload_n 3, 1) := by decide +kernel
theorem dX8_rags_61 : decode cX8_rags 61 = .ok (.invokestatic 225, 3) := by decide +kernel
theorem dX8_rags_64 : decode cX8_rags 64 = .ok (.isub, 1) := by decide +kernel
theorem dX8_rags_65 : decode cX8_rags 65 = .ok (.aload_n 0, 1) := by decide +kernel
theorem dX8_rags_66 : decode cX8_rags 66 = .ok (.getfield 16, 3) := by decide +kernel
theorem dX8_rags_69 : decode cX8_rags 69 = .ok (.getfield 213, 3) := by decide +kernel
theorem dX8_rags_72 : decode cX8_rags 72 = .ok (.if_icmp .ne 20, 3) := by decide +kernel
theorem dX8_rags_75 : decode cX8_rags 75 = .ok (.iload_n 2, 1) := by decide +kernel
theorem dX8_rags_76 : decode cX8_rags 76 = .ok (.aload_n 0, 1) := by decide +kernel
theorem dX8_rags_77 : decode cX8_rags 77 = .ok (.iload_n 3, 1) := by decide +kernel
theorem dX8_rags_78 : decode cX8_rags 78 = .ok (.iload_n 2, 1) := by decide +kernel
theorem dX8_rags_79 : decode cX8_rags 79 = .ok (.ifCond .ne 7, 3) := by decide +kernel
theorem dX8_rags_82 : decode cX8_rags 82 = .ok (.iconst 1, 1) := by decide +kernel
theorem dX8_rags_83 : decode cX8_rags 83 = .ok (.goto 4, 3) := by decide +kernel
theorem dX8_rags_86 : decode cX8_rags 86 = .ok (.iconst 0, 1) := by decide +kernel
theorem dX8_rags_87 : decode cX8_rags 87 = .ok (.invokevirtual 230, 3) := by decide +kernel
theorem dX8_rags_90 : decode cX8_rags 90 = .ok (.iadd, 1) := by decide +kernel
theorem dX8_rags_91 : decode cX8_rags 91 = .ok (.istore_n 2, 1) := by decide +kernel
theorem dX8_rags_92 : decode cX8_rags 92 = .ok (.iinc 3 1, 3) := by decide +kernel
theorem dX8_rags_95 : decode cX8_rags 95 = .ok (.goto (-55), 3) := by decide +kernel
theorem dX8_rags_98 : decode cX8_rags 98 = .ok (.iload_n 2, 1) := by decide +kernel
theorem dX8_rags_99 : decode cX8_rags 99 = .ok (.ireturn, 1) := by decide +kernel
theorem dX8_lefts_0 : decode cX8_lefts 0 = .ok (.iload_n 1, 1) := by decide +kernel
theorem dX8_lefts_1 : decode cX8_lefts 1 = .ok (.ifCond .lt 8, 3) := by decide +kernel
theorem dX8_lefts_4 : decode cX8_lefts 4 = .ok (.iload_n 1, 1) := by decide +kernel
theorem dX8_lefts_5 : decode cX8_lefts 5 = .ok (.iconst 4, 1) := by decide +kernel
theorem dX8_lefts_6 : decode cX8_lefts 6 = .ok (.if_icmp .le 5, 3) := by decide +kernel
theorem dX8_lefts_9 : decode cX8_lefts 9 = .ok (.iconst (-1), 1) := by decide +kernel
theorem dX8_lefts_10 : decode cX8_lefts 10 = .ok (.ireturn, 1) := by decide +kernel
theorem dX8_lefts_11 : decode cX8_lefts 11 = .ok (.aload_n 0, 1) := by decide +kernel
theorem dX8_lefts_12 : decode cX8_lefts 12 = .ok (.getfield 56, 3) := by decide +kernel
theorem dX8_lefts_15 : decode cX8_lefts 15 = .ok (.invokevirtual 234, 3) := by decide +kernel
theorem dX8_lefts_18 : decode cX8_lefts 18 = .ok (.iconst 0, 1) := by decide +kernel
theorem dX8_lefts_19 : decode cX8_lefts 19 = .ok (.istore_n 2, 1) := by decide +kernel
theorem dX8_lefts_20 : decode cX8_lefts 20 = .ok (.iconst 0, 1) := by decide +kernel
theorem dX8_lefts_21 : decode cX8_lefts 21 = .ok (.istore_n 3, 1) := by decide +kernel
theorem dX8_lefts_22 : decode cX8_lefts 22 = .ok (.iconst 1, 1) := by decide +kernel
theorem dX8_lefts_23 : decode cX8_lefts 23 = .ok (.aload_n 0, 1) := by decide +kernel
theorem dX8_lefts_24 : decode cX8_lefts 24 = .ok (.getfield 10, 3) := by decide +kernel
theorem dX8_lefts_27 : decode cX8_lefts 27 = .ok (.getfield 100, 3) := by decide +kernel
theorem dX8_lefts_30 : decode cX8_lefts 30 = .ok (.ishl, 1) := by decide +kernel
theorem dX8_lefts_31 : decode cX8_lefts 31 = .ok (.iconst 1, 1) := by decide +kernel
theorem dX8_lefts_32 : decode cX8_lefts 32 = .ok (.isub, 1) := by decide +kernel
theorem dX8_lefts_33 : decode cX8_lefts 33 = .ok (.istore 4, 2) := by decide +kernel
theorem dX8_lefts_35 : decode cX8_lefts 35 = .ok (.iconst 1, 1) := by decide +kernel
theorem dX8_lefts_36 : decode cX8_lefts 36 = .ok (.aload_n 0, 1) := by decide +kernel
theorem dX8_lefts_37 : decode cX8_lefts 37 = .ok (.getfield 10, 3) := by decide +kernel
theorem dX8_lefts_40 : decode cX8_lefts 40 = .ok (.getfield 213, 3) := by decide +kernel
theorem dX8_lefts_43 : decode cX8_lefts 43 = .ok (.ishl, 1) := by decide +kernel
theorem dX8_lefts_44 : decode cX8_lefts 44 = .ok (.iconst 1, 1) := by decide +kernel
theorem dX8_lefts_45 : decode cX8_lefts 45 = .ok (.isub, 1) := by decide +kernel
theorem dX8_lefts_46 : decode cX8_lefts 46 = .ok (.istore 5, 2) := by decide +kernel
theorem dX8_lefts_48 : decode cX8_lefts 48 = .ok (.iconst 0, 1) := by decide +kernel
theorem dX8_lefts_49 : decode cX8_lefts 49 = .ok (.istore 6, 2) := by decide +kernel
theorem dX8_lefts_51 : decode cX8_lefts 51 = .ok (.iload 6, 2) := by decide +kernel
theorem dX8_lefts_53 : decode cX8_lefts 53 = .ok (.iload 5, 2) := by decide +kernel
theorem dX8_lefts_55 : decode cX8_lefts 55 = .ok (.if_icmp .ge 87, 3) := by decide +kernel
theorem dX8_lefts_58 : decode cX8_lefts 58 = .ok (.aload_n 0, 1) := by decide +kernel
theorem dX8_lefts_59 : decode cX8_lefts 59 = .ok (.getfield 56, 3) := by decide +kernel
theorem dX8_lefts_62 : decode cX8_lefts 62 = .ok (.aload_n 0, 1) := by decide +kernel
theorem dX8_lefts_63 : decode cX8_lefts 63 = .ok (.getfield 10, 3) := by decide +kernel
theorem dX8_lefts_66 : decode cX8_lefts 66 = .ok (.iload 6, 2) := by decide +kernel
theorem dX8_lefts_68 : decode cX8_lefts 68 = .ok (.invokevirtual 237, 3) := by decide +kernel
theorem dX8_lefts_71 : decode cX8_lefts 71 = .ok (.iconst 0, 1) := by decide +kernel
theorem dX8_lefts_72 : decode cX8_lefts 72 = .ok (.istore 7, 2) := by decide +kernel
theorem dX8_lefts_74 : decode cX8_lefts 74 = .ok (.iload 7, 2) := by decide +kernel
theorem dX8_lefts_76 : decode cX8_lefts 76 = .ok (.iload 4, 2) := by decide +kernel
theorem dX8_lefts_78 : decode cX8_lefts 78 = .ok (.if_icmp .ge 58, 3) := by decide +kernel
theorem dX8_lefts_81 : decode cX8_lefts 81 = .ok (.iload 7, 2) := by decide +kernel
theorem dX8_lefts_83 : decode cX8_lefts 83 = .ok (.invokestatic 225, 3) := by decide +kernel
theorem dX8_lefts_86 : decode cX8_lefts 86 = .ok (.iload 6, 2) := by decide +kernel
theorem dX8_lefts_88 : decode cX8_lefts 88 = .ok (.invokestatic 225, 3) := by decide +kernel
theorem dX8_lefts_91 : decode cX8_lefts 91 = .ok (.iadd, 1) := by decide +kernel
theorem dX8_lefts_92 : decode cX8_lefts 92 = .ok (.iload_n 1, 1) := by decide +kernel
theorem dX8_lefts_93 : decode cX8_lefts 93 = .ok (.if_icmp .ne 37, 3) := by decide +kernel
theorem dX8_lefts_96 : decode cX8_lefts 96 = .ok (.iinc 2 1, 3) := by decide +kernel
theorem dX8_lefts_99 : decode cX8_lefts 99 = .ok (.iload_n 3, 1) := by decide +kernel
theorem dX8_lefts_100 : decode cX8_lefts 100 = .ok (.aload_n 0, 1) := by decide +kernel
theorem dX8_lefts_101 : decode cX8_lefts 101 = .ok (.getfield 56, 3) := by decide +kernel
theorem dX8_lefts_104 : decode cX8_lefts 104 = .ok (.aload_n 0, 1) := by decide +kernel
theorem dX8_lefts_105 : decode cX8_lefts 105 = .ok (.getfield 56, 3) := by decide +kernel
theorem dX8_lefts_108 : decode cX8_lefts 108 = .ok (.aload_n 0, 1) := by decide +kernel
theorem dX8_lefts_109 : decode cX8_lefts 109 = .ok (.getfield 10, 3) := by decide +kernel
theorem dX8_lefts_112 : decode cX8_lefts 112 = .ok (.iload 7, 2) := by decide +kernel
theorem dX8_lefts_114 : decode cX8_lefts 114 = .ok (.invokevirtual 241, 3) := by decide +kernel
theorem dX8_lefts_117 : decode cX8_lefts 117 = .ok (.invokevirtual 245, 3) := by decide +kernel
theorem dX8_lefts_120 : decode cX8_lefts 120 = .ok (.ifCond .eq 7, 3) := by decide +kernel
theorem dX8_lefts_123 : decode cX8_lefts 123 = .ok (.iconst 1, 1) := by decide +kernel
theorem dX8_lefts_124 : decode cX8_lefts 124 = .ok (.goto 4, 3) := by decide +kernel
theorem dX8_lefts_127 : decode cX8_lefts 127 = .ok (.iconst 0, 1) := by decide +kernel
theorem dX8_lefts_128 : decode cX8_lefts 128 = .ok (.iadd, 1) := by decide +kernel
theorem dX8_lefts_129 : decode cX8_lefts 129 = .ok (.istore_n 3, 1) := by decide +kernel
theorem dX8_lefts_130 : decode cX8_lefts 130 = .ok (.iinc 7 1, 3) := by decide +kernel
theorem dX8_lefts_133 : decode cX8_lefts 133 = .ok (.goto (-59), 3) := by decide +kernel
theorem dX8_lefts_136 : decode cX8_lefts 136 = .ok (.iinc 6 1, 3) := by decide +kernel
theorem dX8_lefts_139 : decode cX8_lefts 139 = .ok (.goto (-88), 3) := by decide +kernel
theorem dX8_lefts_142 : decode cX8_lefts 142 = .ok (.aload_n 0, 1) := by decide +kernel
theorem dX8_lefts_143 : decode cX8_lefts 143 = .ok (.getfield 32, 3) := by decide +kernel
theorem dX8_lefts_146 : decode cX8_lefts 146 = .ok (.iload_n 2, 1) := by decide +kernel
theorem dX8_lefts_147 : decode cX8_lefts 147 = .ok (.i2l, 1) := by decide +kernel
theorem dX8_lefts_148 : decode cX8_lefts 148 = .ok (.invokevirtual 207, 3) := by decide +kernel
theorem dX8_lefts_151 : decode cX8_lefts 151 = .ok (.iload_n 3, 1) := by decide +kernel
theorem dX8_lefts_152 : decode cX8_lefts 152 = .ok (.ireturn, 1) := by decide +kernel
theorem dX8_outlasts_0 : decode cX8_outlasts 0 = .ok (.iconst 0, 1) := by decide +kernel
theorem dX8_outlasts_1 : decode cX8_outlasts 1 = .ok (.istore_n 1, 1) := by decide +kernel
theorem dX8_outlasts_2 : decode cX8_outlasts 2 = .ok (.iconst 0, 1) := by decide +kernel
theorem dX8_outlasts_3 : decode cX8_outlasts 3 = .ok (.istore_n 2, 1) := by decide +kernel
theorem dX8_outlasts_4 : decode cX8_outlasts 4 = .ok (.iconst 1, 1) := by decide +kernel
theorem dX8_outlasts_5 : decode cX8_outlasts 5 = .ok (.istore_n 3, 1) := by decide +kernel
theorem dX8_outlasts_6 : decode cX8_outlasts 6 = .ok (.iload_n 3, 1) := by decide +kernel
theorem dX8_outlasts_7 : decode cX8_outlasts 7 = .ok (.iconst 1, 1) := by decide +kernel
theorem dX8_outlasts_8 : decode cX8_outlasts 8 = .ok (.aload_n 0, 1) := by decide +kernel
theorem dX8_outlasts_9 : decode cX8_outlasts 9 = .ok (.getfield 10, 3) := by decide +kernel
theorem dX8_outlasts_12 : decode cX8_outlasts 12 = .ok (.getfield 100, 3) := by decide +kernel
theorem dX8_outlasts_15 : decode cX8_outlasts 15 = .ok (.ishl, 1) := by decide +kernel
theorem dX8_outlasts_16 : decode cX8_outlasts 16 = .ok (.if_icmp .ge 34, 3) := by decide +kernel
theorem dX8_outlasts_19 : decode cX8_outlasts 19 = .ok (.iload_n 3, 1) := by decide +kernel
theorem dX8_outlasts_20 : decode cX8_outlasts 20 = .ok (.invokestatic 225, 3) := by decide +kernel
theorem dX8_outlasts_23 : decode cX8_outlasts 23 = .ok (.istore 4, 2) := by decide +kernel
theorem dX8_outlasts_25 : decode cX8_outlasts 25 = .ok (.iload 4, 2) := by decide +kernel
theorem dX8_outlasts_27 : decode cX8_outlasts 27 = .ok (.iload_n 1, 1) := by decide +kernel
theorem dX8_outlasts_28 : decode cX8_outlasts 28 = .ok (.if_icmp .le 16, 3) := by decide +kernel
theorem dX8_outlasts_31 : decode cX8_outlasts 31 = .ok (.aload_n 0, 1) := by decide +kernel
theorem dX8_outlasts_32 : decode cX8_outlasts 32 = .ok (.iload_n 3, 1) := by decide +kernel
theorem dX8_outlasts_33 : decode cX8_outlasts 33 = .ok (.invokevirtual 249, 3) := by decide +kernel
theorem dX8_outlasts_36 : decode cX8_outlasts 36 = .ok (.ifCond .eq 8, 3) := by decide +kernel
theorem dX8_outlasts_39 : decode cX8_outlasts 39 = .ok (.iload 4, 2) := by decide +kernel
theorem dX8_outlasts_41 : decode cX8_outlasts 41 = .ok (.istore_n 1, 1) := by decide +kernel
theorem dX8_outlasts_42 : decode cX8_outlasts 42 = .ok (.iload_n 3, 1) := by decide +kernel
theorem dX8_outlasts_43 : decode cX8_outlasts 43 = .ok (.istore_n 2, 1) := by decide +kernel
theorem dX8_outlasts_44 : decode cX8_outlasts 44 = .ok (.iinc 3 1, 3) := by decide +kernel
theorem dX8_outlasts_47 : decode cX8_outlasts 47 = .ok (.goto (-41), 3) := by decide +kernel
theorem dX8_outlasts_50 : decode cX8_outlasts 50 = .ok (.aload_n 0, 1) := by decide +kernel
theorem dX8_outlasts_51 : decode cX8_outlasts 51 = .ok (.getfield 32, 3) := by decide +kernel
theorem dX8_outlasts_54 : decode cX8_outlasts 54 = .ok (.iload_n 2, 1) := by decide +kernel
theorem dX8_outlasts_55 : decode cX8_outlasts 55 = .ok (.i2l, 1) := by decide +kernel
theorem dX8_outlasts_56 : decode cX8_outlasts 56 = .ok (.invokevirtual 207, 3) := by decide +kernel
theorem dX8_outlasts_59 : decode cX8_outlasts 59 = .ok (.iload_n 1, 1) := by decide +kernel
theorem dX8_outlasts_60 : decode cX8_outlasts 60 = .ok (.ireturn, 1) := by decide +kernel
theorem dX8_words_0 : decode cX8_words 0 = .ok (.iload_n 1, 1) := by decide +kernel
theorem dX8_words_1 : decode cX8_words 1 = .ok (.iconst 1, 1) := by decide +kernel
theorem dX8_words_2 : decode cX8_words 2 = .ok (.if_icmp .lt 18, 3) := by decide +kernel
theorem dX8_words_5 : decode cX8_words 5 = .ok (.iload_n 1, 1) := by decide +kernel
theorem dX8_words_6 : decode cX8_words 6 = .ok (.bipush 6, 2) := by decide +kernel
theorem dX8_words_8 : decode cX8_words 8 = .ok (.if_icmp .gt 12, 3) := by decide +kernel
theorem dX8_words_11 : decode cX8_words 11 = .ok (.iload_n 2, 1) := by decide +kernel
theorem dX8_words_12 : decode cX8_words 12 = .ok (.ifCond .lt 8, 3) := by decide +kernel
theorem dX8_words_15 : decode cX8_words 15 = .ok (.iload_n 2, 1) := by decide +kernel
theorem dX8_words_16 : decode cX8_words 16 = .ok (.iload_n 1, 1) := by decide +kernel
theorem dX8_words_17 : decode cX8_words 17 = .ok (.if_icmp .le 5, 3) := by decide +kernel
theorem dX8_words_20 : decode cX8_words 20 = .ok (.iconst (-1), 1) := by decide +kernel
theorem dX8_words_21 : decode cX8_words 21 = .ok (.ireturn, 1) := by decide +kernel
theorem dX8_words_22 : decode cX8_words 22 = .ok (.iconst 0, 1) := by decide +kernel
theorem dX8_words_23 : decode cX8_words 23 = .ok (.istore_n 3, 1) := by decide +kernel
theorem dX8_words_24 : decode cX8_words 24 = .ok (.iconst 0, 1) := by decide +kernel
theorem dX8_words_25 : decode cX8_words 25 = .ok (.istore 4, 2) := by decide +kernel
theorem dX8_words_27 : decode cX8_words 27 = .ok (.iconst 0, 1) := by decide +kernel
theorem dX8_words_28 : decode cX8_words 28 = .ok (.istore 5, 2) := by decide +kernel
theorem dX8_words_30 : decode cX8_words 30 = .ok (.iconst 0, 1) := by decide +kernel
theorem dX8_words_31 : decode cX8_words 31 = .ok (.istore 6, 2) := by decide +kernel
theorem dX8_words_33 : decode cX8_words 33 = .ok (.iload 6, 2) := by decide +kernel
theorem dX8_words_35 : decode cX8_words 35 = .ok (.iconst 1, 1) := by decide +kernel
theorem dX8_words_36 : decode cX8_words 36 = .ok (.iload_n 1, 1) := by decide +kernel
theorem dX8_words_37 : decode cX8_words 37 = .ok (.ishl, 1) := by decide +kernel
theorem dX8_words_38 : decode cX8_words 38 = .ok (.if_icmp .ge 43, 3) := by decide +kernel
theorem dX8_words_41 : decode cX8_words 41 = .ok (.iload 6, 2) := by decide +kernel
theorem dX8_words_43 : decode cX8_words 43 = .ok (.iload_n 1, 1) := by decide +kernel
theorem dX8_words_44 : decode cX8_words 44 = .ok (.invokestatic 253, 3) := by decide +kernel
theorem dX8_words_47 : decode cX8_words 47 = .ok (.iload_n 1, 1) := by decide +kernel
theorem dX8_words_48 : decode cX8_words 48 = .ok (.iconst 1, 1) := by decide +kernel
theorem dX8_words_49 : decode cX8_words 49 = .ok (.iadd, 1) := by decide +kernel
theorem dX8_words_50 : decode cX8_words 50 = .ok (.irem, 1) := by decide +kernel
theorem dX8_words_51 : decode cX8_words 51 = .ok (.iload_n 2, 1) := by decide +kernel
theorem dX8_words_52 : decode cX8_words 52 = .ok (.if_icmp .ne 23, 3) := by decide +kernel
theorem dX8_words_55 : decode cX8_words 55 = .ok (.iload_n 3, 1) := by decide +kernel
theorem dX8_words_56 : decode cX8_words 56 = .ok (.ifCond .ne 8, 3) := by decide +kernel
theorem dX8_words_59 : decode cX8_words 59 = .ok (.iload 6, 2) := by decide +kernel
theorem dX8_words_61 : decode cX8_words 61 = .ok (.goto 5, 3) := by decide +kernel
theorem dX8_words_64 : decode cX8_words 64 = .ok (.iload 4, 2) := by decide +kernel
theorem dX8_words_66 : decode cX8_words 66 = .ok (.istore 4, 2) := by decide +kernel
theorem dX8_words_68 : decode cX8_words 68 = .ok (.iload 6, 2) := by decide +kernel
theorem dX8_words_70 : decode cX8_words 70 = .ok (.istore 5, 2) := by decide +kernel
theorem dX8_words_72 : decode cX8_words 72 = .ok (.iinc 3 1, 3) := by decide +kernel
theorem dX8_words_75 : decode cX8_words 75 = .ok (.iinc 6 1, 3) := by decide +kernel
theorem dX8_words_78 : decode cX8_words 78 = .ok (.goto (-45), 3) := by decide +kernel
theorem dX8_words_81 : decode cX8_words 81 = .ok (.aload_n 0, 1) := by decide +kernel
theorem dX8_words_82 : decode cX8_words 82 = .ok (.getfield 32, 3) := by decide +kernel
theorem dX8_words_85 : decode cX8_words 85 = .ok (.invokevirtual 222, 3) := by decide +kernel
theorem dX8_words_88 : decode cX8_words 88 = .ok (.iload_n 3, 1) := by decide +kernel
theorem dX8_words_89 : decode cX8_words 89 = .ok (.ifCond .le 16, 3) := by decide +kernel
theorem dX8_words_92 : decode cX8_words 92 = .ok (.aload_n 0, 1) := by decide +kernel
theorem dX8_words_93 : decode cX8_words 93 = .ok (.getfield 32, 3) := by decide +kernel
theorem dX8_words_96 : decode cX8_words 96 = .ok (.iload 4, 2) := by decide +kernel
theorem dX8_words_98 : decode cX8_words 98 = .ok (.i2l, 1) := by decide +kernel
theorem dX8_words_99 : decode cX8_words 99 = .ok (.iload 5, 2) := by decide +kernel
theorem dX8_words_101 : decode cX8_words 101 = .ok (.i2l, 1) := by decide +kernel
theorem dX8_words_102 : decode cX8_words 102 = .ok (.invokevirtual 194, 3) := by decide +kernel
theorem dX8_words_105 : decode cX8_words 105 = .ok (.iload_n 3, 1) := by decide +kernel
theorem dX8_words_106 : decode cX8_words 106 = .ok (.ireturn, 1) := by decide +kernel
theorem dX8_loose_0 : decode cX8_loose 0 = .ok (.aload_n 0, 1) := by decide +kernel
theorem dX8_loose_1 : decode cX8_loose 1 = .ok (.getfield 10, 3) := by decide +kernel
theorem dX8_loose_4 : decode cX8_loose 4 = .ok (.aload_n 0, 1) := by decide +kernel
theorem dX8_loose_5 : decode cX8_loose 5 = .ok (.getfield 10, 3) := by decide +kernel
theorem dX8_loose_8 : decode cX8_loose 8 = .ok (.invokevirtual 256, 3) := by decide +kernel
theorem dX8_loose_11 : decode cX8_loose 11 = .ok (.invokevirtual 259, 3) := by decide +kernel
theorem dX8_loose_14 : decode cX8_loose 14 = .ok (.istore_n 1, 1) := by decide +kernel
theorem dX8_loose_15 : decode cX8_loose 15 = .ok (.aload_n 0, 1) := by decide +kernel
theorem dX8_loose_16 : decode cX8_loose 16 = .ok (.getfield 32, 3) := by decide +kernel
theorem dX8_loose_19 : decode cX8_loose 19 = .ok (.iload_n 1, 1) := by decide +kernel
theorem dX8_loose_20 : decode cX8_loose 20 = .ok (.bipush 63, 2) := by decide +kernel
theorem dX8_loose_22 : decode cX8_loose 22 = .ok (.iand, 1) := by decide +kernel
theorem dX8_loose_23 : decode cX8_loose 23 = .ok (.invokestatic 225, 3) := by decide +kernel
theorem dX8_loose_26 : decode cX8_loose 26 = .ok (.i2l, 1) := by decide +kernel
theorem dX8_loose_27 : decode cX8_loose 27 = .ok (.iload_n 1, 1) := by decide +kernel
theorem dX8_loose_28 : decode cX8_loose 28 = .ok (.bipush 6, 2) := by decide +kernel
theorem dX8_loose_30 : decode cX8_loose 30 = .ok (.iushr, 1) := by decide +kernel
theorem dX8_loose_31 : decode cX8_loose 31 = .ok (.invokestatic 225, 3) := by decide +kernel
theorem dX8_loose_34 : decode cX8_loose 34 = .ok (.i2l, 1) := by decide +kernel
theorem dX8_loose_35 : decode cX8_loose 35 = .ok (.invokevirtual 194, 3) := by decide +kernel
theorem dX8_loose_38 : decode cX8_loose 38 = .ok (.iload_n 1, 1) := by decide +kernel
theorem dX8_loose_39 : decode cX8_loose 39 = .ok (.ireturn, 1) := by decide +kernel
theorem dX8_sheds_0 : decode cX8_sheds 0 = .ok (.aload_n 0, 1) := by decide +kernel
theorem dX8_sheds_1 : decode cX8_sheds 1 = .ok (.getfield 10, 3) := by decide +kernel
theorem dX8_sheds_4 : decode cX8_sheds 4 = .ok (.invokevirtual 256, 3) := by decide +kernel
theorem dX8_sheds_7 : decode cX8_sheds 7 = .ok (.istore_n 1, 1) := by decide +kernel
theorem dX8_sheds_8 : decode cX8_sheds 8 = .ok (.iconst 0, 1) := by decide +kernel
theorem dX8_sheds_9 : decode cX8_sheds 9 = .ok (.istore_n 2, 1) := by decide +kernel
theorem dX8_sheds_10 : decode cX8_sheds 10 = .ok (.aload_n 0, 1) := by decide +kernel
theorem dX8_sheds_11 : decode cX8_sheds 11 = .ok (.getfield 10, 3) := by decide +kernel
theorem dX8_sheds_14 : decode cX8_sheds 14 = .ok (.iload_n 1, 1) := by decide +kernel
theorem dX8_sheds_15 : decode cX8_sheds 15 = .ok (.invokevirtual 259, 3) := by decide +kernel
theorem dX8_sheds_18 : decode cX8_sheds 18 = .ok (.istore_n 3, 1) := by decide +kernel
theorem dX8_sheds_19 : decode cX8_sheds 19 = .ok (.iload_n 3, 1) := by decide +kernel
theorem dX8_sheds_20 : decode cX8_sheds 20 = .ok (.ifCond .eq 30, 3) := by decide +kernel
theorem dX8_sheds_23 : decode cX8_sheds 23 = .ok (.iload_n 2, 1) := by decide +kernel
theorem dX8_sheds_24 : decode cX8_sheds 24 = .ok (.bipush 12, 2) := by decide +kernel
theorem dX8_sheds_26 : decode cX8_sheds 26 = .ok (.if_icmp .gt 24, 3) := by decide +kernel
theorem dX8_sheds_29 : decode cX8_sheds 29 = .ok (.iload_n 1, 1) := by decide +kernel
theorem dX8_sheds_30 : decode cX8_sheds 30 = .ok (.iload_n 3, 1) := by decide +kernel
theorem dX8_sheds_31 : decode cX8_sheds 31 = .ok (.iconst (-1), 1) := by decide +kernel
theorem dX8_sheds_32 : decode cX8_sheds 32 = .ok (.ixor, 1) := by decide +kernel
theorem dX8_sheds_33 : decode cX8_sheds 33 = .ok (.iand, 1) := by decide +kernel
theorem dX8_sheds_34 : decode cX8_sheds 34 = .ok (.istore_n 1, 1) := by decide +kernel
theorem dX8_sheds_35 : decode cX8_sheds 35 = .ok (.iinc 2 1, 3) := by decide +kernel
theorem dX8_sheds_38 : decode cX8_sheds 38 = .ok (.aload_n 0, 1) := by decide +kernel
theorem dX8_sheds_39 : decode cX8_sheds 39 = .ok (.getfield 10, 3) := by decide +kernel
theorem dX8_sheds_42 : decode cX8_sheds 42 = .ok (.iload_n 1, 1) := by decide +kernel
theorem dX8_sheds_43 : decode cX8_sheds 43 = .ok (.invokevirtual 259, 3) := by decide +kernel
theorem dX8_sheds_46 : decode cX8_sheds 46 = .ok (.istore_n 3, 1) := by decide +kernel
theorem dX8_sheds_47 : decode cX8_sheds 47 = .ok (.goto (-28), 3) := by decide +kernel
theorem dX8_sheds_50 : decode cX8_sheds 50 = .ok (.aload_n 0, 1) := by decide +kernel
theorem dX8_sheds_51 : decode cX8_sheds 51 = .ok (.getfield 32, 3) := by decide +kernel
theorem dX8_sheds_54 : decode cX8_sheds 54 = .ok (.iload_n 1, 1) := by decide +kernel
theorem dX8_sheds_55 : decode cX8_sheds 55 = .ok (.i2l, 1) := by decide +kernel
theorem dX8_sheds_56 : decode cX8_sheds 56 = .ok (.iload_n 2, 1) := by decide +kernel
theorem dX8_sheds_57 : decode cX8_sheds 57 = .ok (.i2l, 1) := by decide +kernel
theorem dX8_sheds_58 : decode cX8_sheds 58 = .ok (.invokevirtual 194, 3) := by decide +kernel
theorem dX8_sheds_61 : decode cX8_sheds 61 = .ok (.iload_n 1, 1) := by decide +kernel
theorem dX8_sheds_62 : decode cX8_sheds 62 = .ok (.invokestatic 225, 3) := by decide +kernel
theorem dX8_sheds_65 : decode cX8_sheds 65 = .ok (.ireturn, 1) := by decide +kernel
theorem dX8_hangs_0 : decode cX8_hangs 0 = .ok (.aload_n 0, 1) := by decide +kernel
theorem dX8_hangs_1 : decode cX8_hangs 1 = .ok (.getfield 10, 3) := by decide +kernel
theorem dX8_hangs_4 : decode cX8_hangs 4 = .ok (.invokevirtual 256, 3) := by decide +kernel
theorem dX8_hangs_7 : decode cX8_hangs 7 = .ok (.istore_n 1, 1) := by decide +kernel
theorem dX8_hangs_8 : decode cX8_hangs 8 = .ok (.aload_n 0, 1) := by decide +kernel
theorem dX8_hangs_9 : decode cX8_hangs 9 = .ok (.getfield 49, 3) := by decide +kernel
theorem dX8_hangs_12 : decode cX8_hangs 12 = .ok (.aload_n 0, 1) := by decide +kernel
theorem dX8_hangs_13 : decode cX8_hangs 13 = .ok (.getfield 10, 3) := by decide +kernel
theorem dX8_hangs_16 : decode cX8_hangs 16 = .ok (.invokevirtual 262, 3) := by decide +kernel
theorem dX8_hangs_19 : decode cX8_hangs 19 = .ok (.iload_n 1, 1) := by decide +kernel
theorem dX8_hangs_20 : decode cX8_hangs 20 = .ok (.istore_n 2, 1) := by decide +kernel
theorem dX8_hangs_21 : decode cX8_hangs 21 = .ok (.iconst 0, 1) := by decide +kernel
theorem dX8_hangs_22 : decode cX8_hangs 22 = .ok (.istore_n 3, 1) := by decide +kernel
theorem dX8_hangs_23 : decode cX8_hangs 23 = .ok (.iconst 0, 1) := by decide +kernel
theorem dX8_hangs_24 : decode cX8_hangs 24 = .ok (.istore 4, 2) := by decide +kernel
theorem dX8_hangs_26 : decode cX8_hangs 26 = .ok (.iconst 0, 1) := by decide +kernel
theorem dX8_hangs_27 : decode cX8_hangs 27 = .ok (.istore 5, 2) := by decide +kernel
theorem dX8_hangs_29 : decode cX8_hangs 29 = .ok (.iload 5, 2) := by decide +kernel
theorem dX8_hangs_31 : decode cX8_hangs 31 = .ok (.bipush 12, 2) := by decide +kernel
theorem dX8_hangs_33 : decode cX8_hangs 33 = .ok (.if_icmp .ge 77, 3) := by decide +kernel
theorem dX8_hangs_36 : decode cX8_hangs 36 = .ok (.iload_n 2, 1) := by decide +kernel
theorem dX8_hangs_37 : decode cX8_hangs 37 = .ok (.ifCond .eq 73, 3) := by decide +kernel
theorem dX8_hangs_40 : decode cX8_hangs 40 = .ok (.iload_n 2, 1) := by decide +kernel
theorem dX8_hangs_41 : decode cX8_hangs 41 = .ok (.iload_n 2, 1) := by decide +kernel
theorem dX8_hangs_42 : decode cX8_hangs 42 = .ok (.ineg, 1) := by decide +kernel
theorem dX8_hangs_43 : decode cX8_hangs 43 = .ok (.iand, 1) := by decide +kernel
theorem dX8_hangs_44 : decode cX8_hangs 44 = .ok (.istore 6, 2) := by decide +kernel
theorem dX8_hangs_46 : decode cX8_hangs 46 = .ok (.iload 6, 2) := by decide +kernel
theorem dX8_hangs_48 : decode cX8_hangs 48 = .ok (.iload_n 1, 1) := by decide +kernel
theorem dX8_hangs_49 : decode cX8_hangs 49 = .ok (.aload_n 0, 1) := by decide +kernel
theorem dX8_hangs_50 : decode cX8_hangs 50 = .ok (.getfield 49, 3) := by decide +kernel
theorem dX8_hangs_53 : decode cX8_hangs 53 = .ok (.getfield 265, 3) := by decide +kernel
theorem dX8_hangs_56 : decode cX8_hangs 56 = .ok (.invokestatic 269, 3) := by decide +kernel
theorem dX8_hangs_59 : decode cX8_hangs 59 = .ok (.istore 7, 2) := by decide +kernel
theorem dX8_hangs_61 : decode cX8_hangs 61 = .ok (.iload 7, 2) := by decide +kernel
theorem dX8_hangs_63 : decode cX8_hangs 63 = .ok (.iload 6, 2) := by decide +kernel
theorem dX8_hangs_65 : decode cX8_hangs 65 = .ok (.iload_n 1, 1) := by decide +kernel
theorem dX8_hangs_66 : decode cX8_hangs 66 = .ok (.aload_n 0, 1) := by decide +kernel
theorem dX8_hangs_67 : decode cX8_hangs 67 = .ok (.getfield 49, 3) := by decide +kernel
theorem dX8_hangs_70 : decode cX8_hangs 70 = .ok (.getfield 273, 3) := by decide +kernel
theorem dX8_hangs_73 : decode cX8_hangs 73 = .ok (.invokestatic 269, 3) := by decide +kernel
theorem dX8_hangs_76 : decode cX8_hangs 76 = .ok (.iand, 1) := by decide +kernel
theorem dX8_hangs_77 : decode cX8_hangs 77 = .ok (.istore 8, 2) := by decide +kernel
theorem dX8_hangs_79 : decode cX8_hangs 79 = .ok (.iinc 3 1, 3) := by decide +kernel
theorem dX8_hangs_82 : decode cX8_hangs 82 = .ok (.iload 7, 2) := by decide +kernel
theorem dX8_hangs_84 : decode cX8_hangs 84 = .ok (.iload_n 1, 1) := by decide +kernel
theorem dX8_hangs_85 : decode cX8_hangs 85 = .ok (.if_icmp .ne 8, 3) := by decide +kernel
theorem dX8_hangs_88 : decode cX8_hangs 88 = .ok (.iload 8, 2) := by decide +kernel
theorem dX8_hangs_90 : decode cX8_hangs 90 = .ok (.goto 5, 3) := by decide +kernel
theorem dX8_hangs_93 : decode cX8_hangs 93 = .ok (.iload 4, 2) := by decide +kernel
theorem dX8_hangs_95 : decode cX8_hangs 95 = .ok (.istore 4, 2) := by decide +kernel
theorem dX8_hangs_97 : decode cX8_hangs 97 = .ok (.iload_n 2, 1) := by decide +kernel
theorem dX8_hangs_98 : decode cX8_hangs 98 = .ok (.iload 8, 2) := by decide +kernel
theorem dX8_hangs_100 : decode cX8_hangs 100 = .ok (.iconst (-1), 1) := by decide +kernel
theorem dX8_hangs_101 : decode cX8_hangs 101 = .ok (.ixor, 1) := by decide +kernel
theorem dX8_hangs_102 : decode cX8_hangs 102 = .ok (.iand, 1) := by decide +kernel
theorem dX8_hangs_103 : decode cX8_hangs 103 = .ok (.istore_n 2, 1) := by decide +kernel
theorem dX8_hangs_104 : decode cX8_hangs 104 = .ok (.iinc 5 1, 3) := by decide +kernel
theorem dX8_hangs_107 : decode cX8_hangs 107 = .ok (.goto (-78), 3) := by decide +kernel
theorem dX8_hangs_110 : decode cX8_hangs 110 = .ok (.aload_n 0, 1) := by decide +kernel
theorem dX8_hangs_111 : decode cX8_hangs 111 = .ok (.getfield 32, 3) := by decide +kernel
theorem dX8_hangs_114 : decode cX8_hangs 114 = .ok (.iload_n 3, 1) := by decide +kernel
theorem dX8_hangs_115 : decode cX8_hangs 115 = .ok (.i2l, 1) := by decide +kernel
theorem dX8_hangs_116 : decode cX8_hangs 116 = .ok (.iload 4, 2) := by decide +kernel
theorem dX8_hangs_118 : decode cX8_hangs 118 = .ok (.i2l, 1) := by decide +kernel
theorem dX8_hangs_119 : decode cX8_hangs 119 = .ok (.invokevirtual 194, 3) := by decide +kernel
theorem dX8_hangs_122 : decode cX8_hangs 122 = .ok (.iload_n 3, 1) := by decide +kernel
theorem dX8_hangs_123 : decode cX8_hangs 123 = .ok (.iconst 1, 1) := by decide +kernel
theorem dX8_hangs_124 : decode cX8_hangs 124 = .ok (.if_icmp .ne 7, 3) := by decide +kernel
theorem dX8_hangs_127 : decode cX8_hangs 127 = .ok (.iconst 1, 1) := by decide +kernel
theorem dX8_hangs_128 : decode cX8_hangs 128 = .ok (.goto 4, 3) := by decide +kernel
theorem dX8_hangs_131 : decode cX8_hangs 131 = .ok (.iconst 0, 1) := by decide +kernel
theorem dX8_hangs_132 : decode cX8_hangs 132 = .ok (.ireturn, 1) := by decide +kernel
theorem dX8_spares_0 : decode cX8_spares 0 = .ok (.aload_n 0, 1) := by decide +kernel
theorem dX8_spares_1 : decode cX8_spares 1 = .ok (.getfield 10, 3) := by decide +kernel
theorem dX8_spares_4 : decode cX8_spares 4 = .ok (.invokevirtual 256, 3) := by decide +kernel
theorem dX8_spares_7 : decode cX8_spares 7 = .ok (.istore_n 1, 1) := by decide +kernel
theorem dX8_spares_8 : decode cX8_spares 8 = .ok (.iconst 0, 1) := by decide +kernel
theorem dX8_spares_9 : decode cX8_spares 9 = .ok (.istore_n 2, 1) := by decide +kernel
theorem dX8_spares_10 : decode cX8_spares 10 = .ok (.aload_n 0, 1) := by decide +kernel
theorem dX8_spares_11 : decode cX8_spares 11 = .ok (.getfield 49, 3) := by decide +kernel
theorem dX8_spares_14 : decode cX8_spares 14 = .ok (.aload_n 0, 1) := by decide +kernel
theorem dX8_spares_15 : decode cX8_spares 15 = .ok (.getfield 10, 3) := by decide +kernel
theorem dX8_spares_18 : decode cX8_spares 18 = .ok (.invokevirtual 262, 3) := by decide +kernel
theorem dX8_spares_21 : decode cX8_spares 21 = .ok (.iconst 0, 1) := by decide +kernel
theorem dX8_spares_22 : decode cX8_spares 22 = .ok (.istore_n 3, 1) := by decide +kernel
theorem dX8_spares_23 : decode cX8_spares 23 = .ok (.iload_n 3, 1) := by decide +kernel
theorem dX8_spares_24 : decode cX8_spares 24 = .ok (.bipush 12, 2) := by decide +kernel
theorem dX8_spares_26 : decode cX8_spares 26 = .ok (.if_icmp .ge 40, 3) := by decide +kernel
theorem dX8_spares_29 : decode cX8_spares 29 = .ok (.iconst 1, 1) := by decide +kernel
theorem dX8_spares_30 : decode cX8_spares 30 = .ok (.iload_n 3, 1) := by decide +kernel
theorem dX8_spares_31 : decode cX8_spares 31 = .ok (.ishl, 1) := by decide +kernel
theorem dX8_spares_32 : decode cX8_spares 32 = .ok (.istore 4, 2) := by decide +kernel
theorem dX8_spares_34 : decode cX8_spares 34 = .ok (.iload_n 1, 1) := by decide +kernel
theorem dX8_spares_35 : decode cX8_spares 35 = .ok (.iload 4, 2) := by decide +kernel
theorem dX8_spares_37 : decode cX8_spares 37 = .ok (.iand, 1) := by decide +kernel
theorem dX8_spares_38 : decode cX8_spares 38 = .ok (.ifCond .eq 22, 3) := by decide +kernel
theorem dX8_spares_41 : decode cX8_spares 41 = .ok (.aload_n 0, 1) := by decide +kernel
theorem dX8_spares_42 : decode cX8_spares 42 = .ok (.getfield 49, 3) := by decide +kernel
theorem dX8_spares_45 : decode cX8_spares 45 = .ok (.iload_n 1, 1) := by decide +kernel
theorem dX8_spares_46 : decode cX8_spares 46 = .ok (.iload 4, 2) := by decide +kernel
theorem dX8_spares_48 : decode cX8_spares 48 = .ok (.ixor, 1) := by decide +kernel
theorem dX8_spares_49 : decode cX8_spares 49 = .ok (.invokevirtual 276, 3) := by decide +kernel
theorem dX8_spares_52 : decode cX8_spares 52 = .ok (.ifCond .eq 8, 3) := by decide +kernel
theorem dX8_spares_55 : decode cX8_spares 55 = .ok (.iload_n 2, 1) := by decide +kernel
theorem dX8_spares_56 : decode cX8_spares 56 = .ok (.iload 4, 2) := by decide +kernel
theorem dX8_spares_58 : decode cX8_spares 58 = .ok (.ior, 1) := by decide +kernel
theorem dX8_spares_59 : decode cX8_spares 59 = .ok (.istore_n 2, 1) := by decide +kernel
theorem dX8_spares_60 : decode cX8_spares 60 = .ok (.iinc 3 1, 3) := by decide +kernel
theorem dX8_spares_63 : decode cX8_spares 63 = .ok (.goto (-40), 3) := by decide +kernel
theorem dX8_spares_66 : decode cX8_spares 66 = .ok (.aload_n 0, 1) := by decide +kernel
theorem dX8_spares_67 : decode cX8_spares 67 = .ok (.getfield 32, 3) := by decide +kernel
theorem dX8_spares_70 : decode cX8_spares 70 = .ok (.iload_n 2, 1) := by decide +kernel
theorem dX8_spares_71 : decode cX8_spares 71 = .ok (.invokestatic 225, 3) := by decide +kernel
theorem dX8_spares_74 : decode cX8_spares 74 = .ok (.i2l, 1) := by decide +kernel
theorem dX8_spares_75 : decode cX8_spares 75 = .ok (.invokevirtual 207, 3) := by decide +kernel
theorem dX8_spares_78 : decode cX8_spares 78 = .ok (.iload_n 2, 1) := by decide +kernel
theorem dX8_spares_79 : decode cX8_spares 79 = .ok (.ireturn, 1) := by decide +kernel
theorem dX8_mends_0 : decode cX8_mends 0 = .ok (.aload_n 0, 1) := by decide +kernel
theorem dX8_mends_1 : decode cX8_mends 1 = .ok (.getfield 10, 3) := by decide +kernel
theorem dX8_mends_4 : decode cX8_mends 4 = .ok (.invokevirtual 256, 3) := by decide +kernel
theorem dX8_mends_7 : decode cX8_mends 7 = .ok (.istore_n 1, 1) := by decide +kernel
theorem dX8_mends_8 : decode cX8_mends 8 = .ok (.aload_n 0, 1) := by decide +kernel
theorem dX8_mends_9 : decode cX8_mends 9 = .ok (.getfield 49, 3) := by decide +kernel
theorem dX8_mends_12 : decode cX8_mends 12 = .ok (.aload_n 0, 1) := by decide +kernel
theorem dX8_mends_13 : decode cX8_mends 13 = .ok (.getfield 10, 3) := by decide +kernel
theorem dX8_mends_16 : decode cX8_mends 16 = .ok (.invokevirtual 262, 3) := by decide +kernel
theorem dX8_mends_19 : decode cX8_mends 19 = .ok (.aload_n 0, 1) := by decide +kernel
theorem dX8_mends_20 : decode cX8_mends 20 = .ok (.getfield 49, 3) := by decide +kernel
theorem dX8_mends_23 : decode cX8_mends 23 = .ok (.iload_n 1, 1) := by decide +kernel
theorem dX8_mends_24 : decode cX8_mends 24 = .ok (.invokevirtual 276, 3) := by decide +kernel
theorem dX8_mends_27 : decode cX8_mends 27 = .ok (.ifCond .eq 12, 3) := by decide +kernel
theorem dX8_mends_30 : decode cX8_mends 30 = .ok (.aload_n 0, 1) := by decide +kernel
theorem dX8_mends_31 : decode cX8_mends 31 = .ok (.getfield 32, 3) := by decide +kernel
theorem dX8_mends_34 : decode cX8_mends 34 = .ok (.invokevirtual 222, 3) := by decide +kernel
theorem dX8_mends_37 : decode cX8_mends 37 = .ok (.iconst 0, 1) := by decide +kernel
theorem dX8_mends_38 : decode cX8_mends 38 = .ok (.ireturn, 1) := by decide +kernel
theorem dX8_mends_39 : decode cX8_mends 39 = .ok (.aload_n 0, 1) := by decide +kernel
theorem dX8_mends_40 : decode cX8_mends 40 = .ok (.iconst 0, 1) := by decide +kernel
theorem dX8_mends_41 : decode cX8_mends 41 = .ok (.iload_n 1, 1) := by decide +kernel
theorem dX8_mends_42 : decode cX8_mends 42 = .ok (.invokevirtual 279, 3) := by decide +kernel
theorem dX8_mends_45 : decode cX8_mends 45 = .ok (.istore_n 2, 1) := by decide +kernel
theorem dX8_mends_46 : decode cX8_mends 46 = .ok (.iload_n 2, 1) := by decide +kernel
theorem dX8_mends_47 : decode cX8_mends 47 = .ok (.iconst (-1), 1) := by decide +kernel
theorem dX8_mends_48 : decode cX8_mends 48 = .ok (.if_icmp .eq 14, 3) := by decide +kernel
theorem dX8_mends_51 : decode cX8_mends 51 = .ok (.aload_n 0, 1) := by decide +kernel
theorem dX8_mends_52 : decode cX8_mends 52 = .ok (.getfield 32, 3) := by decide +kernel
theorem dX8_mends_55 : decode cX8_mends 55 = .ok (.iload_n 2, 1) := by decide +kernel
theorem dX8_mends_56 : decode cX8_mends 56 = .ok (.i2l, 1) := by decide +kernel
theorem dX8_mends_57 : decode cX8_mends 57 = .ok (.invokevirtual 207, 3) := by decide +kernel
theorem dX8_mends_60 : decode cX8_mends 60 = .ok (.iconst 1, 1) := by decide +kernel
theorem dX8_mends_61 : decode cX8_mends 61 = .ok (.ireturn, 1) := by decide +kernel
theorem dX8_mends_62 : decode cX8_mends 62 = .ok (.iconst 0, 1) := by decide +kernel
theorem dX8_mends_63 : decode cX8_mends 63 = .ok (.istore_n 3, 1) := by decide +kernel
theorem dX8_mends_64 : decode cX8_mends 64 = .ok (.iload_n 3, 1) := by decide +kernel
theorem dX8_mends_65 : decode cX8_mends 65 = .ok (.bipush 6, 2) := by decide +kernel
theorem dX8_mends_67 : decode cX8_mends 67 = .ok (.aload_n 0, 1) := by decide +kernel
theorem dX8_mends_68 : decode cX8_mends 68 = .ok (.getfield 10, 3) := by decide +kernel
theorem dX8_mends_71 : decode cX8_mends 71 = .ok (.getfield 100, 3) := by decide +kernel
theorem dX8_mends_74 : decode cX8_mends 74 = .ok (.imul, 1) := by decide +kernel
theorem dX8_mends_75 : decode cX8_mends 75 = .ok (.if_icmp .ge 87, 3) := by decide +kernel
theorem dX8_mends_78 : decode cX8_mends 78 = .ok (.aload_n 0, 1) := by decide +kernel
theorem dX8_mends_79 : decode cX8_mends 79 = .ok (.getfield 10, 3) := by decide +kernel
theorem dX8_mends_82 : decode cX8_mends 82 = .ok (.iload_n 3, 1) := by decide +kernel
theorem dX8_mends_83 : decode cX8_mends 83 = .ok (.bipush 6, 2) := by decide +kernel
theorem dX8_mends_85 : decode cX8_mends 85 = .ok (.idiv, 1) := by decide +kernel
theorem dX8_mends_86 : decode cX8_mends 86 = .ok (.iload_n 3, 1) := by decide +kernel
theorem dX8_mends_87 : decode cX8_mends 87 = .ok (.bipush 6, 2) := by decide +kernel
theorem dX8_mends_89 : decode cX8_mends 89 = .ok (.irem, 1) := by decide +kernel
theorem dX8_mends_90 : decode cX8_mends 90 = .ok (.invokevirtual 107, 3) := by decide +kernel
theorem dX8_mends_93 : decode cX8_mends 93 = .ok (.ifCond .eq 63, 3) := by decide +kernel
theorem dX8_mends_96 : decode cX8_mends 96 = .ok (.aload_n 0, 1) := by decide +kernel
theorem dX8_mends_97 : decode cX8_mends 97 = .ok (.getfield 49, 3) := by decide +kernel
theorem dX8_mends_100 : decode cX8_mends 100 = .ok (.iload_n 3, 1) := by decide +kernel
theorem dX8_mends_101 : decode cX8_mends 101 = .ok (.bipush 6, 2) := by decide +kernel
theorem dX8_mends_103 : decode cX8_mends 103 = .ok (.idiv, 1) := by decide +kernel
theorem dX8_mends_104 : decode cX8_mends 104 = .ok (.iload_n 3, 1) := by decide +kernel
theorem dX8_mends_105 : decode cX8_mends 105 = .ok (.bipush 6, 2) := by decide +kernel
theorem dX8_mends_107 : decode cX8_mends 107 = .ok (.irem, 1) := by decide +kernel
theorem dX8_mends_108 : decode cX8_mends 108 = .ok (.invokevirtual 282, 3) := by decide +kernel
theorem dX8_mends_111 : decode cX8_mends 111 = .ok (.aload_n 0, 1) := by decide +kernel
theorem dX8_mends_112 : decode cX8_mends 112 = .ok (.iload_n 3, 1) := by decide +kernel
theorem dX8_mends_113 : decode cX8_mends 113 = .ok (.iconst 1, 1) := by decide +kernel
theorem dX8_mends_114 : decode cX8_mends 114 = .ok (.iadd, 1) := by decide +kernel
theorem dX8_mends_115 : decode cX8_mends 115 = .ok (.iload_n 1, 1) := by decide +kernel
theorem dX8_mends_116 : decode cX8_mends 116 = .ok (.invokevirtual 279, 3) := by decide +kernel
theorem dX8_mends_119 : decode cX8_mends 119 = .ok (.istore 4, 2) := by decide +kernel
theorem dX8_mends_121 : decode cX8_mends 121 = .ok (.aload_n 0, 1) := by decide +kernel
theorem dX8_mends_122 : decode cX8_mends 122 = .ok (.getfield 49, 3) := by decide +kernel
theorem dX8_mends_125 : decode cX8_mends 125 = .ok (.iload_n 3, 1) := by decide +kernel
theorem dX8_mends_126 : decode cX8_mends 126 = .ok (.bipush 6, 2) := by decide +kernel
theorem dX8_mends_128 : decode cX8_mends 128 = .ok (.idiv, 1) := by decide +kernel
theorem dX8_mends_129 : decode cX8_mends 129 = .ok (.iload_n 3, 1) := by decide +kernel
theorem dX8_mends_130 : decode cX8_mends 130 = .ok (.bipush 6, 2) := by decide +kernel
theorem dX8_mends_132 : decode cX8_mends 132 = .ok (.irem, 1) := by decide +kernel
theorem dX8_mends_133 : decode cX8_mends 133 = .ok (.invokevirtual 282, 3) := by decide +kernel
theorem dX8_mends_136 : decode cX8_mends 136 = .ok (.iload 4, 2) := by decide +kernel
theorem dX8_mends_138 : decode cX8_mends 138 = .ok (.iconst (-1), 1) := by decide +kernel
theorem dX8_mends_139 : decode cX8_mends 139 = .ok (.if_icmp .eq 17, 3) := by decide +kernel
theorem dX8_mends_142 : decode cX8_mends 142 = .ok (.aload_n 0, 1) := by decide +kernel
theorem dX8_mends_143 : decode cX8_mends 143 = .ok (.getfield 32, 3) := by decide +kernel
theorem dX8_mends_146 : decode cX8_mends 146 = .ok (.iload_n 3, 1) := by decide +kernel
theorem dX8_mends_147 : decode cX8_mends 147 = .ok (.i2l, 1) := by decide +kernel
theorem dX8_mends_148 : decode cX8_mends 148 = .ok (.iload 4, 2) := by decide +kernel
theorem dX8_mends_150 : decode cX8_mends 150 = .ok (.i2l, 1) := by decide +kernel
theorem dX8_mends_151 : decode cX8_mends 151 = .ok (.invokevirtual 194, 3) := by decide +kernel
theorem dX8_mends_154 : decode cX8_mends 154 = .ok (.iconst 2, 1) := by decide +kernel
theorem dX8_mends_155 : decode cX8_mends 155 = .ok (.ireturn, 1) := by decide +kernel
theorem dX8_mends_156 : decode cX8_mends 156 = .ok (.iinc 3 1, 3) := by decide +kernel
theorem dX8_mends_159 : decode cX8_mends 159 = .ok (.goto (-95), 3) := by decide +kernel
theorem dX8_mends_162 : decode cX8_mends 162 = .ok (.bipush (-2), 2) := by decide +kernel
theorem dX8_mends_164 : decode cX8_mends 164 = .ok (.ireturn, 1) := by decide +kernel
theorem dX8_endures_0 : decode cX8_endures 0 = .ok (.aload_n 0, 1) := by decide +kernel
theorem dX8_endures_1 : decode cX8_endures 1 = .ok (.getfield 49, 3) := by decide +kernel
theorem dX8_endures_4 : decode cX8_endures 4 = .ok (.aload_n 0, 1) := by decide +kernel
theorem dX8_endures_5 : decode cX8_endures 5 = .ok (.getfield 10, 3) := by decide +kernel
theorem dX8_endures_8 : decode cX8_endures 8 = .ok (.invokevirtual 286, 3) := by decide +kernel
theorem dX8_endures_11 : decode cX8_endures 11 = .ok (.aload_n 0, 1) := by decide +kernel
theorem dX8_endures_12 : decode cX8_endures 12 = .ok (.getfield 10, 3) := by decide +kernel
theorem dX8_endures_15 : decode cX8_endures 15 = .ok (.invokevirtual 256, 3) := by decide +kernel
theorem dX8_endures_18 : decode cX8_endures 18 = .ok (.istore_n 1, 1) := by decide +kernel
theorem dX8_endures_19 : decode cX8_endures 19 = .ok (.bipush 13, 2) := by decide +kernel
theorem dX8_endures_21 : decode cX8_endures 21 = .ok (.istore_n 2, 1) := by decide +kernel
theorem dX8_endures_22 : decode cX8_endures 22 = .ok (.iconst 0, 1) := by decide +kernel
theorem dX8_endures_23 : decode cX8_endures 23 = .ok (.istore_n 3, 1) := by decide +kernel
theorem dX8_endures_24 : decode cX8_endures 24 = .ok (.iconst 0, 1) := by decide +kernel
theorem dX8_endures_25 : decode cX8_endures 25 = .ok (.istore 4, 2) := by decide +kernel
theorem dX8_endures_27 : decode cX8_endures 27 = .ok (.iconst 0, 1) := by decide +kernel
theorem dX8_endures_28 : decode cX8_endures 28 = .ok (.istore 5, 2) := by decide +kernel
theorem dX8_endures_30 : decode cX8_endures 30 = .ok (.iload 5, 2) := by decide +kernel
theorem dX8_endures_32 : decode cX8_endures 32 = .ok (.sipush 4096, 3) := by decide +kernel
theorem dX8_endures_35 : decode cX8_endures 35 = .ok (.if_icmp .ge 61, 3) := by decide +kernel
theorem dX8_endures_38 : decode cX8_endures 38 = .ok (.iload 4, 2) := by decide +kernel
theorem dX8_endures_40 : decode cX8_endures 40 = .ok (.invokestatic 225, 3) := by decide +kernel
theorem dX8_endures_43 : decode cX8_endures 43 = .ok (.istore 6, 2) := by decide +kernel
theorem dX8_endures_45 : decode cX8_endures 45 = .ok (.iload 6, 2) := by decide +kernel
theorem dX8_endures_47 : decode cX8_endures 47 = .ok (.iload_n 2, 1) := by decide +kernel
theorem dX8_endures_48 : decode cX8_endures 48 = .ok (.if_icmp .ge 26, 3) := by decide +kernel
theorem dX8_endures_51 : decode cX8_endures 51 = .ok (.aload_n 0, 1) := by decide +kernel
theorem dX8_endures_52 : decode cX8_endures 52 = .ok (.getfield 49, 3) := by decide +kernel
theorem dX8_endures_55 : decode cX8_endures 55 = .ok (.getfield 289, 3) := by decide +kernel
theorem dX8_endures_58 : decode cX8_endures 58 = .ok (.iload_n 1, 1) := by decide +kernel
theorem dX8_endures_59 : decode cX8_endures 59 = .ok (.iload 4, 2) := by decide +kernel
theorem dX8_endures_61 : decode cX8_endures 61 = .ok (.ixor, 1) := by decide +kernel
theorem dX8_endures_62 : decode cX8_endures 62 = .ok (.invokestatic 293, 3) := by decide +kernel
theorem dX8_endures_65 : decode cX8_endures 65 = .ok (.ifCond .ne 9, 3) := by decide +kernel
theorem dX8_endures_68 : decode cX8_endures 68 = .ok (.iload 6, 2) := by decide +kernel
theorem dX8_endures_70 : decode cX8_endures 70 = .ok (.istore_n 2, 1) := by decide +kernel
theorem dX8_endures_71 : decode cX8_endures 71 = .ok (.iload 4, 2) := by decide +kernel
theorem dX8_endures_73 : decode cX8_endures 73 = .ok (.istore_n 3, 1) := by decide +kernel
theorem dX8_endures_74 : decode cX8_endures 74 = .ok (.iload 4, 2) := by decide +kernel
theorem dX8_endures_76 : decode cX8_endures 76 = .ok (.iload_n 1, 1) := by decide +kernel
theorem dX8_endures_77 : decode cX8_endures 77 = .ok (.isub, 1) := by decide +kernel
theorem dX8_endures_78 : decode cX8_endures 78 = .ok (.iload_n 1, 1) := by decide +kernel
theorem dX8_endures_79 : decode cX8_endures 79 = .ok (.iand, 1) := by decide +kernel
theorem dX8_endures_80 : decode cX8_endures 80 = .ok (.istore 4, 2) := by decide +kernel
theorem dX8_endures_82 : decode cX8_endures 82 = .ok (.iload 4, 2) := by decide +kernel
theorem dX8_endures_84 : decode cX8_endures 84 = .ok (.ifCond .ne 6, 3) := by decide +kernel
theorem dX8_endures_87 : decode cX8_endures 87 = .ok (.goto 9, 3) := by decide +kernel
theorem dX8_endures_90 : decode cX8_endures 90 = .ok (.iinc 5 1, 3) := by decide +kernel
theorem dX8_endures_93 : decode cX8_endures 93 = .ok (.goto (-63), 3) := by decide +kernel
theorem dX8_endures_96 : decode cX8_endures 96 = .ok (.aload_n 0, 1) := by decide +kernel
theorem dX8_endures_97 : decode cX8_endures 97 = .ok (.getfield 32, 3) := by decide +kernel
theorem dX8_endures_100 : decode cX8_endures 100 = .ok (.iload_n 3, 1) := by decide +kernel
theorem dX8_endures_101 : decode cX8_endures 101 = .ok (.i2l, 1) := by decide +kernel
theorem dX8_endures_102 : decode cX8_endures 102 = .ok (.aload_n 0, 1) := by decide +kernel
theorem dX8_endures_103 : decode cX8_endures 103 = .ok (.getfield 49, 3) := by decide +kernel
theorem dX8_endures_106 : decode cX8_endures 106 = .ok (.iload_n 1, 1) := by decide +kernel
theorem dX8_endures_107 : decode cX8_endures 107 = .ok (.invokevirtual 297, 3) := by decide +kernel
theorem dX8_endures_110 : decode cX8_endures 110 = .ok (.i2l, 1) := by decide +kernel
theorem dX8_endures_111 : decode cX8_endures 111 = .ok (.invokevirtual 194, 3) := by decide +kernel
theorem dX8_endures_114 : decode cX8_endures 114 = .ok (.iload_n 2, 1) := by decide +kernel
theorem dX8_endures_115 : decode cX8_endures 115 = .ok (.ireturn, 1) := by decide +kernel
theorem dX8_differs_0 : decode cX8_differs 0 = .ok (.aload_n 0, 1) := by decide +kernel
theorem dX8_differs_1 : decode cX8_differs 1 = .ok (.getfield 16, 3) := by decide +kernel
theorem dX8_differs_4 : decode cX8_differs 4 = .ok (.aload_n 0, 1) := by decide +kernel
theorem dX8_differs_5 : decode cX8_differs 5 = .ok (.getfield 25, 3) := by decide +kernel
theorem dX8_differs_8 : decode cX8_differs 8 = .ok (.invokevirtual 89, 3) := by decide +kernel
theorem dX8_differs_11 : decode cX8_differs 11 = .ok (.istore_n 1, 1) := by decide +kernel
theorem dX8_differs_12 : decode cX8_differs 12 = .ok (.aload_n 0, 1) := by decide +kernel
theorem dX8_differs_13 : decode cX8_differs 13 = .ok (.getfield 25, 3) := by decide +kernel
theorem dX8_differs_16 : decode cX8_differs 16 = .ok (.iconst 0, 1) := by decide +kernel
theorem dX8_differs_17 : decode cX8_differs 17 = .ok (.putfield 83, 3) := by decide +kernel
theorem dX8_differs_20 : decode cX8_differs 20 = .ok (.iload_n 1, 1) := by decide +kernel
theorem dX8_differs_21 : decode cX8_differs 21 = .ok (.iconst (-1), 1) := by decide +kernel
theorem dX8_differs_22 : decode cX8_differs 22 = .ok (.if_icmp .eq 7, 3) := by decide +kernel
theorem dX8_differs_25 : decode cX8_differs 25 = .ok (.iconst (-1), 1) := by decide +kernel
theorem dX8_differs_26 : decode cX8_differs 26 = .ok (.iload_n 1, 1) := by decide +kernel
theorem dX8_differs_27 : decode cX8_differs 27 = .ok (.isub, 1) := by decide +kernel
theorem dX8_differs_28 : decode cX8_differs 28 = .ok (.ireturn, 1) := by decide +kernel
theorem dX8_differs_29 : decode cX8_differs 29 = .ok (.aload_n 0, 1) := by decide +kernel
theorem dX8_differs_30 : decode cX8_differs 30 = .ok (.getfield 16, 3) := by decide +kernel
theorem dX8_differs_33 : decode cX8_differs 33 = .ok (.getfield 100, 3) := by decide +kernel
theorem dX8_differs_36 : decode cX8_differs 36 = .ok (.aload_n 0, 1) := by decide +kernel
theorem dX8_differs_37 : decode cX8_differs 37 = .ok (.getfield 10, 3) := by decide +kernel
theorem dX8_differs_40 : decode cX8_differs 40 = .ok (.getfield 100, 3) := by decide +kernel
theorem dX8_differs_43 : decode cX8_differs 43 = .ok (.if_icmp .ne 20, 3) := by decide +kernel
theorem dX8_differs_46 : decode cX8_differs 46 = .ok (.aload_n 0, 1) := by decide +kernel
theorem dX8_differs_47 : decode cX8_differs 47 = .ok (.getfield 16, 3) := by decide +kernel
theorem dX8_differs_50 : decode cX8_differs 50 = .ok (.getfield 213, 3) := by decide +kernel
theorem dX8_differs_53 : decode cX8_differs 53 = .ok (.aload_n 0, 1) := by decide +kernel
theorem dX8_differs_54 : decode cX8_differs 54 = .ok (.getfield 10, 3) := by decide +kernel
theorem dX8_differs_57 : decode cX8_differs 57 = .ok (.getfield 213, 3) := by decide +kernel
theorem dX8_differs_60 : decode cX8_differs 60 = .ok (.if_icmp .eq 6, 3) := by decide +kernel
theorem dX8_differs_63 : decode cX8_differs 63 = .ok (.bipush (-100), 2) := by decide +kernel
theorem dX8_differs_65 : decode cX8_differs 65 = .ok (.ireturn, 1) := by decide +kernel
theorem dX8_differs_66 : decode cX8_differs 66 = .ok (.bipush 37, 2) := by decide +kernel
theorem dX8_differs_68 : decode cX8_differs 68 = .ok (.istore_n 2, 1) := by decide +kernel
theorem dX8_differs_69 : decode cX8_differs 69 = .ok (.iconst 0, 1) := by decide +kernel
theorem dX8_differs_70 : decode cX8_differs 70 = .ok (.istore_n 3, 1) := by decide +kernel
theorem dX8_differs_71 : decode cX8_differs 71 = .ok (.iconst 0, 1) := by decide +kernel
theorem dX8_differs_72 : decode cX8_differs 72 = .ok (.istore 4, 2) := by decide +kernel
theorem dX8_differs_74 : decode cX8_differs 74 = .ok (.iconst 0, 1) := by decide +kernel
theorem dX8_differs_75 : decode cX8_differs 75 = .ok (.istore 5, 2) := by decide +kernel
theorem dX8_differs_77 : decode cX8_differs 77 = .ok (.iload 5, 2) := by decide +kernel
theorem dX8_differs_79 : decode cX8_differs 79 = .ok (.aload_n 0, 1) := by decide +kernel
theorem dX8_differs_80 : decode cX8_differs 80 = .ok (.getfield 10, 3) := by decide +kernel
theorem dX8_differs_83 : decode cX8_differs 83 = .ok (.getfield 100, 3) := by decide +kernel
theorem dX8_differs_86 : decode cX8_differs 86 = .ok (.if_icmp .ge 56, 3) := by decide +kernel
theorem dX8_differs_89 : decode cX8_differs 89 = .ok (.iconst 0, 1) := by decide +kernel
theorem dX8_differs_90 : decode cX8_differs 90 = .ok (.istore 6, 2) := by decide +kernel
theorem dX8_differs_92 : decode cX8_differs 92 = .ok (.iload 6, 2) := by decide +kernel
theorem dX8_differs_94 : decode cX8_differs 94 = .ok (.aload_n 0, 1) := by decide +kernel
theorem dX8_differs_95 : decode cX8_differs 95 = .ok (.getfield 10, 3) := by decide +kernel
theorem dX8_differs_98 : decode cX8_differs 98 = .ok (.getfield 213, 3) := by decide +kernel
theorem dX8_differs_101 : decode cX8_differs 101 = .ok (.if_icmp .ge 35, 3) := by decide +kernel
theorem dX8_differs_104 : decode cX8_differs 104 = .ok (.aload_n 0, 1) := by decide +kernel
theorem dX8_differs_105 : decode cX8_differs 105 = .ok (.iload 5, 2) := by decide +kernel
theorem dX8_differs_107 : decode cX8_differs 107 = .ok (.iload 6, 2) := by decide +kernel
theorem dX8_differs_109 : decode cX8_differs 109 = .ok (.invokevirtual 300, 3) := by decide +kernel
theorem dX8_differs_112 : decode cX8_differs 112 = .ok (.istore 7, 2) := by decide +kernel
theorem dX8_differs_114 : decode cX8_differs 114 = .ok (.iload 7, 2) := by decide +kernel
theorem dX8_differs_116 : decode cX8_differs 116 = .ok (.iload_n 2, 1) := by decide +kernel
theorem dX8_differs_117 : decode cX8_differs 117 = .ok (.if_icmp .ge 13, 3) := by decide +kernel
theorem dX8_differs_120 : decode cX8_differs 120 = .ok (.iload 7, 2) := by decide +kernel
theorem dX8_differs_122 : decode cX8_differs 122 = .ok (.istore_n 2, 1) := by decide +kernel
theorem dX8_differs_123 : decode cX8_differs 123 = .ok (.iload 5, 2) := by decide +kernel
theorem dX8_differs_125 : decode cX8_differs 125 = .ok (.istore_n 3, 1) := by decide +kernel
theorem dX8_differs_126 : decode cX8_differs 126 = .ok (.iload 6, 2) := by decide +kernel
theorem dX8_differs_128 : decode cX8_differs 128 = .ok (.istore 4, 2) := by decide +kernel
theorem dX8_differs_130 : decode cX8_differs 130 = .ok (.iinc 6 1, 3) := by decide +kernel
theorem dX8_differs_133 : decode cX8_differs 133 = .ok (.goto (-41), 3) := by decide +kernel
theorem dX8_differs_136 : decode cX8_differs 136 = .ok (.iinc 5 1, 3) := by decide +kernel
theorem dX8_differs_139 : decode cX8_differs 139 = .ok (.goto (-62), 3) := by decide +kernel
theorem dX8_differs_142 : decode cX8_differs 142 = .ok (.aload_n 0, 1) := by decide +kernel
theorem dX8_differs_143 : decode cX8_differs 143 = .ok (.getfield 32, 3) := by decide +kernel
theorem dX8_differs_146 : decode cX8_differs 146 = .ok (.iload_n 2, 1) := by decide +kernel
theorem dX8_differs_147 : decode cX8_differs 147 = .ok (.i2l, 1) := by decide +kernel
theorem dX8_differs_148 : decode cX8_differs 148 = .ok (.iload_n 3, 1) := by decide +kernel
theorem dX8_differs_149 : decode cX8_differs 149 = .ok (.i2l, 1) := by decide +kernel
theorem dX8_differs_150 : decode cX8_differs 150 = .ok (.invokevirtual 194, 3) := by decide +kernel
theorem dX8_differs_153 : decode cX8_differs 153 = .ok (.aload_n 0, 1) := by decide +kernel
theorem dX8_differs_154 : decode cX8_differs 154 = .ok (.getfield 32, 3) := by decide +kernel
theorem dX8_differs_157 : decode cX8_differs 157 = .ok (.iload 4, 2) := by decide +kernel
theorem dX8_differs_159 : decode cX8_differs 159 = .ok (.i2l, 1) := by decide +kernel
theorem dX8_differs_160 : decode cX8_differs 160 = .ok (.invokevirtual 216, 3) := by decide +kernel
theorem dX8_differs_163 : decode cX8_differs 163 = .ok (.aload_n 0, 1) := by decide +kernel
theorem dX8_differs_164 : decode cX8_differs 164 = .ok (.iconst 0, 1) := by decide +kernel
theorem dX8_differs_165 : decode cX8_differs 165 = .ok (.iconst 0, 1) := by decide +kernel
theorem dX8_differs_166 : decode cX8_differs 166 = .ok (.invokevirtual 300, 3) := by decide +kernel
theorem dX8_differs_169 : decode cX8_differs 169 = .ok (.ireturn, 1) := by decide +kernel
theorem dX8_looks_0 : decode cX8_looks 0 = .ok (.aload_n 0, 1) := by decide +kernel
theorem dX8_looks_1 : decode cX8_looks 1 = .ok (.iconst 1, 1) := by decide +kernel
theorem dX8_looks_2 : decode cX8_looks 2 = .ok (.iconst 0, 1) := by decide +kernel
theorem dX8_looks_3 : decode cX8_looks 3 = .ok (.invokevirtual 303, 3) := by decide +kernel
theorem dX8_looks_6 : decode cX8_looks 6 = .ok (.istore_n 1, 1) := by decide +kernel
theorem dX8_looks_7 : decode cX8_looks 7 = .ok (.aload_n 0, 1) := by decide +kernel
theorem dX8_looks_8 : decode cX8_looks 8 = .ok (.iconst 0, 1) := by decide +kernel
theorem dX8_looks_9 : decode cX8_looks 9 = .ok (.iconst 1, 1) := by decide +kernel
theorem dX8_looks_10 : decode cX8_looks 10 = .ok (.invokevirtual 303, 3) := by decide +kernel
theorem dX8_looks_13 : decode cX8_looks 13 = .ok (.istore_n 2, 1) := by decide +kernel
theorem dX8_looks_14 : decode cX8_looks 14 = .ok (.aload_n 0, 1) := by decide +kernel
theorem dX8_looks_15 : decode cX8_looks 15 = .ok (.iconst 1, 1) := by decide +kernel
theorem dX8_looks_16 : decode cX8_looks 16 = .ok (.iconst 1, 1) := by decide +kernel
theorem dX8_looks_17 : decode cX8_looks 17 = .ok (.invokevirtual 303, 3) := by decide +kernel
theorem dX8_looks_20 : decode cX8_looks 20 = .ok (.istore_n 3, 1) := by decide +kernel
theorem dX8_looks_21 : decode cX8_looks 21 = .ok (.aload_n 0, 1) := by decide +kernel
theorem dX8_looks_22 : decode cX8_looks 22 = .ok (.getfield 10, 3) := by decide +kernel
theorem dX8_looks_25 : decode cX8_looks 25 = .ok (.getfield 100, 3) := by decide +kernel
theorem dX8_looks_28 : decode cX8_looks 28 = .ok (.aload_n 0, 1) := by decide +kernel
theorem dX8_looks_29 : decode cX8_looks 29 = .ok (.getfield 10, 3) := by decide +kernel
theorem dX8_looks_32 : decode cX8_looks 32 = .ok (.getfield 213, 3) := by decide +kernel
theorem dX8_looks_35 : decode cX8_looks 35 = .ok (.if_icmp .ne 10, 3) := by decide +kernel
theorem dX8_looks_38 : decode cX8_looks 38 = .ok (.aload_n 0, 1) := by decide +kernel
theorem dX8_looks_39 : decode cX8_looks 39 = .ok (.invokevirtual 307, 3) := by decide +kernel
theorem dX8_looks_42 : decode cX8_looks 42 = .ok (.goto 4, 3) := by decide +kernel
theorem dX8_looks_45 : decode cX8_looks 45 = .ok (.iconst (-1), 1) := by decide +kernel
theorem dX8_looks_46 : decode cX8_looks 46 = .ok (.istore 4, 2) := by decide +kernel
theorem dX8_looks_48 : decode cX8_looks 48 = .ok (.aload_n 0, 1) := by decide +kernel
theorem dX8_looks_49 : decode cX8_looks 49 = .ok (.getfield 32, 3) := by decide +kernel
theorem dX8_looks_52 : decode cX8_looks 52 = .ok (.iload_n 1, 1) := by decide +kernel
theorem dX8_looks_53 : decode cX8_looks 53 = .ok (.i2l, 1) := by decide +kernel
theorem dX8_looks_54 : decode cX8_looks 54 = .ok (.iload_n 2, 1) := by decide +kernel
theorem dX8_looks_55 : decode cX8_looks 55 = .ok (.i2l, 1) := by decide +kernel
theorem dX8_looks_56 : decode cX8_looks 56 = .ok (.invokevirtual 194, 3) := by decide +kernel
theorem dX8_looks_59 : decode cX8_looks 59 = .ok (.aload_n 0, 1) := by decide +kernel
theorem dX8_looks_60 : decode cX8_looks 60 = .ok (.getfield 32, 3) := by decide +kernel
theorem dX8_looks_63 : decode cX8_looks 63 = .ok (.iload_n 3, 1) := by decide +kernel
theorem dX8_looks_64 : decode cX8_looks 64 = .ok (.i2l, 1) := by decide +kernel
theorem dX8_looks_65 : decode cX8_looks 65 = .ok (.invokevirtual 216, 3) := by decide +kernel
theorem dX8_looks_68 : decode cX8_looks 68 = .ok (.aload_n 0, 1) := by decide +kernel
theorem dX8_looks_69 : decode cX8_looks 69 = .ok (.getfield 32, 3) := by decide +kernel
theorem dX8_looks_72 : decode cX8_looks 72 = .ok (.iload 4, 2) := by decide +kernel
theorem dX8_looks_74 : decode cX8_looks 74 = .ok (.i2l, 1) := by decide +kernel
theorem dX8_looks_75 : decode cX8_looks 75 = .ok (.invokevirtual 216, 3) := by decide +kernel
theorem dX8_looks_78 : decode cX8_looks 78 = .ok (.iload_n 1, 1) := by decide +kernel
theorem dX8_looks_79 : decode cX8_looks 79 = .ok (.ifCond .ne 7, 3) := by decide +kernel
theorem dX8_looks_82 : decode cX8_looks 82 = .ok (.iconst 1, 1) := by decide +kernel
theorem dX8_looks_83 : decode cX8_looks 83 = .ok (.goto 4, 3) := by decide +kernel
theorem dX8_looks_86 : decode cX8_looks 86 = .ok (.iconst 0, 1) := by decide +kernel
theorem dX8_looks_87 : decode cX8_looks 87 = .ok (.iload_n 2, 1) := by decide +kernel
theorem dX8_looks_88 : decode cX8_looks 88 = .ok (.ifCond .ne 7, 3) := by decide +kernel
theorem dX8_looks_91 : decode cX8_looks 91 = .ok (.iconst 2, 1) := by decide +kernel
theorem dX8_looks_92 : decode cX8_looks 92 = .ok (.goto 4, 3) := by decide +kernel
theorem dX8_looks_95 : decode cX8_looks 95 = .ok (.iconst 0, 1) := by decide +kernel
theorem dX8_looks_96 : decode cX8_looks 96 = .ok (.iadd, 1) := by decide +kernel
theorem dX8_looks_97 : decode cX8_looks 97 = .ok (.iload_n 3, 1) := by decide +kernel
theorem dX8_looks_98 : decode cX8_looks 98 = .ok (.ifCond .ne 7, 3) := by decide +kernel
theorem dX8_looks_101 : decode cX8_looks 101 = .ok (.iconst 4, 1) := by decide +kernel
theorem dX8_looks_102 : decode cX8_looks 102 = .ok (.goto 4, 3) := by decide +kernel
theorem dX8_looks_105 : decode cX8_looks 105 = .ok (.iconst 0, 1) := by decide +kernel
theorem dX8_looks_106 : decode cX8_looks 106 = .ok (.iadd, 1) := by decide +kernel
theorem dX8_looks_107 : decode cX8_looks 107 = .ok (.iload 4, 2) := by decide +kernel
theorem dX8_looks_109 : decode cX8_looks 109 = .ok (.ifCond .ne 8, 3) := by decide +kernel
theorem dX8_looks_112 : decode cX8_looks 112 = .ok (.bipush 8, 2) := by decide +kernel
theorem dX8_looks_114 : decode cX8_looks 114 = .ok (.goto 4, 3) := by decide +kernel
theorem dX8_looks_117 : decode cX8_looks 117 = .ok (.iconst 0, 1) := by decide +kernel
theorem dX8_looks_118 : decode cX8_looks 118 = .ok (.iadd, 1) := by decide +kernel
theorem dX8_looks_119 : decode cX8_looks 119 = .ok (.ireturn, 1) := by decide +kernel
theorem dX8_repeats_0 : decode cX8_repeats 0 = .ok (.aload_n 0, 1) := by decide +kernel
theorem dX8_repeats_1 : decode cX8_repeats 1 = .ok (.getfield 32, 3) := by decide +kernel
theorem dX8_repeats_4 : decode cX8_repeats 4 = .ok (.aload_n 0, 1) := by decide +kernel
theorem dX8_repeats_5 : decode cX8_repeats 5 = .ok (.getfield 10, 3) := by decide +kernel
theorem dX8_repeats_8 : decode cX8_repeats 8 = .ok (.iconst 1, 1) := by decide +kernel
theorem dX8_repeats_9 : decode cX8_repeats 9 = .ok (.invokevirtual 310, 3) := by decide +kernel
theorem dX8_repeats_12 : decode cX8_repeats 12 = .ok (.i2l, 1) := by decide +kernel
theorem dX8_repeats_13 : decode cX8_repeats 13 = .ok (.invokevirtual 207, 3) := by decide +kernel
theorem dX8_repeats_16 : decode cX8_repeats 16 = .ok (.aload_n 0, 1) := by decide +kernel
theorem dX8_repeats_17 : decode cX8_repeats 17 = .ok (.getfield 10, 3) := by decide +kernel
theorem dX8_repeats_20 : decode cX8_repeats 20 = .ok (.iconst 0, 1) := by decide +kernel
theorem dX8_repeats_21 : decode cX8_repeats 21 = .ok (.invokevirtual 310, 3) := by decide +kernel
theorem dX8_repeats_24 : decode cX8_repeats 24 = .ok (.ireturn, 1) := by decide +kernel
theorem dX8_runs_0 : decode cX8_runs 0 = .ok (.aload_n 0, 1) := by decide +kernel
theorem dX8_runs_1 : decode cX8_runs 1 = .ok (.getfield 32, 3) := by decide +kernel
theorem dX8_runs_4 : decode cX8_runs 4 = .ok (.aload_n 0, 1) := by decide +kernel
theorem dX8_runs_5 : decode cX8_runs 5 = .ok (.getfield 10, 3) := by decide +kernel
theorem dX8_runs_8 : decode cX8_runs 8 = .ok (.iconst 0, 1) := by decide +kernel
theorem dX8_runs_9 : decode cX8_runs 9 = .ok (.invokevirtual 313, 3) := by decide +kernel
theorem dX8_runs_12 : decode cX8_runs 12 = .ok (.i2l, 1) := by decide +kernel
theorem dX8_runs_13 : decode cX8_runs 13 = .ok (.aload_n 0, 1) := by decide +kernel
theorem dX8_runs_14 : decode cX8_runs 14 = .ok (.getfield 10, 3) := by decide +kernel
theorem dX8_runs_17 : decode cX8_runs 17 = .ok (.iconst 1, 1) := by decide +kernel
theorem dX8_runs_18 : decode cX8_runs 18 = .ok (.invokevirtual 316, 3) := by decide +kernel
theorem dX8_runs_21 : decode cX8_runs 21 = .ok (.i2l, 1) := by decide +kernel
theorem dX8_runs_22 : decode cX8_runs 22 = .ok (.invokevirtual 194, 3) := by decide +kernel
theorem dX8_runs_25 : decode cX8_runs 25 = .ok (.aload_n 0, 1) := by decide +kernel
theorem dX8_runs_26 : decode cX8_runs 26 = .ok (.getfield 32, 3) := by decide +kernel
theorem dX8_runs_29 : decode cX8_runs 29 = .ok (.aload_n 0, 1) := by decide +kernel
theorem dX8_runs_30 : decode cX8_runs 30 = .ok (.getfield 10, 3) := by decide +kernel
theorem dX8_runs_33 : decode cX8_runs 33 = .ok (.iconst 1, 1) := by decide +kernel
theorem dX8_runs_34 : decode cX8_runs 34 = .ok (.invokevirtual 313, 3) := by decide +kernel
theorem dX8_runs_37 : decode cX8_runs 37 = .ok (.i2l, 1) := by decide +kernel
theorem dX8_runs_38 : decode cX8_runs 38 = .ok (.invokevirtual 216, 3) := by decide +kernel
theorem dX8_runs_41 : decode cX8_runs 41 = .ok (.aload_n 0, 1) := by decide +kernel
theorem dX8_runs_42 : decode cX8_runs 42 = .ok (.getfield 10, 3) := by decide +kernel
theorem dX8_runs_45 : decode cX8_runs 45 = .ok (.iconst 0, 1) := by decide +kernel
theorem dX8_runs_46 : decode cX8_runs 46 = .ok (.invokevirtual 316, 3) := by decide +kernel
theorem dX8_runs_49 : decode cX8_runs 49 = .ok (.ireturn, 1) := by decide +kernel
theorem dX8_twins_0 : decode cX8_twins 0 = .ok (.aload_n 0, 1) := by decide +kernel
theorem dX8_twins_1 : decode cX8_twins 1 = .ok (.getfield 32, 3) := by decide +kernel
theorem dX8_twins_4 : decode cX8_twins 4 = .ok (.invokevirtual 222, 3) := by decide +kernel
theorem dX8_twins_7 : decode cX8_twins 7 = .ok (.iconst 0, 1) := by decide +kernel
theorem dX8_twins_8 : decode cX8_twins 8 = .ok (.istore_n 1, 1) := by decide +kernel
theorem dX8_twins_9 : decode cX8_twins 9 = .ok (.iconst 0, 1) := by decide +kernel
theorem dX8_twins_10 : decode cX8_twins 10 = .ok (.istore_n 2, 1) := by decide +kernel
theorem dX8_twins_11 : decode cX8_twins 11 = .ok (.iload_n 2, 1) := by decide +kernel
theorem dX8_twins_12 : decode cX8_twins 12 = .ok (.bipush 12, 2) := by decide +kernel
theorem dX8_twins_14 : decode cX8_twins 14 = .ok (.if_icmp .ge 55, 3) := by decide +kernel
theorem dX8_twins_17 : decode cX8_twins 17 = .ok (.iload_n 2, 1) := by decide +kernel
theorem dX8_twins_18 : decode cX8_twins 18 = .ok (.iconst 1, 1) := by decide +kernel
theorem dX8_twins_19 : decode cX8_twins 19 = .ok (.iadd, 1) := by decide +kernel
theorem dX8_twins_20 : decode cX8_twins 20 = .ok (.istore_n 3, 1) := by decide +kernel
theorem dX8_twins_21 : decode cX8_twins 21 = .ok (.iload_n 3, 1) := by decide +kernel
theorem dX8_twins_22 : decode cX8_twins 22 = .ok (.bipush 12, 2) := by decide +kernel
theorem dX8_twins_24 : decode cX8_twins 24 = .ok (.if_icmp .ge 39, 3) := by decide +kernel
theorem dX8_twins_27 : decode cX8_twins 27 = .ok (.aload_n 0, 1) := by decide +kernel
theorem dX8_twins_28 : decode cX8_twins 28 = .ok (.getfield 10, 3) := by decide +kernel
theorem dX8_twins_31 : decode cX8_twins 31 = .ok (.iload_n 2, 1) := by decide +kernel
theorem dX8_twins_32 : decode cX8_twins 32 = .ok (.iload_n 3, 1) := by decide +kernel
theorem dX8_twins_33 : decode cX8_twins 33 = .ok (.invokevirtual 319, 3) := by decide +kernel
theorem dX8_twins_36 : decode cX8_twins 36 = .ok (.ifCond .eq 21, 3) := by decide +kernel
theorem dX8_twins_39 : decode cX8_twins 39 = .ok (.iload_n 1, 1) := by decide +kernel
theorem dX8_twins_40 : decode cX8_twins 40 = .ok (.ifCond .ne 14, 3) := by decide +kernel
theorem dX8_twins_43 : decode cX8_twins 43 = .ok (.aload_n 0, 1) := by decide +kernel
theorem dX8_twins_44 : decode cX8_twins 44 = .ok (.getfield 32, 3) := by decide +kernel
theorem dX8_twins_47 : decode cX8_twins 47 = .ok (.iload_n 2, 1) := by decide +kernel
theorem dX8_twins_48 : decode cX8_twins 48 = .ok (.i2l, 1) := by decide +kernel
theorem dX8_twins_49 : decode cX8_twins 49 = .ok (.iload_n 3, 1) := by decide +kernel
theorem dX8_twins_50 : decode cX8_twins 50 = .ok (.i2l, 1) := by decide +kernel
theorem dX8_twins_51 : decode cX8_twins 51 = .ok (.invokevirtual 194, 3) := by decide +kernel
theorem dX8_twins_54 : decode cX8_twins 54 = .ok (.iinc 1 1, 3) := by decide +kernel
theorem dX8_twins_57 : decode cX8_twins 57 = .ok (.iinc 3 1, 3) := by decide +kernel
theorem dX8_twins_60 : decode cX8_twins 60 = .ok (.goto (-39), 3) := by decide +kernel
theorem dX8_twins_63 : decode cX8_twins 63 = .ok (.iinc 2 1, 3) := by decide +kernel
theorem dX8_twins_66 : decode cX8_twins 66 = .ok (.goto (-55), 3) := by decide +kernel
theorem dX8_twins_69 : decode cX8_twins 69 = .ok (.iload_n 1, 1) := by decide +kernel
theorem dX8_twins_70 : decode cX8_twins 70 = .ok (.ireturn, 1) := by decide +kernel
theorem dX8_game_0 : decode cX8_game 0 = .ok (.aload_n 0, 1) := by decide +kernel
theorem dX8_game_1 : decode cX8_game 1 = .ok (.getfield 49, 3) := by decide +kernel
theorem dX8_game_4 : decode cX8_game 4 = .ok (.aload_n 0, 1) := by decide +kernel
theorem dX8_game_5 : decode cX8_game 5 = .ok (.getfield 10, 3) := by decide +kernel
theorem dX8_game_8 : decode cX8_game 8 = .ok (.invokevirtual 286, 3) := by decide +kernel
theorem dX8_game_11 : decode cX8_game 11 = .ok (.aload_n 0, 1) := by decide +kernel
theorem dX8_game_12 : decode cX8_game 12 = .ok (.getfield 10, 3) := by decide +kernel
theorem dX8_game_15 : decode cX8_game 15 = .ok (.invokevirtual 256, 3) := by decide +kernel
theorem dX8_game_18 : decode cX8_game 18 = .ok (.istore_n 1, 1) := by decide +kernel
theorem dX8_game_19 : decode cX8_game 19 = .ok (.aload_n 0, 1) := by decide +kernel
theorem dX8_game_20 : decode cX8_game 20 = .ok (.getfield 49, 3) := by decide +kernel
theorem dX8_game_23 : decode cX8_game 23 = .ok (.getfield 289, 3) := by decide +kernel
theorem dX8_game_26 : decode cX8_game 26 = .ok (.iload_n 1, 1) := by decide +kernel
theorem dX8_game_27 : decode cX8_game 27 = .ok (.invokestatic 293, 3) := by decide +kernel
theorem dX8_game_30 : decode cX8_game 30 = .ok (.ifCond .eq 14, 3) := by decide +kernel
theorem dX8_game_33 : decode cX8_game 33 = .ok (.aload_n 0, 1) := by decide +kernel
theorem dX8_game_34 : decode cX8_game 34 = .ok (.getfield 49, 3) := by decide +kernel
theorem dX8_game_37 : decode cX8_game 37 = .ok (.iload_n 1, 1) := by decide +kernel
theorem dX8_game_38 : decode cX8_game 38 = .ok (.invokevirtual 322, 3) := by decide +kernel
theorem dX8_game_41 : decode cX8_game 41 = .ok (.goto 4, 3) := by decide +kernel
theorem dX8_game_44 : decode cX8_game 44 = .ok (.iconst (-1), 1) := by decide +kernel
theorem dX8_game_45 : decode cX8_game 45 = .ok (.istore_n 2, 1) := by decide +kernel
theorem dX8_game_46 : decode cX8_game 46 = .ok (.aload_n 0, 1) := by decide +kernel
theorem dX8_game_47 : decode cX8_game 47 = .ok (.getfield 32, 3) := by decide +kernel
theorem dX8_game_50 : decode cX8_game 50 = .ok (.invokevirtual 222, 3) := by decide +kernel
theorem dX8_game_53 : decode cX8_game 53 = .ok (.iload_n 2, 1) := by decide +kernel
theorem dX8_game_54 : decode cX8_game 54 = .ok (.iconst (-1), 1) := by decide +kernel
theorem dX8_game_55 : decode cX8_game 55 = .ok (.if_icmp .ne 5, 3) := by decide +kernel
theorem dX8_game_58 : decode cX8_game 58 = .ok (.iconst 0, 1) := by decide +kernel
theorem dX8_game_59 : decode cX8_game 59 = .ok (.ireturn, 1) := by decide +kernel
theorem dX8_game_60 : decode cX8_game 60 = .ok (.aload_n 0, 1) := by decide +kernel
theorem dX8_game_61 : decode cX8_game 61 = .ok (.getfield 32, 3) := by decide +kernel
theorem dX8_game_64 : decode cX8_game 64 = .ok (.iload_n 2, 1) := by decide +kernel
theorem dX8_game_65 : decode cX8_game 65 = .ok (.i2l, 1) := by decide +kernel
theorem dX8_game_66 : decode cX8_game 66 = .ok (.invokevirtual 207, 3) := by decide +kernel
theorem dX8_game_69 : decode cX8_game 69 = .ok (.iconst 1, 1) := by decide +kernel
theorem dX8_game_70 : decode cX8_game 70 = .ok (.ireturn, 1) := by decide +kernel
theorem dX8_told_0 : decode cX8_told 0 = .ok (.aload_n 0, 1) := by decide +kernel
theorem dX8_told_1 : decode cX8_told 1 = .ok (.getfield 63, 3) := by decide +kernel
theorem dX8_told_4 : decode cX8_told 4 = .ok (.getfield 325, 3) := by decide +kernel
theorem dX8_told_7 : decode cX8_told 7 = .ok (.bipush 12, 2) := by decide +kernel
theorem dX8_told_9 : decode cX8_told 9 = .ok (.if_icmp .ge 15, 3) := by decide +kernel
theorem dX8_told_12 : decode cX8_told 12 = .ok (.iload_n 2, 1) := by decide +kernel
theorem dX8_told_13 : decode cX8_told 13 = .ok (.ifCond .lt 11, 3) := by decide +kernel
theorem dX8_told_16 : decode cX8_told 16 = .ok (.iload_n 2, 1) := by decide +kernel
theorem dX8_told_17 : decode cX8_told 17 = .ok (.iload_n 1, 1) := by decide +kernel
theorem dX8_told_18 : decode cX8_told 18 = .ok (.invokestatic 326, 3) := by decide +kernel
theorem dX8_told_21 : decode cX8_told 21 = .ok (.if_icmp .le 5, 3) := by decide +kernel
theorem dX8_told_24 : decode cX8_told 24 = .ok (.iconst (-1), 1) := by decide +kernel
theorem dX8_told_25 : decode cX8_told 25 = .ok (.ireturn, 1) := by decide +kernel
theorem dX8_told_26 : decode cX8_told 26 = .ok (.aload_n 0, 1) := by decide +kernel
theorem dX8_told_27 : decode cX8_told 27 = .ok (.getfield 63, 3) := by decide +kernel
theorem dX8_told_30 : decode cX8_told 30 = .ok (.iload_n 1, 1) := by decide +kernel
theorem dX8_told_31 : decode cX8_told 31 = .ok (.iload_n 2, 1) := by decide +kernel
theorem dX8_told_32 : decode cX8_told 32 = .ok (.invokevirtual 329, 3) := by decide +kernel
theorem dX8_told_35 : decode cX8_told 35 = .ok (.aload_n 0, 1) := by decide +kernel
theorem dX8_told_36 : decode cX8_told 36 = .ok (.getfield 63, 3) := by decide +kernel
theorem dX8_told_39 : decode cX8_told 39 = .ok (.getfield 325, 3) := by decide +kernel
theorem dX8_told_42 : decode cX8_told 42 = .ok (.ireturn, 1) := by decide +kernel
theorem dX8_forget_0 : decode cX8_forget 0 = .ok (.aload_n 0, 1) := by decide +kernel
theorem dX8_forget_1 : decode cX8_forget 1 = .ok (.getfield 63, 3) := by decide +kernel
theorem dX8_forget_4 : decode cX8_forget 4 = .ok (.getfield 325, 3) := by decide +kernel
theorem dX8_forget_7 : decode cX8_forget 7 = .ok (.istore_n 1, 1) := by decide +kernel
theorem dX8_forget_8 : decode cX8_forget 8 = .ok (.aload_n 0, 1) := by decide +kernel
theorem dX8_forget_9 : decode cX8_forget 9 = .ok (.getfield 63, 3) := by decide +kernel
theorem dX8_forget_12 : decode cX8_forget 12 = .ok (.iconst 0, 1) := by decide +kernel
theorem dX8_forget_13 : decode cX8_forget 13 = .ok (.putfield 325, 3) := by decide +kernel
theorem dX8_forget_16 : decode cX8_forget 16 = .ok (.iload_n 1, 1) := by decide +kernel
theorem dX8_forget_17 : decode cX8_forget 17 = .ok (.ireturn, 1) := by decide +kernel
theorem dX8_fits_0 : decode cX8_fits 0 = .ok (.aload_n 0, 1) := by decide +kernel
theorem dX8_fits_1 : decode cX8_fits 1 = .ok (.getfield 63, 3) := by decide +kernel
theorem dX8_fits_4 : decode cX8_fits 4 = .ok (.aload_n 0, 1) := by decide +kernel
theorem dX8_fits_5 : decode cX8_fits 5 = .ok (.getfield 10, 3) := by decide +kernel
theorem dX8_fits_8 : decode cX8_fits 8 = .ok (.invokevirtual 331, 3) := by decide +kernel
theorem dX8_fits_11 : decode cX8_fits 11 = .ok (.istore_n 1, 1) := by decide +kernel
theorem dX8_fits_12 : decode cX8_fits 12 = .ok (.aload_n 0, 1) := by decide +kernel
theorem dX8_fits_13 : decode cX8_fits 13 = .ok (.getfield 32, 3) := by decide +kernel
theorem dX8_fits_16 : decode cX8_fits 16 = .ok (.iload_n 1, 1) := by decide +kernel
theorem dX8_fits_17 : decode cX8_fits 17 = .ok (.invokestatic 225, 3) := by decide +kernel
theorem dX8_fits_20 : decode cX8_fits 20 = .ok (.i2l, 1) := by decide +kernel
theorem dX8_fits_21 : decode cX8_fits 21 = .ok (.invokevirtual 207, 3) := by decide +kernel
theorem dX8_fits_24 : decode cX8_fits 24 = .ok (.iload_n 1, 1) := by decide +kernel
theorem dX8_fits_25 : decode cX8_fits 25 = .ok (.ireturn, 1) := by decide +kernel
theorem dX8_asks_0 : decode cX8_asks 0 = .ok (.aload_n 0, 1) := by decide +kernel
theorem dX8_asks_1 : decode cX8_asks 1 = .ok (.getfield 63, 3) := by decide +kernel
theorem dX8_asks_4 : decode cX8_asks 4 = .ok (.aload_n 0, 1) := by decide +kernel
theorem dX8_asks_5 : decode cX8_asks 5 = .ok (.getfield 10, 3) := by decide +kernel
theorem dX8_asks_8 : decode cX8_asks 8 = .ok (.invokevirtual 331, 3) := by decide +kernel
theorem dX8_asks_11 : decode cX8_asks 11 = .ok (.istore_n 1, 1) := by decide +kernel
theorem dX8_asks_12 : decode cX8_asks 12 = .ok (.iload_n 1, 1) := by decide +kernel
theorem dX8_asks_13 : decode cX8_asks 13 = .ok (.ifCond .ne 6, 3) := by decide +kernel
theorem dX8_asks_16 : decode cX8_asks 16 = .ok (.bipush (-2), 2) := by decide +kernel
theorem dX8_asks_18 : decode cX8_asks 18 = .ok (.ireturn, 1) := by decide +kernel
theorem dX8_asks_19 : decode cX8_asks 19 = .ok (.bipush 13, 2) := by decide +kernel
theorem dX8_asks_21 : decode cX8_asks 21 = .ok (.istore_n 2, 1) := by decide +kernel
theorem dX8_asks_22 : decode cX8_asks 22 = .ok (.iconst 0, 1) := by decide +kernel
theorem dX8_asks_23 : decode cX8_asks 23 = .ok (.istore_n 3, 1) := by decide +kernel
theorem dX8_asks_24 : decode cX8_asks 24 = .ok (.iconst 0, 1) := by decide +kernel
theorem dX8_asks_25 : decode cX8_asks 25 = .ok (.istore 4, 2) := by decide +kernel
theorem dX8_asks_27 : decode cX8_asks 27 = .ok (.iload 4, 2) := by decide +kernel
theorem dX8_asks_29 : decode cX8_asks 29 = .ok (.iconst 5, 1) := by decide +kernel
theorem dX8_asks_30 : decode cX8_asks 30 = .ok (.if_icmp .ge 77, 3) := by decide +kernel
theorem dX8_asks_33 : decode cX8_asks 33 = .ok (.iconst 0, 1) := by decide +kernel
theorem dX8_asks_34 : decode cX8_asks 34 = .ok (.istore 5, 2) := by decide +kernel
theorem dX8_asks_36 : decode cX8_asks 36 = .ok (.iload 5, 2) := by decide +kernel
theorem dX8_asks_38 : decode cX8_asks 38 = .ok (.iload 4, 2) := by decide +kernel
theorem dX8_asks_40 : decode cX8_asks 40 = .ok (.invokestatic 326, 3) := by decide +kernel
theorem dX8_asks_43 : decode cX8_asks 43 = .ok (.if_icmp .gt 58, 3) := by decide +kernel
theorem dX8_asks_46 : decode cX8_asks 46 = .ok (.iload_n 1, 1) := by decide +kernel
theorem dX8_asks_47 : decode cX8_asks 47 = .ok (.iload 4, 2) := by decide +kernel
theorem dX8_asks_49 : decode cX8_asks 49 = .ok (.iload 5, 2) := by decide +kernel
theorem dX8_asks_51 : decode cX8_asks 51 = .ok (.aload_n 0, 1) := by decide +kernel
theorem dX8_asks_52 : decode cX8_asks 52 = .ok (.getfield 10, 3) := by decide +kernel
theorem dX8_asks_55 : decode cX8_asks 55 = .ok (.invokestatic 334, 3) := by decide +kernel
theorem dX8_asks_58 : decode cX8_asks 58 = .ok (.invokestatic 225, 3) := by decide +kernel
theorem dX8_asks_61 : decode cX8_asks 61 = .ok (.istore 6, 2) := by decide +kernel
theorem dX8_asks_63 : decode cX8_asks 63 = .ok (.iload 6, 2) := by decide +kernel
theorem dX8_asks_65 : decode cX8_asks 65 = .ok (.iload_n 1, 1) := by decide +kernel
theorem dX8_asks_66 : decode cX8_asks 66 = .ok (.invokestatic 225, 3) := by decide +kernel
theorem dX8_asks_69 : decode cX8_asks 69 = .ok (.iload 6, 2) := by decide +kernel
theorem dX8_asks_71 : decode cX8_asks 71 = .ok (.isub, 1) := by decide +kernel
theorem dX8_asks_72 : decode cX8_asks 72 = .ok (.invokestatic 338, 3) := by decide +kernel
theorem dX8_asks_75 : decode cX8_asks 75 = .ok (.istore 7, 2) := by decide +kernel
theorem dX8_asks_77 : decode cX8_asks 77 = .ok (.iload 7, 2) := by decide +kernel
theorem dX8_asks_79 : decode cX8_asks 79 = .ok (.iload_n 2, 1) := by decide +kernel
theorem dX8_asks_80 : decode cX8_asks 80 = .ok (.if_icmp .ge 15, 3) := by decide +kernel
theorem dX8_asks_83 : decode cX8_asks 83 = .ok (.iload 7, 2) := by decide +kernel
theorem dX8_asks_85 : decode cX8_asks 85 = .ok (.istore_n 2, 1) := by decide +kernel
theorem dX8_asks_86 : decode cX8_asks 86 = .ok (.bipush 10, 2) := by decide +kernel
theorem dX8_asks_88 : decode cX8_asks 88 = .ok (.iload 4, 2) := by decide +kernel
theorem dX8_asks_90 : decode cX8_asks 90 = .ok (.imul, 1) := by decide +kernel
theorem dX8_asks_91 : decode cX8_asks 91 = .ok (.iload 5, 2) := by decide +kernel
theorem dX8_asks_93 : decode cX8_asks 93 = .ok (.iadd, 1) := by decide +kernel
theorem dX8_asks_94 : decode cX8_asks 94 = .ok (.istore_n 3, 1) := by decide +kernel
theorem dX8_asks_95 : decode cX8_asks 95 = .ok (.iinc 5 1, 3) := by decide +kernel
theorem dX8_asks_98 : decode cX8_asks 98 = .ok (.goto (-62), 3) := by decide +kernel
theorem dX8_asks_101 : decode cX8_asks 101 = .ok (.iinc 4 1, 3) := by decide +kernel
theorem dX8_asks_104 : decode cX8_asks 104 = .ok (.goto (-77), 3) := by decide +kernel
theorem dX8_asks_107 : decode cX8_asks 107 = .ok (.aload_n 0, 1) := by decide +kernel
theorem dX8_asks_108 : decode cX8_asks 108 = .ok (.getfield 32, 3) := by decide +kernel
theorem dX8_asks_111 : decode cX8_asks 111 = .ok (.iload_n 2, 1) := by decide +kernel
theorem dX8_asks_112 : decode cX8_asks 112 = .ok (.i2l, 1) := by decide +kernel
theorem dX8_asks_113 : decode cX8_asks 113 = .ok (.invokevirtual 207, 3) := by decide +kernel
theorem dX8_asks_116 : decode cX8_asks 116 = .ok (.iload_n 3, 1) := by decide +kernel
theorem dX8_asks_117 : decode cX8_asks 117 = .ok (.ireturn, 1) := by decide +kernel
theorem dX8_odds_0 : decode cX8_odds 0 = .ok (.iload_n 1, 1) := by decide +kernel
theorem dX8_odds_1 : decode cX8_odds 1 = .ok (.ifCond .lt 9, 3) := by decide +kernel
theorem dX8_odds_4 : decode cX8_odds 4 = .ok (.iload_n 1, 1) := by decide +kernel
theorem dX8_odds_5 : decode cX8_odds 5 = .ok (.bipush 10, 2) := by decide +kernel
theorem dX8_odds_7 : decode cX8_odds 7 = .ok (.if_icmp .le 5, 3) := by decide +kernel
theorem dX8_odds_10 : decode cX8_odds 10 = .ok (.iconst (-1), 1) := by decide +kernel
theorem dX8_odds_11 : decode cX8_odds 11 = .ok (.ireturn, 1) := by decide +kernel
theorem dX8_odds_12 : decode cX8_odds 12 = .ok (.aload_n 0, 1) := by decide +kernel
theorem dX8_odds_13 : decode cX8_odds 13 = .ok (.getfield 49, 3) := by decide +kernel
theorem dX8_odds_16 : decode cX8_odds 16 = .ok (.aload_n 0, 1) := by decide +kernel
theorem dX8_odds_17 : decode cX8_odds 17 = .ok (.getfield 10, 3) := by decide +kernel
theorem dX8_odds_20 : decode cX8_odds 20 = .ok (.invokevirtual 286, 3) := by decide +kernel
theorem dX8_odds_23 : decode cX8_odds 23 = .ok (.aload_n 0, 1) := by decide +kernel
theorem dX8_odds_24 : decode cX8_odds 24 = .ok (.getfield 10, 3) := by decide +kernel
theorem dX8_odds_27 : decode cX8_odds 27 = .ok (.invokevirtual 191, 3) := by decide +kernel
theorem dX8_odds_30 : decode cX8_odds 30 = .ok (.istore_n 2, 1) := by decide +kernel
theorem dX8_odds_31 : decode cX8_odds 31 = .ok (.lconst 0, 1) := by decide +kernel
theorem dX8_odds_32 : decode cX8_odds 32 = .ok (.lstore_n 3, 1) := by decide +kernel
theorem dX8_odds_33 : decode cX8_odds 33 = .ok (.iconst 0, 1) := by decide +kernel
theorem dX8_odds_34 : decode cX8_odds 34 = .ok (.istore 5, 2) := by decide +kernel
theorem dX8_odds_36 : decode cX8_odds 36 = .ok (.iload 5, 2) := by decide +kernel
theorem dX8_odds_38 : decode cX8_odds 38 = .ok (.iload_n 2, 1) := by decide +kernel
theorem dX8_odds_39 : decode cX8_odds 39 = .ok (.if_icmp .gt 41, 3) := by decide +kernel
theorem dX8_odds_42 : decode cX8_odds 42 = .ok (.lload_n 3, 1) := by decide +kernel
theorem dX8_odds_43 : decode cX8_odds 43 = .ok (.aload_n 0, 1) := by decide +kernel
theorem dX8_odds_44 : decode cX8_odds 44 = .ok (.getfield 49, 3) := by decide +kernel
theorem dX8_odds_47 : decode cX8_odds 47 = .ok (.iload 5, 2) := by decide +kernel
theorem dX8_odds_49 : decode cX8_odds 49 = .ok (.invokevirtual 343, 3) := by decide +kernel
theorem dX8_odds_52 : decode cX8_odds 52 = .ok (.i2l, 1) := by decide +kernel
theorem dX8_odds_53 : decode cX8_odds 53 = .ok (.bipush 10, 2) := by decide +kernel
theorem dX8_odds_55 : decode cX8_odds 55 = .ok (.iload_n 1, 1) := by decide +kernel
theorem dX8_odds_56 : decode cX8_odds 56 = .ok (.isub, 1) := by decide +kernel
theorem dX8_odds_57 : decode cX8_odds 57 = .ok (.iload 5, 2) := by decide +kernel
theorem dX8_odds_59 : decode cX8_odds 59 = .ok (.invokestatic 346, 3) := by decide +kernel
theorem dX8_odds_62 : decode cX8_odds 62 = .ok (.lmul, 1) := by decide +kernel
theorem dX8_odds_63 : decode cX8_odds 63 = .ok (.iload_n 1, 1) := by decide +kernel
theorem dX8_odds_64 : decode cX8_odds 64 = .ok (.iload_n 2, 1) := by decide +kernel
theorem dX8_odds_65 : decode cX8_odds 65 = .ok (.iload 5, 2) := by decide +kernel
theorem dX8_odds_67 : decode cX8_odds 67 = .ok (.isub, 1) := by decide +kernel
theorem dX8_odds_68 : decode cX8_odds 68 = .ok (.invokestatic 346, 3) := by decide +kernel
theorem dX8_odds_71 : decode cX8_odds 71 = .ok (.lmul, 1) := by decide +kernel
theorem dX8_odds_72 : decode cX8_odds 72 = .ok (.ladd, 1) := by decide +kernel
theorem dX8_odds_73 : decode cX8_odds 73 = .ok (.lstore_n 3, 1) := by decide +kernel
theorem dX8_odds_74 : decode cX8_odds 74 = .ok (.iinc 5 1, 3) := by decide +kernel
theorem dX8_odds_77 : decode cX8_odds 77 = .ok (.goto (-41), 3) := by decide +kernel
theorem dX8_odds_80 : decode cX8_odds 80 = .ok (.bipush 10, 2) := by decide +kernel
theorem dX8_odds_82 : decode cX8_odds 82 = .ok (.iload_n 2, 1) := by decide +kernel
theorem dX8_odds_83 : decode cX8_odds 83 = .ok (.invokestatic 346, 3) := by decide +kernel
theorem dX8_odds_86 : decode cX8_odds 86 = .ok (.lstore 5, 2) := by decide +kernel
theorem dX8_odds_88 : decode cX8_odds 88 = .ok (.lload_n 3, 1) := by decide +kernel
theorem dX8_odds_89 : decode cX8_odds 89 = .ok (.lload 5, 2) := by decide +kernel
theorem dX8_odds_91 : decode cX8_odds 91 = .ok (.invokestatic 350, 3) := by decide +kernel
theorem dX8_odds_94 : decode cX8_odds 94 = .ok (.lstore 7, 2) := by decide +kernel
theorem dX8_odds_96 : decode cX8_odds 96 = .ok (.lload 7, 2) := by decide +kernel
theorem dX8_odds_98 : decode cX8_odds 98 = .ok (.lconst 0, 1) := by decide +kernel
theorem dX8_odds_99 : decode cX8_odds 99 = .ok (.lcmp, 1) := by decide +kernel
theorem dX8_odds_100 : decode cX8_odds 100 = .ok (.ifCond .le 19, 3) := by decide +kernel
theorem dX8_odds_103 : decode cX8_odds 103 = .ok (.aload_n 0, 1) := by decide +kernel
theorem dX8_odds_104 : decode cX8_odds 104 = .ok (.getfield 32, 3) := by decide +kernel
theorem dX8_odds_107 : decode cX8_odds 107 = .ok (.lload_n 3, 1) := by decide +kernel
theorem dX8_odds_108 : decode cX8_odds 108 = .ok (.lload 7, 2) := by decide +kernel
theorem dX8_odds_110 : decode cX8_odds 110 = .ok (.ldiv, 1) := by decide +kernel
theorem dX8_odds_111 : decode cX8_odds 111 = .ok (.lload 5, 2) := by decide +kernel
theorem dX8_odds_113 : decode cX8_odds 113 = .ok (.lload 7, 2) := by decide +kernel
theorem dX8_odds_115 : decode cX8_odds 115 = .ok (.ldiv, 1) := by decide +kernel
theorem dX8_odds_116 : decode cX8_odds 116 = .ok (.invokevirtual 194, 3) := by decide +kernel
theorem dX8_odds_119 : decode cX8_odds 119 = .ok (.iconst 0, 1) := by decide +kernel
theorem dX8_odds_120 : decode cX8_odds 120 = .ok (.ireturn, 1) := by decide +kernel
theorem dX8_law_0 : decode cX8_law 0 = .ok (.aload_n 0, 1) := by decide +kernel
theorem dX8_law_1 : decode cX8_law 1 = .ok (.getfield 43, 3) := by decide +kernel
theorem dX8_law_4 : decode cX8_law 4 = .ok (.aload_n 0, 1) := by decide +kernel
theorem dX8_law_5 : decode cX8_law 5 = .ok (.getfield 25, 3) := by decide +kernel
theorem dX8_law_8 : decode cX8_law 8 = .ok (.invokevirtual 103, 3) := by decide +kernel
theorem dX8_law_11 : decode cX8_law 11 = .ok (.istore_n 1, 1) := by decide +kernel
theorem dX8_law_12 : decode cX8_law 12 = .ok (.aload_n 0, 1) := by decide +kernel
theorem dX8_law_13 : decode cX8_law 13 = .ok (.getfield 25, 3) := by decide +kernel
theorem dX8_law_16 : decode cX8_law 16 = .ok (.iconst 0, 1) := by decide +kernel
theorem dX8_law_17 : decode cX8_law 17 = .ok (.putfield 83, 3) := by decide +kernel
theorem dX8_law_20 : decode cX8_law 20 = .ok (.iload_n 1, 1) := by decide +kernel
theorem dX8_law_21 : decode cX8_law 21 = .ok (.iconst (-1), 1) := by decide +kernel
theorem dX8_law_22 : decode cX8_law 22 = .ok (.if_icmp .eq 9, 3) := by decide +kernel
theorem dX8_law_25 : decode cX8_law 25 = .ok (.sipush (-10000), 3) := by decide +kernel
theorem dX8_law_28 : decode cX8_law 28 = .ok (.iload_n 1, 1) := by decide +kernel
theorem dX8_law_29 : decode cX8_law 29 = .ok (.isub, 1) := by decide +kernel
theorem dX8_law_30 : decode cX8_law 30 = .ok (.ireturn, 1) := by decide +kernel
theorem dX8_law_31 : decode cX8_law 31 = .ok (.aload_n 0, 1) := by decide +kernel
theorem dX8_law_32 : decode cX8_law 32 = .ok (.getfield 16, 3) := by decide +kernel
theorem dX8_law_35 : decode cX8_law 35 = .ok (.aload_n 0, 1) := by decide +kernel
theorem dX8_law_36 : decode cX8_law 36 = .ok (.getfield 10, 3) := by decide +kernel
theorem dX8_law_39 : decode cX8_law 39 = .ok (.invokevirtual 93, 3) := by decide +kernel
theorem dX8_law_42 : decode cX8_law 42 = .ok (.aload_n 0, 1) := by decide +kernel
theorem dX8_law_43 : decode cX8_law 43 = .ok (.getfield 19, 3) := by decide +kernel
theorem dX8_law_46 : decode cX8_law 46 = .ok (.aload_n 0, 1) := by decide +kernel
theorem dX8_law_47 : decode cX8_law 47 = .ok (.getfield 10, 3) := by decide +kernel
theorem dX8_law_50 : decode cX8_law 50 = .ok (.invokevirtual 93, 3) := by decide +kernel
theorem dX8_law_53 : decode cX8_law 53 = .ok (.iconst 0, 1) := by decide +kernel
theorem dX8_law_54 : decode cX8_law 54 = .ok (.istore_n 2, 1) := by decide +kernel
theorem dX8_law_55 : decode cX8_law 55 = .ok (.iconst 0, 1) := by decide +kernel
theorem dX8_law_56 : decode cX8_law 56 = .ok (.istore_n 3, 1) := by decide +kernel
theorem dX8_law_57 : decode cX8_law 57 = .ok (.iload_n 3, 1) := by decide +kernel
theorem dX8_law_58 : decode cX8_law 58 = .ok (.bipush 10, 2) := by decide +kernel
theorem dX8_law_60 : decode cX8_law 60 = .ok (.if_icmp .ge 68, 3) := by decide +kernel
theorem dX8_law_63 : decode cX8_law 63 = .ok (.aload_n 0, 1) := by decide +kernel
theorem dX8_law_64 : decode cX8_law 64 = .ok (.getfield 43, 3) := by decide +kernel
theorem dX8_law_67 : decode cX8_law 67 = .ok (.aload_n 0, 1) := by decide +kernel
theorem dX8_law_68 : decode cX8_law 68 = .ok (.getfield 16, 3) := by decide +kernel
theorem dX8_law_71 : decode cX8_law 71 = .ok (.invokevirtual 203, 3) := by decide +kernel
theorem dX8_law_74 : decode cX8_law 74 = .ok (.istore 4, 2) := by decide +kernel
theorem dX8_law_76 : decode cX8_law 76 = .ok (.aload_n 0, 1) := by decide +kernel
theorem dX8_law_77 : decode cX8_law 77 = .ok (.getfield 39, 3) := by decide +kernel
theorem dX8_law_80 : decode cX8_law 80 = .ok (.aload_n 0, 1) := by decide +kernel
theorem dX8_law_81 : decode cX8_law 81 = .ok (.getfield 19, 3) := by decide +kernel
theorem dX8_law_84 : decode cX8_law 84 = .ok (.invokevirtual 203, 3) := by decide +kernel
theorem dX8_law_87 : decode cX8_law 87 = .ok (.istore 5, 2) := by decide +kernel
theorem dX8_law_89 : decode cX8_law 89 = .ok (.iload_n 2, 1) := by decide +kernel
theorem dX8_law_90 : decode cX8_law 90 = .ok (.iload 4, 2) := by decide +kernel
theorem dX8_law_92 : decode cX8_law 92 = .ok (.iload 5, 2) := by decide +kernel
theorem dX8_law_94 : decode cX8_law 94 = .ok (.if_icmp .ne 7, 3) := by decide +kernel
theorem dX8_law_97 : decode cX8_law 97 = .ok (.iconst 0, 1) := by decide +kernel
theorem dX8_law_98 : decode cX8_law 98 = .ok (.goto 4, 3) := by decide +kernel
theorem dX8_law_101 : decode cX8_law 101 = .ok (.iconst 1, 1) := by decide +kernel
theorem dX8_law_102 : decode cX8_law 102 = .ok (.iadd, 1) := by decide +kernel
theorem dX8_law_103 : decode cX8_law 103 = .ok (.istore_n 2, 1) := by decide +kernel
theorem dX8_law_104 : decode cX8_law 104 = .ok (.aload_n 0, 1) := by decide +kernel
theorem dX8_law_105 : decode cX8_law 105 = .ok (.getfield 16, 3) := by decide +kernel
theorem dX8_law_108 : decode cX8_law 108 = .ok (.iload 4, 2) := by decide +kernel
theorem dX8_law_110 : decode cX8_law 110 = .ok (.invokevirtual 210, 3) := by decide +kernel
theorem dX8_law_113 : decode cX8_law 113 = .ok (.aload_n 0, 1) := by decide +kernel
theorem dX8_law_114 : decode cX8_law 114 = .ok (.getfield 19, 3) := by decide +kernel
theorem dX8_law_117 : decode cX8_law 117 = .ok (.iload 5, 2) := by decide +kernel
theorem dX8_law_119 : decode cX8_law 119 = .ok (.invokevirtual 210, 3) := by decide +kernel
theorem dX8_law_122 : decode cX8_law 122 = .ok (.iinc 3 1, 3) := by decide +kernel
theorem dX8_law_125 : decode cX8_law 125 = .ok (.goto (-68), 3) := by decide +kernel
theorem dX8_law_128 : decode cX8_law 128 = .ok (.aload_n 0, 1) := by decide +kernel
theorem dX8_law_129 : decode cX8_law 129 = .ok (.getfield 32, 3) := by decide +kernel
theorem dX8_law_132 : decode cX8_law 132 = .ok (.aload_n 0, 1) := by decide +kernel
theorem dX8_law_133 : decode cX8_law 133 = .ok (.getfield 16, 3) := by decide +kernel
theorem dX8_law_136 : decode cX8_law 136 = .ok (.invokevirtual 191, 3) := by decide +kernel
theorem dX8_law_139 : decode cX8_law 139 = .ok (.i2l, 1) := by decide +kernel
theorem dX8_law_140 : decode cX8_law 140 = .ok (.aload_n 0, 1) := by decide +kernel
theorem dX8_law_141 : decode cX8_law 141 = .ok (.getfield 19, 3) := by decide +kernel
theorem dX8_law_144 : decode cX8_law 144 = .ok (.invokevirtual 191, 3) := by decide +kernel
theorem dX8_law_147 : decode cX8_law 147 = .ok (.i2l, 1) := by decide +kernel
theorem dX8_law_148 : decode cX8_law 148 = .ok (.invokevirtual 194, 3) := by decide +kernel
theorem dX8_law_151 : decode cX8_law 151 = .ok (.iload_n 2, 1) := by decide +kernel
theorem dX8_law_152 : decode cX8_law 152 = .ok (.ireturn, 1) := by decide +kernel
theorem dX8_rests_0 : decode cX8_rests 0 = .ok (.iload_n 1, 1) := by decide +kernel
theorem dX8_rests_1 : decode cX8_rests 1 = .ok (.ifCond .lt 9, 3) := by decide +kernel
theorem dX8_rests_4 : decode cX8_rests 4 = .ok (.iload_n 1, 1) := by decide +kernel
theorem dX8_rests_5 : decode cX8_rests 5 = .ok (.bipush 20, 2) := by decide +kernel
theorem dX8_rests_7 : decode cX8_rests 7 = .ok (.if_icmp .le 5, 3) := by decide +kernel
theorem dX8_rests_10 : decode cX8_rests 10 = .ok (.iconst (-1), 1) := by decide +kernel
theorem dX8_rests_11 : decode cX8_rests 11 = .ok (.ireturn, 1) := by decide +kernel
theorem dX8_rests_12 : decode cX8_rests 12 = .ok (.aload_n 0, 1) := by decide +kernel
theorem dX8_rests_13 : decode cX8_rests 13 = .ok (.getfield 32, 3) := by decide +kernel
theorem dX8_rests_16 : decode cX8_rests 16 = .ok (.invokevirtual 222, 3) := by decide +kernel
theorem dX8_rests_19 : decode cX8_rests 19 = .ok (.iconst 0, 1) := by decide +kernel
theorem dX8_rests_20 : decode cX8_rests 20 = .ok (.istore_n 2, 1) := by decide +kernel
theorem dX8_rests_21 : decode cX8_rests 21 = .ok (.iconst 0, 1) := by decide +kernel
theorem dX8_rests_22 : decode cX8_rests 22 = .ok (.istore_n 3, 1) := by decide +kernel
theorem dX8_rests_23 : decode cX8_rests 23 = .ok (.iload_n 3, 1) := by decide +kernel
theorem dX8_rests_24 : decode cX8_rests 24 = .ok (.bipush 9, 2) := by decide +kernel
theorem dX8_rests_26 : decode cX8_rests 26 = .ok (.if_icmp .gt 64, 3) := by decide +kernel
theorem dX8_rests_29 : decode cX8_rests 29 = .ok (.iconst 0, 1) := by decide +kernel
theorem dX8_rests_30 : decode cX8_rests 30 = .ok (.istore 4, 2) := by decide +kernel
theorem dX8_rests_32 : decode cX8_rests 32 = .ok (.iload 4, 2) := by decide +kernel
theorem dX8_rests_34 : decode cX8_rests 34 = .ok (.bipush 9, 2) := by decide +kernel
theorem dX8_rests_36 : decode cX8_rests 36 = .ok (.if_icmp .gt 48, 3) := by decide +kernel
theorem dX8_rests_39 : decode cX8_rests 39 = .ok (.iload_n 3, 1) := by decide +kernel
theorem dX8_rests_40 : decode cX8_rests 40 = .ok (.iload 4, 2) := by decide +kernel
theorem dX8_rests_42 : decode cX8_rests 42 = .ok (.iload_n 1, 1) := by decide +kernel
theorem dX8_rests_43 : decode cX8_rests 43 = .ok (.invokestatic 354, 3) := by decide +kernel
theorem dX8_rests_46 : decode cX8_rests 46 = .ok (.ifCond .eq 32, 3) := by decide +kernel
theorem dX8_rests_49 : decode cX8_rests 49 = .ok (.iload 4, 2) := by decide +kernel
theorem dX8_rests_51 : decode cX8_rests 51 = .ok (.iload_n 3, 1) := by decide +kernel
theorem dX8_rests_52 : decode cX8_rests 52 = .ok (.iload_n 1, 1) := by decide +kernel
theorem dX8_rests_53 : decode cX8_rests 53 = .ok (.invokestatic 354, 3) := by decide +kernel
theorem dX8_rests_56 : decode cX8_rests 56 = .ok (.ifCond .eq 22, 3) := by decide +kernel
theorem dX8_rests_59 : decode cX8_rests 59 = .ok (.iload_n 2, 1) := by decide +kernel
theorem dX8_rests_60 : decode cX8_rests 60 = .ok (.ifCond .ne 15, 3) := by decide +kernel
theorem dX8_rests_63 : decode cX8_rests 63 = .ok (.aload_n 0, 1) := by decide +kernel
theorem dX8_rests_64 : decode cX8_rests 64 = .ok (.getfield 32, 3) := by decide +kernel
theorem dX8_rests_67 : decode cX8_rests 67 = .ok (.iload_n 3, 1) := by decide +kernel
theorem dX8_rests_68 : decode cX8_rests 68 = .ok (.i2l, 1) := by decide +kernel
theorem dX8_rests_69 : decode cX8_rests 69 = .ok (.iload 4, 2) := by decide +kernel
theorem dX8_rests_71 : decode cX8_rests 71 = .ok (.i2l, 1) := by decide +kernel
theorem dX8_rests_72 : decode cX8_rests 72 = .ok (.invokevirtual 194, 3) := by decide +kernel
theorem dX8_rests_75 : decode cX8_rests 75 = .ok (.iinc 2 1, 3) := by decide +kernel
theorem dX8_rests_78 : decode cX8_rests 78 = .ok (.iinc 4 1, 3) := by decide +kernel
theorem dX8_rests_81 : decode cX8_rests 81 = .ok (.goto (-49), 3) := by decide +kernel
theorem dX8_rests_84 : decode cX8_rests 84 = .ok (.iinc 3 1, 3) := by decide +kernel
theorem dX8_rests_87 : decode cX8_rests 87 = .ok (.goto (-64), 3) := by decide +kernel
theorem dX8_rests_90 : decode cX8_rests 90 = .ok (.iload_n 2, 1) := by decide +kernel
theorem dX8_rests_91 : decode cX8_rests 91 = .ok (.ireturn, 1) := by decide +kernel
theorem dX8_years_0 : decode cX8_years 0 = .ok (.iload_n 2, 1) := by decide +kernel
theorem dX8_years_1 : decode cX8_years 1 = .ok (.iconst 1, 1) := by decide +kernel
theorem dX8_years_2 : decode cX8_years 2 = .ok (.if_icmp .lt 9, 3) := by decide +kernel
theorem dX8_years_5 : decode cX8_years 5 = .ok (.iload_n 2, 1) := by decide +kernel
theorem dX8_years_6 : decode cX8_years 6 = .ok (.bipush 60, 2) := by decide +kernel
theorem dX8_years_8 : decode cX8_years 8 = .ok (.if_icmp .le 5, 3) := by decide +kernel
theorem dX8_years_11 : decode cX8_years 11 = .ok (.iconst (-1), 1) := by decide +kernel
theorem dX8_years_12 : decode cX8_years 12 = .ok (.ireturn, 1) := by decide +kernel
theorem dX8_years_13 : decode cX8_years 13 = .ok (.aload_n 0, 1) := by decide +kernel
theorem dX8_years_14 : decode cX8_years 14 = .ok (.iload_n 1, 1) := by decide +kernel
theorem dX8_years_15 : decode cX8_years 15 = .ok (.putfield 79, 3) := by decide +kernel
theorem dX8_years_18 : decode cX8_years 18 = .ok (.aload_n 0, 1) := by decide +kernel
theorem dX8_years_19 : decode cX8_years 19 = .ok (.getfield 16, 3) := by decide +kernel
theorem dX8_years_22 : decode cX8_years 22 = .ok (.aload_n 0, 1) := by decide +kernel
theorem dX8_years_23 : decode cX8_years 23 = .ok (.getfield 10, 3) := by decide +kernel
theorem dX8_years_26 : decode cX8_years 26 = .ok (.invokevirtual 93, 3) := by decide +kernel
theorem dX8_years_29 : decode cX8_years 29 = .ok (.iconst 0, 1) := by decide +kernel
theorem dX8_years_30 : decode cX8_years 30 = .ok (.istore_n 3, 1) := by decide +kernel
theorem dX8_years_31 : decode cX8_years 31 = .ok (.iload_n 3, 1) := by decide +kernel
theorem dX8_years_32 : decode cX8_years 32 = .ok (.iload_n 2, 1) := by decide +kernel
theorem dX8_years_33 : decode cX8_years 33 = .ok (.if_icmp .ge 94, 3) := by decide +kernel
theorem dX8_years_36 : decode cX8_years 36 = .ok (.aload_n 0, 1) := by decide +kernel
theorem dX8_years_37 : decode cX8_years 37 = .ok (.iconst 4, 1) := by decide +kernel
theorem dX8_years_38 : decode cX8_years 38 = .ok (.invokevirtual 358, 3) := by decide +kernel
theorem dX8_years_41 : decode cX8_years 41 = .ok (.istore 4, 2) := by decide +kernel
theorem dX8_years_43 : decode cX8_years 43 = .ok (.iload 4, 2) := by decide +kernel
theorem dX8_years_45 : decode cX8_years 45 = .ok (.iconst 2, 1) := by decide +kernel
theorem dX8_years_46 : decode cX8_years 46 = .ok (.if_icmp .ge 24, 3) := by decide +kernel
theorem dX8_years_49 : decode cX8_years 49 = .ok (.aload_n 0, 1) := by decide +kernel
theorem dX8_years_50 : decode cX8_years 50 = .ok (.getfield 16, 3) := by decide +kernel
theorem dX8_years_53 : decode cX8_years 53 = .ok (.aload_n 0, 1) := by decide +kernel
theorem dX8_years_54 : decode cX8_years 54 = .ok (.getfield 39, 3) := by decide +kernel
theorem dX8_years_57 : decode cX8_years 57 = .ok (.aload_n 0, 1) := by decide +kernel
theorem dX8_years_58 : decode cX8_years 58 = .ok (.getfield 16, 3) := by decide +kernel
theorem dX8_years_61 : decode cX8_years 61 = .ok (.invokevirtual 203, 3) := by decide +kernel
theorem dX8_years_64 : decode cX8_years 64 = .ok (.invokevirtual 210, 3) := by decide +kernel
theorem dX8_years_67 : decode cX8_years 67 = .ok (.goto 54, 3) := by decide +kernel
theorem dX8_years_70 : decode cX8_years 70 = .ok (.iload 4, 2) := by decide +kernel
theorem dX8_years_72 : decode cX8_years 72 = .ok (.iconst 2, 1) := by decide +kernel
theorem dX8_years_73 : decode cX8_years 73 = .ok (.if_icmp .ne 44, 3) := by decide +kernel
theorem dX8_years_76 : decode cX8_years 76 = .ok (.aload_n 0, 1) := by decide +kernel
theorem dX8_years_77 : decode cX8_years 77 = .ok (.aload_n 0, 1) := by decide +kernel
theorem dX8_years_78 : decode cX8_years 78 = .ok (.getfield 16, 3) := by decide +kernel
theorem dX8_years_81 : decode cX8_years 81 = .ok (.getfield 100, 3) := by decide +kernel
theorem dX8_years_84 : decode cX8_years 84 = .ok (.invokevirtual 358, 3) := by decide +kernel
theorem dX8_years_87 : decode cX8_years 87 = .ok (.istore 5, 2) := by decide +kernel
theorem dX8_years_89 : decode cX8_years 89 = .ok (.aload_n 0, 1) := by decide +kernel
theorem dX8_years_90 : decode cX8_years 90 = .ok (.aload_n 0, 1) := by decide +kernel
theorem dX8_years_91 : decode cX8_years 91 = .ok (.getfield 16, 3) := by decide +kernel
theorem dX8_years_94 : decode cX8_years 94 = .ok (.getfield 213, 3) := by decide +kernel
theorem dX8_years_97 : decode cX8_years 97 = .ok (.invokevirtual 358, 3) := by decide +kernel
theorem dX8_years_100 : decode cX8_years 100 = .ok (.istore 6, 2) := by decide +kernel
theorem dX8_years_102 : decode cX8_years 102 = .ok (.aload_n 0, 1) := by decide +kernel
theorem dX8_years_103 : decode cX8_years 103 = .ok (.getfield 16, 3) := by decide +kernel
theorem dX8_years_106 : decode cX8_years 106 = .ok (.iload 5, 2) := by decide +kernel
theorem dX8_years_108 : decode cX8_years 108 = .ok (.iload 6, 2) := by decide +kernel
theorem dX8_years_110 : decode cX8_years 110 = .ok (.invokevirtual 166, 3) := by decide +kernel
theorem dX8_years_113 : decode cX8_years 113 = .ok (.pop, 1) := by decide +kernel
theorem dX8_years_114 : decode cX8_years 114 = .ok (.goto 7, 3) := by decide +kernel
theorem dX8_years_117 : decode cX8_years 117 = .ok (.aload_n 0, 1) := by decide +kernel
theorem dX8_years_118 : decode cX8_years 118 = .ok (.invokevirtual 361, 3) := by decide +kernel
theorem dX8_years_121 : decode cX8_years 121 = .ok (.iinc 3 1, 3) := by decide +kernel
theorem dX8_years_124 : decode cX8_years 124 = .ok (.goto (-93), 3) := by decide +kernel
theorem dX8_years_127 : decode cX8_years 127 = .ok (.aload_n 0, 1) := by decide +kernel
theorem dX8_years_128 : decode cX8_years 128 = .ok (.getfield 32, 3) := by decide +kernel
theorem dX8_years_131 : decode cX8_years 131 = .ok (.aload_n 0, 1) := by decide +kernel
theorem dX8_years_132 : decode cX8_years 132 = .ok (.getfield 16, 3) := by decide +kernel
theorem dX8_years_135 : decode cX8_years 135 = .ok (.invokevirtual 364, 3) := by decide +kernel
theorem dX8_years_138 : decode cX8_years 138 = .ok (.i2l, 1) := by decide +kernel
theorem dX8_years_139 : decode cX8_years 139 = .ok (.aload_n 0, 1) := by decide +kernel
theorem dX8_years_140 : decode cX8_years 140 = .ok (.getfield 49, 3) := by decide +kernel
theorem dX8_years_143 : decode cX8_years 143 = .ok (.aload_n 0, 1) := by decide +kernel
theorem dX8_years_144 : decode cX8_years 144 = .ok (.getfield 16, 3) := by decide +kernel
theorem dX8_years_147 : decode cX8_years 147 = .ok (.invokevirtual 218, 3) := by decide +kernel
theorem dX8_years_150 : decode cX8_years 150 = .ok (.ifCond .eq 7, 3) := by decide +kernel
theorem dX8_years_153 : decode cX8_years 153 = .ok (.lconst 1, 1) := by decide +kernel
theorem dX8_years_154 : decode cX8_years 154 = .ok (.goto 4, 3) := by decide +kernel
theorem dX8_years_157 : decode cX8_years 157 = .ok (.lconst 0, 1) := by decide +kernel
theorem dX8_years_158 : decode cX8_years 158 = .ok (.invokevirtual 194, 3) := by decide +kernel
theorem dX8_years_161 : decode cX8_years 161 = .ok (.aload_n 0, 1) := by decide +kernel
theorem dX8_years_162 : decode cX8_years 162 = .ok (.getfield 16, 3) := by decide +kernel
theorem dX8_years_165 : decode cX8_years 165 = .ok (.invokevirtual 191, 3) := by decide +kernel
theorem dX8_years_168 : decode cX8_years 168 = .ok (.ireturn, 1) := by decide +kernel
theorem dX8_keep_0 : decode cX8_keep 0 = .ok (.iload_n 1, 1) := by decide +kernel
theorem dX8_keep_1 : decode cX8_keep 1 = .ok (.ifCond .lt 8, 3) := by decide +kernel
theorem dX8_keep_4 : decode cX8_keep 4 = .ok (.iload_n 1, 1) := by decide +kernel
theorem dX8_keep_5 : decode cX8_keep 5 = .ok (.iconst 3, 1) := by decide +kernel
theorem dX8_keep_6 : decode cX8_keep 6 = .ok (.if_icmp .lt 5, 3) := by decide +kernel
theorem dX8_keep_9 : decode cX8_keep 9 = .ok (.iconst 0, 1) := by decide +kernel
theorem dX8_keep_10 : decode cX8_keep 10 = .ok (.ireturn, 1) := by decide +kernel
theorem dX8_keep_11 : decode cX8_keep 11 = .ok (.aload_n 0, 1) := by decide +kernel
theorem dX8_keep_12 : decode cX8_keep 12 = .ok (.getfield 76, 3) := by decide +kernel
theorem dX8_keep_15 : decode cX8_keep 15 = .ok (.iload_n 1, 1) := by decide +kernel
theorem dX8_keep_16 : decode cX8_keep 16 = .ok (.aload_n 0, 1) := by decide +kernel
theorem dX8_keep_17 : decode cX8_keep 17 = .ok (.getfield 10, 3) := by decide +kernel
theorem dX8_keep_20 : decode cX8_keep 20 = .ok (.invokevirtual 141, 3) := by decide +kernel
theorem dX8_keep_23 : decode cX8_keep 23 = .ok (.aload_n 0, 1) := by decide +kernel
theorem dX8_keep_24 : decode cX8_keep 24 = .ok (.getfield 10, 3) := by decide +kernel
theorem dX8_keep_27 : decode cX8_keep 27 = .ok (.getfield 145, 3) := by decide +kernel
theorem dX8_keep_30 : decode cX8_keep 30 = .ok (.invokevirtual 367, 3) := by decide +kernel
theorem dX8_keep_33 : decode cX8_keep 33 = .ok (.iconst 1, 1) := by decide +kernel
theorem dX8_keep_34 : decode cX8_keep 34 = .ok (.ireturn, 1) := by decide +kernel
theorem dX8_again_0 : decode cX8_again 0 = .ok (.aload_n 0, 1) := by decide +kernel
theorem dX8_again_1 : decode cX8_again 1 = .ok (.getfield 76, 3) := by decide +kernel
theorem dX8_again_4 : decode cX8_again 4 = .ok (.iload_n 1, 1) := by decide +kernel
theorem dX8_again_5 : decode cX8_again 5 = .ok (.invokevirtual 371, 3) := by decide +kernel
theorem dX8_again_8 : decode cX8_again 8 = .ok (.ifCond .ne 5, 3) := by decide +kernel
theorem dX8_again_11 : decode cX8_again 11 = .ok (.iconst 0, 1) := by decide +kernel
theorem dX8_again_12 : decode cX8_again 12 = .ok (.ireturn, 1) := by decide +kernel
theorem dX8_again_13 : decode cX8_again 13 = .ok (.aload_n 0, 1) := by decide +kernel
theorem dX8_again_14 : decode cX8_again 14 = .ok (.getfield 76, 3) := by decide +kernel
theorem dX8_again_17 : decode cX8_again 17 = .ok (.iload_n 1, 1) := by decide +kernel
theorem dX8_again_18 : decode cX8_again 18 = .ok (.aload_n 0, 1) := by decide +kernel
theorem dX8_again_19 : decode cX8_again 19 = .ok (.getfield 10, 3) := by decide +kernel
theorem dX8_again_22 : decode cX8_again 22 = .ok (.invokevirtual 199, 3) := by decide +kernel
theorem dX8_again_25 : decode cX8_again 25 = .ok (.aload_n 0, 1) := by decide +kernel
theorem dX8_again_26 : decode cX8_again 26 = .ok (.getfield 72, 3) := by decide +kernel
theorem dX8_again_29 : decode cX8_again 29 = .ok (.invokevirtual 97, 3) := by decide +kernel
theorem dX8_again_32 : decode cX8_again 32 = .ok (.iconst 1, 1) := by decide +kernel
theorem dX8_again_33 : decode cX8_again 33 = .ok (.ireturn, 1) := by decide +kernel
theorem dX8_count_0 : decode cX8_count 0 = .ok (.iload_n 1, 1) := by decide +kernel
theorem dX8_count_1 : decode cX8_count 1 = .ok (.tableswitch 111 0 7 #[47, 55, 63, 71, 79, 87, 95, 103], 47) := by decide +kernel
theorem dX8_count_48 : decode cX8_count 48 = .ok (.aload_n 0, 1) := by decide +kernel
theorem dX8_count_49 : decode cX8_count 49 = .ok (.getfield 10, 3) := by decide +kernel
theorem dX8_count_52 : decode cX8_count 52 = .ok (.getfield 100, 3) := by decide +kernel
theorem dX8_count_55 : decode cX8_count 55 = .ok (.ireturn, 1) := by decide +kernel
theorem dX8_count_56 : decode cX8_count 56 = .ok (.aload_n 0, 1) := by decide +kernel
theorem dX8_count_57 : decode cX8_count 57 = .ok (.getfield 10, 3) := by decide +kernel
theorem dX8_count_60 : decode cX8_count 60 = .ok (.getfield 213, 3) := by decide +kernel
theorem dX8_count_63 : decode cX8_count 63 = .ok (.ireturn, 1) := by decide +kernel
theorem dX8_count_64 : decode cX8_count 64 = .ok (.aload_n 0, 1) := by decide +kernel
theorem dX8_count_65 : decode cX8_count 65 = .ok (.getfield 10, 3) := by decide +kernel
theorem dX8_count_68 : decode cX8_count 68 = .ok (.getfield 145, 3) := by decide +kernel
theorem dX8_count_71 : decode cX8_count 71 = .ok (.ireturn, 1) := by decide +kernel
theorem dX8_count_72 : decode cX8_count 72 = .ok (.aload_n 0, 1) := by decide +kernel
theorem dX8_count_73 : decode cX8_count 73 = .ok (.getfield 10, 3) := by decide +kernel
theorem dX8_count_76 : decode cX8_count 76 = .ok (.invokevirtual 364, 3) := by decide +kernel
theorem dX8_count_79 : decode cX8_count 79 = .ok (.ireturn, 1) := by decide +kernel
theorem dX8_count_80 : decode cX8_count 80 = .ok (.aload_n 0, 1) := by decide +kernel
theorem dX8_count_81 : decode cX8_count 81 = .ok (.getfield 63, 3) := by decide +kernel
theorem dX8_count_84 : decode cX8_count 84 = .ok (.getfield 325, 3) := by decide +kernel
theorem dX8_count_87 : decode cX8_count 87 = .ok (.ireturn, 1) := by decide +kernel
theorem dX8_count_88 : decode cX8_count 88 = .ok (.aload_n 0, 1) := by decide +kernel
theorem dX8_count_89 : decode cX8_count 89 = .ok (.getfield 72, 3) := by decide +kernel
theorem dX8_count_92 : decode cX8_count 92 = .ok (.getfield 198, 3) := by decide +kernel
theorem dX8_count_95 : decode cX8_count 95 = .ok (.ireturn, 1) := by decide +kernel
theorem dX8_count_96 : decode cX8_count 96 = .ok (.aload_n 0, 1) := by decide +kernel
theorem dX8_count_97 : decode cX8_count 97 = .ok (.getfield 32, 3) := by decide +kernel
theorem dX8_count_100 : decode cX8_count 100 = .ok (.getfield 374, 3) := by decide +kernel
theorem dX8_count_103 : decode cX8_count 103 = .ok (.ireturn, 1) := by decide +kernel
theorem dX8_count_104 : decode cX8_count 104 = .ok (.aload_n 0, 1) := by decide +kernel
theorem dX8_count_105 : decode cX8_count 105 = .ok (.getfield 25, 3) := by decide +kernel
theorem dX8_count_108 : decode cX8_count 108 = .ok (.getfield 83, 3) := by decide +kernel
theorem dX8_count_111 : decode cX8_count 111 = .ok (.ireturn, 1) := by decide +kernel
theorem dX8_count_112 : decode cX8_count 112 = .ok (.bipush (-100), 2) := by decide +kernel
theorem dX8_count_114 : decode cX8_count 114 = .ok (.ireturn, 1) := by decide +kernel
theorem dX8_row_0 : decode cX8_row 0 = .ok (.iload_n 1, 1) := by decide +kernel
theorem dX8_row_1 : decode cX8_row 1 = .ok (.ifCond .lt 14, 3) := by decide +kernel
theorem dX8_row_4 : decode cX8_row 4 = .ok (.iload_n 1, 1) := by decide +kernel
theorem dX8_row_5 : decode cX8_row 5 = .ok (.aload_n 0, 1) := by decide +kernel
theorem dX8_row_6 : decode cX8_row 6 = .ok (.getfield 32, 3) := by decide +kernel
theorem dX8_row_9 : decode cX8_row 9 = .ok (.getfield 374, 3) := by decide +kernel
theorem dX8_row_12 : decode cX8_row 12 = .ok (.if_icmp .lt 11, 3) := by decide +kernel
theorem dX8_row_15 : decode cX8_row 15 = .ok (.new 111, 3) := by decide +kernel
theorem dX8_row_18 : decode cX8_row 18 = .ok (.dup, 1) := by decide +kernel
theorem dX8_row_19 : decode cX8_row 19 = .ok (.invokespecial 113, 3) := by decide +kernel
theorem dX8_row_22 : decode cX8_row 22 = .ok (.athrow, 1) := by decide +kernel
theorem dX8_row_23 : decode cX8_row 23 = .ok (.aload_n 0, 1) := by decide +kernel
theorem dX8_row_24 : decode cX8_row 24 = .ok (.getfield 32, 3) := by decide +kernel
theorem dX8_row_27 : decode cX8_row 27 = .ok (.getfield 375, 3) := by decide +kernel
theorem dX8_row_30 : decode cX8_row 30 = .ok (.iload_n 1, 1) := by decide +kernel
theorem dX8_row_31 : decode cX8_row 31 = .ok (.laload, 1) := by decide +kernel
theorem dX8_row_32 : decode cX8_row 32 = .ok (.lreturn, 1) := by decide +kernel
theorem dX8_noted_0 : decode cX8_noted 0 = .ok (.iload_n 1, 1) := by decide +kernel
theorem dX8_noted_1 : decode cX8_noted 1 = .ok (.ifCond .lt 13, 3) := by decide +kernel
theorem dX8_noted_4 : decode cX8_noted 4 = .ok (.aload_n 0, 1) := by decide +kernel
theorem dX8_noted_5 : decode cX8_noted 5 = .ok (.getfield 72, 3) := by decide +kernel
theorem dX8_noted_8 : decode cX8_noted 8 = .ok (.lload_n 2, 1) := by decide +kernel
theorem dX8_noted_9 : decode cX8_noted 9 = .ok (.iload 4, 2) := by decide +kernel
theorem dX8_noted_11 : decode cX8_noted 11 = .ok (.invokevirtual 148, 3) := by decide +kernel
theorem dX8_noted_14 : decode cX8_noted 14 = .ok (.iload_n 1, 1) := by decide +kernel
theorem dX8_noted_15 : decode cX8_noted 15 = .ok (.ireturn, 1) := by decide +kernel
theorem dX8_passNights_0 : decode cX8_passNights 0 = .ok (.aload_n 0, 1) := by decide +kernel
theorem dX8_passNights_1 : decode cX8_passNights 1 = .ok (.getfield 10, 3) := by decide +kernel
theorem dX8_passNights_4 : decode cX8_passNights 4 = .ok (.getfield 100, 3) := by decide +kernel
theorem dX8_passNights_7 : decode cX8_passNights 7 = .ok (.istore_n 2, 1) := by decide +kernel
theorem dX8_passNights_8 : decode cX8_passNights 8 = .ok (.aload_n 0, 1) := by decide +kernel
theorem dX8_passNights_9 : decode cX8_passNights 9 = .ok (.getfield 10, 3) := by decide +kernel
theorem dX8_passNights_12 : decode cX8_passNights 12 = .ok (.getfield 213, 3) := by decide +kernel
theorem dX8_passNights_15 : decode cX8_passNights 15 = .ok (.istore_n 3, 1) := by decide +kernel
theorem dX8_passNights_16 : decode cX8_passNights 16 = .ok (.iconst 0, 1) := by decide +kernel
theorem dX8_passNights_17 : decode cX8_passNights 17 = .ok (.istore 4, 2) := by decide +kernel
theorem dX8_passNights_19 : decode cX8_passNights 19 = .ok (.iload 4, 2) := by decide +kernel
theorem dX8_passNights_21 : decode cX8_passNights 21 = .ok (.iload_n 1, 1) := by decide +kernel
theorem dX8_passNights_22 : decode cX8_passNights 22 = .ok (.if_icmp .ge 27, 3) := by decide +kernel
theorem dX8_passNights_25 : decode cX8_passNights 25 = .ok (.aload_n 0, 1) := by decide +kernel
theorem dX8_passNights_26 : decode cX8_passNights 26 = .ok (.getfield 10, 3) := by decide +kernel
theorem dX8_passNights_29 : decode cX8_passNights 29 = .ok (.aload_n 0, 1) := by decide +kernel
theorem dX8_passNights_30 : decode cX8_passNights 30 = .ok (.getfield 39, 3) := by decide +kernel
theorem dX8_passNights_33 : decode cX8_passNights 33 = .ok (.aload_n 0, 1) := by decide +kernel
theorem dX8_passNights_34 : decode cX8_passNights 34 = .ok (.getfield 10, 3) := by decide +kernel
theorem dX8_passNights_37 : decode cX8_passNights 37 = .ok (.invokevirtual 203, 3) := by decide +kernel
theorem dX8_passNights_40 : decode cX8_passNights 40 = .ok (.invokevirtual 210, 3) := by decide +kernel
theorem dX8_passNights_43 : decode cX8_passNights 43 = .ok (.iinc 4 1, 3) := by decide +kernel
theorem dX8_passNights_46 : decode cX8_passNights 46 = .ok (.goto (-27), 3) := by decide +kernel
theorem dX8_passNights_49 : decode cX8_passNights 49 = .ok (.aload_n 0, 1) := by decide +kernel
theorem dX8_passNights_50 : decode cX8_passNights 50 = .ok (.getfield 32, 3) := by decide +kernel
theorem dX8_passNights_53 : decode cX8_passNights 53 = .ok (.iload_n 2, 1) := by decide +kernel
theorem dX8_passNights_54 : decode cX8_passNights 54 = .ok (.aload_n 0, 1) := by decide +kernel
theorem dX8_passNights_55 : decode cX8_passNights 55 = .ok (.getfield 10, 3) := by decide +kernel
theorem dX8_passNights_58 : decode cX8_passNights 58 = .ok (.getfield 100, 3) := by decide +kernel
theorem dX8_passNights_61 : decode cX8_passNights 61 = .ok (.isub, 1) := by decide +kernel
theorem dX8_passNights_62 : decode cX8_passNights 62 = .ok (.i2l, 1) := by decide +kernel
theorem dX8_passNights_63 : decode cX8_passNights 63 = .ok (.iload_n 3, 1) := by decide +kernel
theorem dX8_passNights_64 : decode cX8_passNights 64 = .ok (.aload_n 0, 1) := by decide +kernel
theorem dX8_passNights_65 : decode cX8_passNights 65 = .ok (.getfield 10, 3) := by decide +kernel
theorem dX8_passNights_68 : decode cX8_passNights 68 = .ok (.getfield 213, 3) := by decide +kernel
theorem dX8_passNights_71 : decode cX8_passNights 71 = .ok (.isub, 1) := by decide +kernel
theorem dX8_passNights_72 : decode cX8_passNights 72 = .ok (.i2l, 1) := by decide +kernel
theorem dX8_passNights_73 : decode cX8_passNights 73 = .ok (.invokevirtual 194, 3) := by decide +kernel
theorem dX8_passNights_76 : decode cX8_passNights 76 = .ok (.aload_n 0, 1) := by decide +kernel
theorem dX8_passNights_77 : decode cX8_passNights 77 = .ok (.getfield 10, 3) := by decide +kernel
theorem dX8_passNights_80 : decode cX8_passNights 80 = .ok (.invokevirtual 191, 3) := by decide +kernel
theorem dX8_passNights_83 : decode cX8_passNights 83 = .ok (.ireturn, 1) := by decide +kernel
theorem dX8_digitsOf_0 : decode cX8_digitsOf 0 = .ok (.iload_n 0, 1) := by decide +kernel
theorem dX8_digitsOf_1 : decode cX8_digitsOf 1 = .ok (.lookupswitch 71 #[(100, 59), (109, 67), (110, 51), (116, 63), (119, 55)], 51) := by decide +kernel
theorem dX8_digitsOf_52 : decode cX8_digitsOf 52 = .ok (.ldc_w 378, 3) := by decide +kernel
theorem dX8_digitsOf_55 : decode cX8_digitsOf 55 = .ok (.areturn, 1) := by decide +kernel
theorem dX8_digitsOf_56 : decode cX8_digitsOf 56 = .ok (.ldc_w 380, 3) := by decide +kernel
theorem dX8_digitsOf_59 : decode cX8_digitsOf 59 = .ok (.areturn, 1) := by decide +kernel
theorem dX8_digitsOf_60 : decode cX8_digitsOf 60 = .ok (.ldc_w 382, 3) := by decide +kernel
theorem dX8_digitsOf_63 : decode cX8_digitsOf 63 = .ok (.areturn, 1) := by decide +kernel
theorem dX8_digitsOf_64 : decode cX8_digitsOf 64 = .ok (.ldc_w 384, 3) := by decide +kernel
theorem dX8_digitsOf_67 : decode cX8_digitsOf 67 = .ok (.areturn, 1) := by decide +kernel
theorem dX8_digitsOf_68 : decode cX8_digitsOf 68 = .ok (.ldc_w 386, 3) := by decide +kernel
theorem dX8_digitsOf_71 : decode cX8_digitsOf 71 = .ok (.areturn, 1) := by decide +kernel
theorem dX8_digitsOf_72 : decode cX8_digitsOf 72 = .ok (.ldc_w 388, 3) := by decide +kernel
theorem dX8_digitsOf_75 : decode cX8_digitsOf 75 = .ok (.areturn, 1) := by decide +kernel
theorem dX8_workFault_0 : decode cX8_workFault 0 = .ok (.ldc_w 388, 3) := by decide +kernel
theorem dX8_workFault_3 : decode cX8_workFault 3 = .ok (.astore_n 1, 1) := by decide +kernel
theorem dX8_workFault_4 : decode cX8_workFault 4 = .ok (.iconst 0, 1) := by decide +kernel
theorem dX8_workFault_5 : decode cX8_workFault 5 = .ok (.istore_n 2, 1) := by decide +kernel
theorem dX8_workFault_6 : decode cX8_workFault 6 = .ok (.aload_n 0, 1) := by decide +kernel
theorem dX8_workFault_7 : decode cX8_workFault 7 = .ok (.getfield 25, 3) := by decide +kernel
theorem dX8_workFault_10 : decode cX8_workFault 10 = .ok (.getfield 83, 3) := by decide +kernel
theorem dX8_workFault_13 : decode cX8_workFault 13 = .ok (.bipush 60, 2) := by decide +kernel
theorem dX8_workFault_15 : decode cX8_workFault 15 = .ok (.invokestatic 390, 3) := by decide +kernel
theorem dX8_workFault_18 : decode cX8_workFault 18 = .ok (.istore_n 3, 1) := by decide +kernel
theorem dX8_workFault_19 : decode cX8_workFault 19 = .ok (.iconst 0, 1) := by decide +kernel
theorem dX8_workFault_20 : decode cX8_workFault 20 = .ok (.istore 4, 2) := by decide +kernel
theorem dX8_workFault_22 : decode cX8_workFault 22 = .ok (.iload 4, 2) := by decide +kernel
theorem dX8_workFault_24 : decode cX8_workFault 24 = .ok (.iload_n 3, 1) := by decide +kernel
theorem dX8_workFault_25 : decode cX8_workFault 25 = .ok (.if_icmp .ge 69, 3) := by decide +kernel
theorem dX8_workFault_28 : decode cX8_workFault 28 = .ok (.aload_n 0, 1) := by decide +kernel
theorem dX8_workFault_29 : decode cX8_workFault 29 = .ok (.getfield 25, 3) := by decide +kernel
theorem dX8_workFault_32 : decode cX8_workFault 32 = .ok (.iload 4, 2) := by decide +kernel
theorem dX8_workFault_34 : decode cX8_workFault 34 = .ok (.invokevirtual 179, 3) := by decide +kernel
theorem dX8_workFault_37 : decode cX8_workFault 37 = .ok (.istore 5, 2) := by decide +kernel
theorem dX8_workFault_39 : decode cX8_workFault 39 = .ok (.iload_n 2, 1) := by decide +kernel
theorem dX8_workFault_40 : decode cX8_workFault 40 = .ok (.aload_n 1, 1) := by decide +kernel
theorem dX8_workFault_41 : decode cX8_workFault 41 = .ok (.invokevirtual 186, 3) := by decide +kernel
theorem dX8_workFault_44 : decode cX8_workFault 44 = .ok (.if_icmp .ne 21, 3) := by decide +kernel
theorem dX8_workFault_47 : decode cX8_workFault 47 = .ok (.iload 5, 2) := by decide +kernel
theorem dX8_workFault_49 : decode cX8_workFault 49 = .ok (.invokestatic 182, 3) := by decide +kernel
theorem dX8_workFault_52 : decode cX8_workFault 52 = .ok (.astore_n 1, 1) := by decide +kernel
theorem dX8_workFault_53 : decode cX8_workFault 53 = .ok (.iconst 0, 1) := by decide +kernel
theorem dX8_workFault_54 : decode cX8_workFault 54 = .ok (.istore_n 2, 1) := by decide +kernel
theorem dX8_workFault_55 : decode cX8_workFault 55 = .ok (.aload_n 1, 1) := by decide +kernel
theorem dX8_workFault_56 : decode cX8_workFault 56 = .ok (.invokevirtual 393, 3) := by decide +kernel
theorem dX8_workFault_59 : decode cX8_workFault 59 = .ok (.ifCond .eq 29, 3) := by decide +kernel
theorem dX8_workFault_62 : decode cX8_workFault 62 = .ok (.iload 4, 2) := by decide +kernel
theorem dX8_workFault_64 : decode cX8_workFault 64 = .ok (.ireturn, 1) := by decide +kernel
theorem dX8_workFault_65 : decode cX8_workFault 65 = .ok (.iload 5, 2) := by decide +kernel
theorem dX8_workFault_67 : decode cX8_workFault 67 = .ok (.bipush 48, 2) := by decide +kernel
theorem dX8_workFault_69 : decode cX8_workFault 69 = .ok (.if_icmp .lt 13, 3) := by decide +kernel
theorem dX8_workFault_72 : decode cX8_workFault 72 = .ok (.iload 5, 2) := by decide +kernel
theorem dX8_workFault_74 : decode cX8_workFault 74 = .ok (.aload_n 1, 1) := by decide +kernel
theorem dX8_workFault_75 : decode cX8_workFault 75 = .ok (.iload_n 2, 1) := by decide +kernel
theorem dX8_workFault_76 : decode cX8_workFault 76 = .ok (.invokevirtual 397, 3) := by decide +kernel
theorem dX8_workFault_79 : decode cX8_workFault 79 = .ok (.if_icmp .le 6, 3) := by decide +kernel
theorem dX8_workFault_82 : decode cX8_workFault 82 = .ok (.iload 4, 2) := by decide +kernel
theorem dX8_workFault_84 : decode cX8_workFault 84 = .ok (.ireturn, 1) := by decide +kernel
theorem dX8_workFault_85 : decode cX8_workFault 85 = .ok (.iinc 2 1, 3) := by decide +kernel
theorem dX8_workFault_88 : decode cX8_workFault 88 = .ok (.iinc 4 1, 3) := by decide +kernel
theorem dX8_workFault_91 : decode cX8_workFault 91 = .ok (.goto (-69), 3) := by decide +kernel
theorem dX8_workFault_94 : decode cX8_workFault 94 = .ok (.aload_n 0, 1) := by decide +kernel
theorem dX8_workFault_95 : decode cX8_workFault 95 = .ok (.getfield 25, 3) := by decide +kernel
theorem dX8_workFault_98 : decode cX8_workFault 98 = .ok (.getfield 83, 3) := by decide +kernel
theorem dX8_workFault_101 : decode cX8_workFault 101 = .ok (.bipush 60, 2) := by decide +kernel
theorem dX8_workFault_103 : decode cX8_workFault 103 = .ok (.if_icmp .le 6, 3) := by decide +kernel
theorem dX8_workFault_106 : decode cX8_workFault 106 = .ok (.bipush 60, 2) := by decide +kernel
theorem dX8_workFault_108 : decode cX8_workFault 108 = .ok (.ireturn, 1) := by decide +kernel
theorem dX8_workFault_109 : decode cX8_workFault 109 = .ok (.iload_n 2, 1) := by decide +kernel
theorem dX8_workFault_110 : decode cX8_workFault 110 = .ok (.aload_n 1, 1) := by decide +kernel
theorem dX8_workFault_111 : decode cX8_workFault 111 = .ok (.invokevirtual 186, 3) := by decide +kernel
theorem dX8_workFault_114 : decode cX8_workFault 114 = .ok (.if_icmp .ge 13, 3) := by decide +kernel
theorem dX8_workFault_117 : decode cX8_workFault 117 = .ok (.aload_n 0, 1) := by decide +kernel
theorem dX8_workFault_118 : decode cX8_workFault 118 = .ok (.getfield 25, 3) := by decide +kernel
theorem dX8_workFault_121 : decode cX8_workFault 121 = .ok (.getfield 83, 3) := by decide +kernel
theorem dX8_workFault_124 : decode cX8_workFault 124 = .ok (.goto 4, 3) := by decide +kernel
theorem dX8_workFault_127 : decode cX8_workFault 127 = .ok (.iconst (-1), 1) := by decide +kernel
theorem dX8_workFault_128 : decode cX8_workFault 128 = .ok (.ireturn, 1) := by decide +kernel
theorem dX8_actAt_0 : decode cX8_actAt 0 = .ok (.aload_n 0, 1) := by decide +kernel
theorem dX8_actAt_1 : decode cX8_actAt 1 = .ok (.getfield 25, 3) := by decide +kernel
theorem dX8_actAt_4 : decode cX8_actAt 4 = .ok (.iload_n 1, 1) := by decide +kernel
theorem dX8_actAt_5 : decode cX8_actAt 5 = .ok (.iconst 1, 1) := by decide +kernel
theorem dX8_actAt_6 : decode cX8_actAt 6 = .ok (.iadd, 1) := by decide +kernel
theorem dX8_actAt_7 : decode cX8_actAt 7 = .ok (.invokevirtual 401, 3) := by decide +kernel
theorem dX8_actAt_10 : decode cX8_actAt 10 = .ok (.istore_n 2, 1) := by decide +kernel
theorem dX8_actAt_11 : decode cX8_actAt 11 = .ok (.aload_n 0, 1) := by decide +kernel
theorem dX8_actAt_12 : decode cX8_actAt 12 = .ok (.getfield 25, 3) := by decide +kernel
theorem dX8_actAt_15 : decode cX8_actAt 15 = .ok (.iload_n 1, 1) := by decide +kernel
theorem dX8_actAt_16 : decode cX8_actAt 16 = .ok (.iconst 2, 1) := by decide +kernel
theorem dX8_actAt_17 : decode cX8_actAt 17 = .ok (.iadd, 1) := by decide +kernel
theorem dX8_actAt_18 : decode cX8_actAt 18 = .ok (.invokevirtual 401, 3) := by decide +kernel
theorem dX8_actAt_21 : decode cX8_actAt 21 = .ok (.istore_n 3, 1) := by decide +kernel
theorem dX8_actAt_22 : decode cX8_actAt 22 = .ok (.aload_n 0, 1) := by decide +kernel
theorem dX8_actAt_23 : decode cX8_actAt 23 = .ok (.getfield 25, 3) := by decide +kernel
theorem dX8_actAt_26 : decode cX8_actAt 26 = .ok (.iload_n 1, 1) := by decide +kernel
theorem dX8_actAt_27 : decode cX8_actAt 27 = .ok (.invokevirtual 179, 3) := by decide +kernel
theorem dX8_actAt_30 : decode cX8_actAt 30 = .ok (.lookupswitch 102 #[(100, 82), (110, 42), (116, 92), (119, 48)], 42) := by decide +kernel
theorem dX8_actAt_72 : decode cX8_actAt 72 = .ok (.aload_n 0, 1) := by decide +kernel
theorem dX8_actAt_73 : decode cX8_actAt 73 = .ok (.iload_n 2, 1) := by decide +kernel
theorem dX8_actAt_74 : decode cX8_actAt 74 = .ok (.invokevirtual 152, 3) := by decide +kernel
theorem dX8_actAt_77 : decode cX8_actAt 77 = .ok (.ireturn, 1) := by decide +kernel
theorem dX8_actAt_78 : decode cX8_actAt 78 = .ok (.aload_n 0, 1) := by decide +kernel
theorem dX8_actAt_79 : decode cX8_actAt 79 = .ok (.getfield 10, 3) := by decide +kernel
theorem dX8_actAt_82 : decode cX8_actAt 82 = .ok (.iload_n 2, 1) := by decide +kernel
theorem dX8_actAt_83 : decode cX8_actAt 83 = .ok (.iload_n 3, 1) := by decide +kernel
theorem dX8_actAt_84 : decode cX8_actAt 84 = .ok (.bipush 10, 2) := by decide +kernel
theorem dX8_actAt_86 : decode cX8_actAt 86 = .ok (.aload_n 0, 1) := by decide +kernel
theorem dX8_actAt_87 : decode cX8_actAt 87 = .ok (.getfield 25, 3) := by decide +kernel
theorem dX8_actAt_90 : decode cX8_actAt 90 = .ok (.iload_n 1, 1) := by decide +kernel
theorem dX8_actAt_91 : decode cX8_actAt 91 = .ok (.iconst 3, 1) := by decide +kernel
theorem dX8_actAt_92 : decode cX8_actAt 92 = .ok (.iadd, 1) := by decide +kernel
theorem dX8_actAt_93 : decode cX8_actAt 93 = .ok (.invokevirtual 401, 3) := by decide +kernel
theorem dX8_actAt_96 : decode cX8_actAt 96 = .ok (.imul, 1) := by decide +kernel
theorem dX8_actAt_97 : decode cX8_actAt 97 = .ok (.aload_n 0, 1) := by decide +kernel
theorem dX8_actAt_98 : decode cX8_actAt 98 = .ok (.getfield 25, 3) := by decide +kernel
theorem dX8_actAt_101 : decode cX8_actAt 101 = .ok (.iload_n 1, 1) := by decide +kernel
theorem dX8_actAt_102 : decode cX8_actAt 102 = .ok (.iconst 4, 1) := by decide +kernel
theorem dX8_actAt_103 : decode cX8_actAt 103 = .ok (.iadd, 1) := by decide +kernel
theorem dX8_actAt_104 : decode cX8_actAt 104 = .ok (.invokevirtual 401, 3) := by decide +kernel
theorem dX8_actAt_107 : decode cX8_actAt 107 = .ok (.iadd, 1) := by decide +kernel
theorem dX8_actAt_108 : decode cX8_actAt 108 = .ok (.invokevirtual 156, 3) := by decide +kernel
theorem dX8_actAt_111 : decode cX8_actAt 111 = .ok (.ireturn, 1) := by decide +kernel
theorem dX8_actAt_112 : decode cX8_actAt 112 = .ok (.aload_n 0, 1) := by decide +kernel
theorem dX8_actAt_113 : decode cX8_actAt 113 = .ok (.getfield 10, 3) := by decide +kernel
theorem dX8_actAt_116 : decode cX8_actAt 116 = .ok (.iload_n 2, 1) := by decide +kernel
theorem dX8_actAt_117 : decode cX8_actAt 117 = .ok (.iload_n 3, 1) := by decide +kernel
theorem dX8_actAt_118 : decode cX8_actAt 118 = .ok (.invokevirtual 163, 3) := by decide +kernel
theorem dX8_actAt_121 : decode cX8_actAt 121 = .ok (.ireturn, 1) := by decide +kernel
theorem dX8_actAt_122 : decode cX8_actAt 122 = .ok (.aload_n 0, 1) := by decide +kernel
theorem dX8_actAt_123 : decode cX8_actAt 123 = .ok (.getfield 10, 3) := by decide +kernel
theorem dX8_actAt_126 : decode cX8_actAt 126 = .ok (.iload_n 2, 1) := by decide +kernel
theorem dX8_actAt_127 : decode cX8_actAt 127 = .ok (.iload_n 3, 1) := by decide +kernel
theorem dX8_actAt_128 : decode cX8_actAt 128 = .ok (.invokevirtual 166, 3) := by decide +kernel
theorem dX8_actAt_131 : decode cX8_actAt 131 = .ok (.ireturn, 1) := by decide +kernel
theorem dX8_actAt_132 : decode cX8_actAt 132 = .ok (.aload_n 0, 1) := by decide +kernel
theorem dX8_actAt_133 : decode cX8_actAt 133 = .ok (.getfield 10, 3) := by decide +kernel
theorem dX8_actAt_136 : decode cX8_actAt 136 = .ok (.iload_n 2, 1) := by decide +kernel
theorem dX8_actAt_137 : decode cX8_actAt 137 = .ok (.invokevirtual 169, 3) := by decide +kernel
theorem dX8_actAt_140 : decode cX8_actAt 140 = .ok (.ireturn, 1) := by decide +kernel
theorem dX8_ragsWithout_0 : decode cX8_ragsWithout 0 = .ok (.aload_n 0, 1) := by decide +kernel
theorem dX8_ragsWithout_1 : decode cX8_ragsWithout 1 = .ok (.getfield 56, 3) := by decide +kernel
theorem dX8_ragsWithout_4 : decode cX8_ragsWithout 4 = .ok (.aload_n 0, 1) := by decide +kernel
theorem dX8_ragsWithout_5 : decode cX8_ragsWithout 5 = .ok (.getfield 10, 3) := by decide +kernel
theorem dX8_ragsWithout_8 : decode cX8_ragsWithout 8 = .ok (.iload_n 1, 1) := by decide +kernel
theorem dX8_ragsWithout_9 : decode cX8_ragsWithout 9 = .ok (.invokevirtual 237, 3) := by decide +kernel
theorem dX8_ragsWithout_12 : decode cX8_ragsWithout 12 = .ok (.aload_n 0, 1) := by decide +kernel
theorem dX8_ragsWithout_13 : decode cX8_ragsWithout 13 = .ok (.getfield 16, 3) := by decide +kernel
theorem dX8_ragsWithout_16 : decode cX8_ragsWithout 16 = .ok (.invokevirtual 141, 3) := by decide +kernel
theorem dX8_ragsWithout_19 : decode cX8_ragsWithout 19 = .ok (.lstore_n 3, 1) := by decide +kernel
theorem dX8_ragsWithout_20 : decode cX8_ragsWithout 20 = .ok (.iconst 0, 1) := by decide +kernel
theorem dX8_ragsWithout_21 : decode cX8_ragsWithout 21 = .ok (.istore 5, 2) := by decide +kernel
theorem dX8_ragsWithout_23 : decode cX8_ragsWithout 23 = .ok (.iconst 0, 1) := by decide +kernel
theorem dX8_ragsWithout_24 : decode cX8_ragsWithout 24 = .ok (.istore 6, 2) := by decide +kernel
theorem dX8_ragsWithout_26 : decode cX8_ragsWithout 26 = .ok (.iload 6, 2) := by decide +kernel
theorem dX8_ragsWithout_28 : decode cX8_ragsWithout 28 = .ok (.iconst 1, 1) := by decide +kernel
theorem dX8_ragsWithout_29 : decode cX8_ragsWithout 29 = .ok (.aload_n 0, 1) := by decide +kernel
theorem dX8_ragsWithout_30 : decode cX8_ragsWithout 30 = .ok (.getfield 10, 3) := by decide +kernel
theorem dX8_ragsWithout_33 : decode cX8_ragsWithout 33 = .ok (.getfield 100, 3) := by decide +kernel
theorem dX8_ragsWithout_36 : decode cX8_ragsWithout 36 = .ok (.ishl, 1) := by decide +kernel
theorem dX8_ragsWithout_37 : decode cX8_ragsWithout 37 = .ok (.if_icmp .ge 54, 3) := by decide +kernel
theorem dX8_ragsWithout_40 : decode cX8_ragsWithout 40 = .ok (.aload_n 0, 1) := by decide +kernel
theorem dX8_ragsWithout_41 : decode cX8_ragsWithout 41 = .ok (.getfield 56, 3) := by decide +kernel
theorem dX8_ragsWithout_44 : decode cX8_ragsWithout 44 = .ok (.aload_n 0, 1) := by decide +kernel
theorem dX8_ragsWithout_45 : decode cX8_ragsWithout 45 = .ok (.getfield 10, 3) := by decide +kernel
theorem dX8_ragsWithout_48 : decode cX8_ragsWithout 48 = .ok (.iload 6, 2) := by decide +kernel
theorem dX8_ragsWithout_50 : decode cX8_ragsWithout 50 = .ok (.invokevirtual 241, 3) := by decide +kernel
theorem dX8_ragsWithout_53 : decode cX8_ragsWithout 53 = .ok (.lload_n 3, 1) := by decide +kernel
theorem dX8_ragsWithout_54 : decode cX8_ragsWithout 54 = .ok (.lcmp, 1) := by decide +kernel
theorem dX8_ragsWithout_55 : decode cX8_ragsWithout 55 = .ok (.ifCond .ne 30, 3) := by decide +kernel
theorem dX8_ragsWithout_58 : decode cX8_ragsWithout 58 = .ok (.iload_n 2, 1) := by decide +kernel
theorem dX8_ragsWithout_59 : decode cX8_ragsWithout 59 = .ok (.ifCond .eq 23, 3) := by decide +kernel
theorem dX8_ragsWithout_62 : decode cX8_ragsWithout 62 = .ok (.iload 5, 2) := by decide +kernel
theorem dX8_ragsWithout_64 : decode cX8_ragsWithout 64 = .ok (.ifCond .ne 18, 3) := by decide +kernel
theorem dX8_ragsWithout_67 : decode cX8_ragsWithout 67 = .ok (.aload_n 0, 1) := by decide +kernel
theorem dX8_ragsWithout_68 : decode cX8_ragsWithout 68 = .ok (.getfield 32, 3) := by decide +kernel
theorem dX8_ragsWithout_71 : decode cX8_ragsWithout 71 = .ok (.iload 6, 2) := by decide +kernel
theorem dX8_ragsWithout_73 : decode cX8_ragsWithout 73 = .ok (.iload_n 1, 1) := by decide +kernel
theorem dX8_ragsWithout_74 : decode cX8_ragsWithout 74 = .ok (.bipush 6, 2) := by decide +kernel
theorem dX8_ragsWithout_76 : decode cX8_ragsWithout 76 = .ok (.ishl, 1) := by decide +kernel
theorem dX8_ragsWithout_77 : decode cX8_ragsWithout 77 = .ok (.ior, 1) := by decide +kernel
theorem dX8_ragsWithout_78 : decode cX8_ragsWithout 78 = .ok (.i2l, 1) := by decide +kernel
theorem dX8_ragsWithout_79 : decode cX8_ragsWithout 79 = .ok (.invokevirtual 207, 3) := by decide +kernel
theorem dX8_ragsWithout_82 : decode cX8_ragsWithout 82 = .ok (.iinc 5 1, 3) := by decide +kernel
theorem dX8_ragsWithout_85 : decode cX8_ragsWithout 85 = .ok (.iinc 6 1, 3) := by decide +kernel
theorem dX8_ragsWithout_88 : decode cX8_ragsWithout 88 = .ok (.goto (-62), 3) := by decide +kernel
theorem dX8_ragsWithout_91 : decode cX8_ragsWithout 91 = .ok (.iload 5, 2) := by decide +kernel
theorem dX8_ragsWithout_93 : decode cX8_ragsWithout 93 = .ok (.ireturn, 1) := by decide +kernel
theorem dX8_staysApart_0 : decode cX8_staysApart 0 = .ok (.iconst 0, 1) := by decide +kernel
theorem dX8_staysApart_1 : decode cX8_staysApart 1 = .ok (.istore_n 2, 1) := by decide +kernel
theorem dX8_staysApart_2 : decode cX8_staysApart 2 = .ok (.iload_n 2, 1) := by decide +kernel
theorem dX8_staysApart_3 : decode cX8_staysApart 3 = .ok (.aload_n 0, 1) := by decide +kernel
theorem dX8_staysApart_4 : decode cX8_staysApart 4 = .ok (.getfield 10, 3) := by decide +kernel
theorem dX8_staysApart_7 : decode cX8_staysApart 7 = .ok (.getfield 100, 3) := by decide +kernel
theorem dX8_staysApart_10 : decode cX8_staysApart 10 = .ok (.if_icmp .ge 53, 3) := by decide +kernel
theorem dX8_staysApart_13 : decode cX8_staysApart 13 = .ok (.iload_n 2, 1) := by decide +kernel
theorem dX8_staysApart_14 : decode cX8_staysApart 14 = .ok (.iconst 1, 1) := by decide +kernel
theorem dX8_staysApart_15 : decode cX8_staysApart 15 = .ok (.iadd, 1) := by decide +kernel
theorem dX8_staysApart_16 : decode cX8_staysApart 16 = .ok (.istore_n 3, 1) := by decide +kernel
theorem dX8_staysApart_17 : decode cX8_staysApart 17 = .ok (.iload_n 3, 1) := by decide +kernel
theorem dX8_staysApart_18 : decode cX8_staysApart 18 = .ok (.aload_n 0, 1) := by decide +kernel
theorem dX8_staysApart_19 : decode cX8_staysApart 19 = .ok (.getfield 10, 3) := by decide +kernel
theorem dX8_staysApart_22 : decode cX8_staysApart 22 = .ok (.getfield 100, 3) := by decide +kernel
theorem dX8_staysApart_25 : decode cX8_staysApart 25 = .ok (.if_icmp .ge 32, 3) := by decide +kernel
theorem dX8_staysApart_28 : decode cX8_staysApart 28 = .ok (.iload_n 1, 1) := by decide +kernel
theorem dX8_staysApart_29 : decode cX8_staysApart 29 = .ok (.iload_n 2, 1) := by decide +kernel
theorem dX8_staysApart_30 : decode cX8_staysApart 30 = .ok (.iushr, 1) := by decide +kernel
theorem dX8_staysApart_31 : decode cX8_staysApart 31 = .ok (.iload_n 1, 1) := by decide +kernel
theorem dX8_staysApart_32 : decode cX8_staysApart 32 = .ok (.iload_n 3, 1) := by decide +kernel
theorem dX8_staysApart_33 : decode cX8_staysApart 33 = .ok (.iushr, 1) := by decide +kernel
theorem dX8_staysApart_34 : decode cX8_staysApart 34 = .ok (.iand, 1) := by decide +kernel
theorem dX8_staysApart_35 : decode cX8_staysApart 35 = .ok (.iconst 1, 1) := by decide +kernel
theorem dX8_staysApart_36 : decode cX8_staysApart 36 = .ok (.iand, 1) := by decide +kernel
theorem dX8_staysApart_37 : decode cX8_staysApart 37 = .ok (.ifCond .eq 14, 3) := by decide +kernel
theorem dX8_staysApart_40 : decode cX8_staysApart 40 = .ok (.aload_n 0, 1) := by decide +kernel
theorem dX8_staysApart_41 : decode cX8_staysApart 41 = .ok (.iload_n 2, 1) := by decide +kernel
theorem dX8_staysApart_42 : decode cX8_staysApart 42 = .ok (.iload_n 3, 1) := by decide +kernel
theorem dX8_staysApart_43 : decode cX8_staysApart 43 = .ok (.invokevirtual 404, 3) := by decide +kernel
theorem dX8_staysApart_46 : decode cX8_staysApart 46 = .ok (.ifCond .eq 5, 3) := by decide +kernel
theorem dX8_staysApart_49 : decode cX8_staysApart 49 = .ok (.iconst 0, 1) := by decide +kernel
theorem dX8_staysApart_50 : decode cX8_staysApart 50 = .ok (.ireturn, 1) := by decide +kernel
theorem dX8_staysApart_51 : decode cX8_staysApart 51 = .ok (.iinc 3 1, 3) := by decide +kernel
theorem dX8_staysApart_54 : decode cX8_staysApart 54 = .ok (.goto (-37), 3) := by decide +kernel
theorem dX8_staysApart_57 : decode cX8_staysApart 57 = .ok (.iinc 2 1, 3) := by decide +kernel
theorem dX8_staysApart_60 : decode cX8_staysApart 60 = .ok (.goto (-58), 3) := by decide +kernel
theorem dX8_staysApart_63 : decode cX8_staysApart 63 = .ok (.iconst 1, 1) := by decide +kernel
theorem dX8_staysApart_64 : decode cX8_staysApart 64 = .ok (.ireturn, 1) := by decide +kernel
theorem dX8_canBeAlike_0 : decode cX8_canBeAlike 0 = .ok (.iconst 0, 1) := by decide +kernel
theorem dX8_canBeAlike_1 : decode cX8_canBeAlike 1 = .ok (.istore_n 3, 1) := by decide +kernel
theorem dX8_canBeAlike_2 : decode cX8_canBeAlike 2 = .ok (.iload_n 3, 1) := by decide +kernel
theorem dX8_canBeAlike_3 : decode cX8_canBeAlike 3 = .ok (.aload_n 0, 1) := by decide +kernel
theorem dX8_canBeAlike_4 : decode cX8_canBeAlike 4 = .ok (.getfield 10, 3) := by decide +kernel
theorem dX8_canBeAlike_7 : decode cX8_canBeAlike 7 = .ok (.getfield 213, 3) := by decide +kernel
theorem dX8_canBeAlike_10 : decode cX8_canBeAlike 10 = .ok (.if_icmp .ge 66, 3) := by decide +kernel
theorem dX8_canBeAlike_13 : decode cX8_canBeAlike 13 = .ok (.aload_n 0, 1) := by decide +kernel
theorem dX8_canBeAlike_14 : decode cX8_canBeAlike 14 = .ok (.getfield 10, 3) := by decide +kernel
theorem dX8_canBeAlike_17 : decode cX8_canBeAlike 17 = .ok (.iconst 0, 1) := by decide +kernel
theorem dX8_canBeAlike_18 : decode cX8_canBeAlike 18 = .ok (.iload_n 1, 1) := by decide +kernel
theorem dX8_canBeAlike_19 : decode cX8_canBeAlike 19 = .ok (.invokevirtual 121, 3) := by decide +kernel
theorem dX8_canBeAlike_22 : decode cX8_canBeAlike 22 = .ok (.iload_n 3, 1) := by decide +kernel
theorem dX8_canBeAlike_23 : decode cX8_canBeAlike 23 = .ok (.invokestatic 407, 3) := by decide +kernel
theorem dX8_canBeAlike_26 : decode cX8_canBeAlike 26 = .ok (.istore 4, 2) := by decide +kernel
theorem dX8_canBeAlike_28 : decode cX8_canBeAlike 28 = .ok (.iconst 0, 1) := by decide +kernel
theorem dX8_canBeAlike_29 : decode cX8_canBeAlike 29 = .ok (.istore 5, 2) := by decide +kernel
theorem dX8_canBeAlike_31 : decode cX8_canBeAlike 31 = .ok (.iload 5, 2) := by decide +kernel
theorem dX8_canBeAlike_33 : decode cX8_canBeAlike 33 = .ok (.aload_n 0, 1) := by decide +kernel
theorem dX8_canBeAlike_34 : decode cX8_canBeAlike 34 = .ok (.getfield 10, 3) := by decide +kernel
theorem dX8_canBeAlike_37 : decode cX8_canBeAlike 37 = .ok (.getfield 213, 3) := by decide +kernel
theorem dX8_canBeAlike_40 : decode cX8_canBeAlike 40 = .ok (.if_icmp .ge 30, 3) := by decide +kernel
theorem dX8_canBeAlike_43 : decode cX8_canBeAlike 43 = .ok (.iload 4, 2) := by decide +kernel
theorem dX8_canBeAlike_45 : decode cX8_canBeAlike 45 = .ok (.aload_n 0, 1) := by decide +kernel
theorem dX8_canBeAlike_46 : decode cX8_canBeAlike 46 = .ok (.getfield 10, 3) := by decide +kernel
theorem dX8_canBeAlike_49 : decode cX8_canBeAlike 49 = .ok (.iconst 0, 1) := by decide +kernel
theorem dX8_canBeAlike_50 : decode cX8_canBeAlike 50 = .ok (.iload_n 2, 1) := by decide +kernel
theorem dX8_canBeAlike_51 : decode cX8_canBeAlike 51 = .ok (.invokevirtual 121, 3) := by decide +kernel
theorem dX8_canBeAlike_54 : decode cX8_canBeAlike 54 = .ok (.iload 5, 2) := by decide +kernel
theorem dX8_canBeAlike_56 : decode cX8_canBeAlike 56 = .ok (.invokestatic 407, 3) := by decide +kernel
theorem dX8_canBeAlike_59 : decode cX8_canBeAlike 59 = .ok (.if_icmp .ne 5, 3) := by decide +kernel
theorem dX8_canBeAlike_62 : decode cX8_canBeAlike 62 = .ok (.iconst 1, 1) := by decide +kernel
theorem dX8_canBeAlike_63 : decode cX8_canBeAlike 63 = .ok (.ireturn, 1) := by decide +kernel
theorem dX8_canBeAlike_64 : decode cX8_canBeAlike 64 = .ok (.iinc 5 1, 3) := by decide +kernel
theorem dX8_canBeAlike_67 : decode cX8_canBeAlike 67 = .ok (.goto (-36), 3) := by decide +kernel
theorem dX8_canBeAlike_70 : decode cX8_canBeAlike 70 = .ok (.iinc 3 1, 3) := by decide +kernel
theorem dX8_canBeAlike_73 : decode cX8_canBeAlike 73 = .ok (.goto (-71), 3) := by decide +kernel
theorem dX8_canBeAlike_76 : decode cX8_canBeAlike 76 = .ok (.iconst 0, 1) := by decide +kernel
theorem dX8_canBeAlike_77 : decode cX8_canBeAlike 77 = .ok (.ireturn, 1) := by decide +kernel
theorem dX8_checkSum_0 : decode cX8_checkSum 0 = .ok (.iconst 0, 1) := by decide +kernel
theorem dX8_checkSum_1 : decode cX8_checkSum 1 = .ok (.istore_n 2, 1) := by decide +kernel
theorem dX8_checkSum_2 : decode cX8_checkSum 2 = .ok (.iconst 0, 1) := by decide +kernel
theorem dX8_checkSum_3 : decode cX8_checkSum 3 = .ok (.istore_n 3, 1) := by decide +kernel
theorem dX8_checkSum_4 : decode cX8_checkSum 4 = .ok (.iload_n 3, 1) := by decide +kernel
theorem dX8_checkSum_5 : decode cX8_checkSum 5 = .ok (.iload_n 1, 1) := by decide +kernel
theorem dX8_checkSum_6 : decode cX8_checkSum 6 = .ok (.if_icmp .ge 21, 3) := by decide +kernel
theorem dX8_checkSum_9 : decode cX8_checkSum 9 = .ok (.iload_n 2, 1) := by decide +kernel
theorem dX8_checkSum_10 : decode cX8_checkSum 10 = .ok (.iload_n 0, 1) := by decide +kernel
theorem dX8_checkSum_11 : decode cX8_checkSum 11 = .ok (.iload_n 3, 1) := by decide +kernel
theorem dX8_checkSum_12 : decode cX8_checkSum 12 = .ok (.iushr, 1) := by decide +kernel
theorem dX8_checkSum_13 : decode cX8_checkSum 13 = .ok (.iconst 1, 1) := by decide +kernel
theorem dX8_checkSum_14 : decode cX8_checkSum 14 = .ok (.iand, 1) := by decide +kernel
theorem dX8_checkSum_15 : decode cX8_checkSum 15 = .ok (.iload_n 3, 1) := by decide +kernel
theorem dX8_checkSum_16 : decode cX8_checkSum 16 = .ok (.iconst 1, 1) := by decide +kernel
theorem dX8_checkSum_17 : decode cX8_checkSum 17 = .ok (.iadd, 1) := by decide +kernel
theorem dX8_checkSum_18 : decode cX8_checkSum 18 = .ok (.imul, 1) := by decide +kernel
theorem dX8_checkSum_19 : decode cX8_checkSum 19 = .ok (.iadd, 1) := by decide +kernel
theorem dX8_checkSum_20 : decode cX8_checkSum 20 = .ok (.istore_n 2, 1) := by decide +kernel
theorem dX8_checkSum_21 : decode cX8_checkSum 21 = .ok (.iinc 3 1, 3) := by decide +kernel
theorem dX8_checkSum_24 : decode cX8_checkSum 24 = .ok (.goto (-20), 3) := by decide +kernel
theorem dX8_checkSum_27 : decode cX8_checkSum 27 = .ok (.iload_n 2, 1) := by decide +kernel
theorem dX8_checkSum_28 : decode cX8_checkSum 28 = .ok (.ireturn, 1) := by decide +kernel
theorem dX8_mendingCell_0 : decode cX8_mendingCell 0 = .ok (.iload_n 1, 1) := by decide +kernel
theorem dX8_mendingCell_1 : decode cX8_mendingCell 1 = .ok (.istore_n 3, 1) := by decide +kernel
theorem dX8_mendingCell_2 : decode cX8_mendingCell 2 = .ok (.iload_n 3, 1) := by decide +kernel
theorem dX8_mendingCell_3 : decode cX8_mendingCell 3 = .ok (.bipush 6, 2) := by decide +kernel
theorem dX8_mendingCell_5 : decode cX8_mendingCell 5 = .ok (.aload_n 0, 1) := by decide +kernel
theorem dX8_mendingCell_6 : decode cX8_mendingCell 6 = .ok (.getfield 10, 3) := by decide +kernel
theorem dX8_mendingCell_9 : decode cX8_mendingCell 9 = .ok (.getfield 100, 3) := by decide +kernel
theorem dX8_mendingCell_12 : decode cX8_mendingCell 12 = .ok (.imul, 1) := by decide +kernel
theorem dX8_mendingCell_13 : decode cX8_mendingCell 13 = .ok (.if_icmp .ge 74, 3) := by decide +kernel
theorem dX8_mendingCell_16 : decode cX8_mendingCell 16 = .ok (.aload_n 0, 1) := by decide +kernel
theorem dX8_mendingCell_17 : decode cX8_mendingCell 17 = .ok (.getfield 10, 3) := by decide +kernel
theorem dX8_mendingCell_20 : decode cX8_mendingCell 20 = .ok (.iload_n 3, 1) := by decide +kernel
theorem dX8_mendingCell_21 : decode cX8_mendingCell 21 = .ok (.bipush 6, 2) := by decide +kernel
theorem dX8_mendingCell_23 : decode cX8_mendingCell 23 = .ok (.idiv, 1) := by decide +kernel
theorem dX8_mendingCell_24 : decode cX8_mendingCell 24 = .ok (.iload_n 3, 1) := by decide +kernel
theorem dX8_mendingCell_25 : decode cX8_mendingCell 25 = .ok (.bipush 6, 2) := by decide +kernel
theorem dX8_mendingCell_27 : decode cX8_mendingCell 27 = .ok (.irem, 1) := by decide +kernel
theorem dX8_mendingCell_28 : decode cX8_mendingCell 28 = .ok (.invokevirtual 107, 3) := by decide +kernel
theorem dX8_mendingCell_31 : decode cX8_mendingCell 31 = .ok (.ifCond .eq 50, 3) := by decide +kernel
theorem dX8_mendingCell_34 : decode cX8_mendingCell 34 = .ok (.aload_n 0, 1) := by decide +kernel
theorem dX8_mendingCell_35 : decode cX8_mendingCell 35 = .ok (.getfield 49, 3) := by decide +kernel
theorem dX8_mendingCell_38 : decode cX8_mendingCell 38 = .ok (.iload_n 3, 1) := by decide +kernel
theorem dX8_mendingCell_39 : decode cX8_mendingCell 39 = .ok (.bipush 6, 2) := by decide +kernel
theorem dX8_mendingCell_41 : decode cX8_mendingCell 41 = .ok (.idiv, 1) := by decide +kernel
theorem dX8_mendingCell_42 : decode cX8_mendingCell 42 = .ok (.iload_n 3, 1) := by decide +kernel
theorem dX8_mendingCell_43 : decode cX8_mendingCell 43 = .ok (.bipush 6, 2) := by decide +kernel
theorem dX8_mendingCell_45 : decode cX8_mendingCell 45 = .ok (.irem, 1) := by decide +kernel
theorem dX8_mendingCell_46 : decode cX8_mendingCell 46 = .ok (.invokevirtual 282, 3) := by decide +kernel
theorem dX8_mendingCell_49 : decode cX8_mendingCell 49 = .ok (.aload_n 0, 1) := by decide +kernel
theorem dX8_mendingCell_50 : decode cX8_mendingCell 50 = .ok (.getfield 49, 3) := by decide +kernel
theorem dX8_mendingCell_53 : decode cX8_mendingCell 53 = .ok (.iload_n 2, 1) := by decide +kernel
theorem dX8_mendingCell_54 : decode cX8_mendingCell 54 = .ok (.invokevirtual 276, 3) := by decide +kernel
theorem dX8_mendingCell_57 : decode cX8_mendingCell 57 = .ok (.istore 4, 2) := by decide +kernel
theorem dX8_mendingCell_59 : decode cX8_mendingCell 59 = .ok (.aload_n 0, 1) := by decide +kernel
theorem dX8_mendingCell_60 : decode cX8_mendingCell 60 = .ok (.getfield 49, 3) := by decide +kernel
theorem dX8_mendingCell_63 : decode cX8_mendingCell 63 = .ok (.iload_n 3, 1) := by decide +kernel
theorem dX8_mendingCell_64 : decode cX8_mendingCell 64 = .ok (.bipush 6, 2) := by decide +kernel
theorem dX8_mendingCell_66 : decode cX8_mendingCell 66 = .ok (.idiv, 1) := by decide +kernel
theorem dX8_mendingCell_67 : decode cX8_mendingCell 67 = .ok (.iload_n 3, 1) := by decide +kernel
theorem dX8_mendingCell_68 : decode cX8_mendingCell 68 = .ok (.bipush 6, 2) := by decide +kernel
theorem dX8_mendingCell_70 : decode cX8_mendingCell 70 = .ok (.irem, 1) := by decide +kernel
theorem dX8_mendingCell_71 : decode cX8_mendingCell 71 = .ok (.invokevirtual 282, 3) := by decide +kernel
theorem dX8_mendingCell_74 : decode cX8_mendingCell 74 = .ok (.iload 4, 2) := by decide +kernel
theorem dX8_mendingCell_76 : decode cX8_mendingCell 76 = .ok (.ifCond .eq 5, 3) := by decide +kernel
theorem dX8_mendingCell_79 : decode cX8_mendingCell 79 = .ok (.iload_n 3, 1) := by decide +kernel
theorem dX8_mendingCell_80 : decode cX8_mendingCell 80 = .ok (.ireturn, 1) := by decide +kernel
theorem dX8_mendingCell_81 : decode cX8_mendingCell 81 = .ok (.iinc 3 1, 3) := by decide +kernel
theorem dX8_mendingCell_84 : decode cX8_mendingCell 84 = .ok (.goto (-82), 3) := by decide +kernel
theorem dX8_mendingCell_87 : decode cX8_mendingCell 87 = .ok (.iconst (-1), 1) := by decide +kernel
theorem dX8_mendingCell_88 : decode cX8_mendingCell 88 = .ok (.ireturn, 1) := by decide +kernel
theorem dX8_differences_0 : decode cX8_differences 0 = .ok (.iconst 0, 1) := by decide +kernel
theorem dX8_differences_1 : decode cX8_differences 1 = .ok (.istore_n 3, 1) := by decide +kernel
theorem dX8_differences_2 : decode cX8_differences 2 = .ok (.iconst 0, 1) := by decide +kernel
theorem dX8_differences_3 : decode cX8_differences 3 = .ok (.istore 4, 2) := by decide +kernel
theorem dX8_differences_5 : decode cX8_differences 5 = .ok (.iload 4, 2) := by decide +kernel
theorem dX8_differences_7 : decode cX8_differences 7 = .ok (.aload_n 0, 1) := by decide +kernel
theorem dX8_differences_8 : decode cX8_differences 8 = .ok (.getfield 10, 3) := by decide +kernel
theorem dX8_differences_11 : decode cX8_differences 11 = .ok (.getfield 100, 3) := by decide +kernel
theorem dX8_differences_14 : decode cX8_differences 14 = .ok (.if_icmp .ge 84, 3) := by decide +kernel
theorem dX8_differences_17 : decode cX8_differences 17 = .ok (.iconst 0, 1) := by decide +kernel
theorem dX8_differences_18 : decode cX8_differences 18 = .ok (.istore 5, 2) := by decide +kernel
theorem dX8_differences_20 : decode cX8_differences 20 = .ok (.iload 5, 2) := by decide +kernel
theorem dX8_differences_22 : decode cX8_differences 22 = .ok (.aload_n 0, 1) := by decide +kernel
theorem dX8_differences_23 : decode cX8_differences 23 = .ok (.getfield 10, 3) := by decide +kernel
theorem dX8_differences_26 : decode cX8_differences 26 = .ok (.getfield 213, 3) := by decide +kernel
theorem dX8_differences_29 : decode cX8_differences 29 = .ok (.if_icmp .ge 63, 3) := by decide +kernel
theorem dX8_differences_32 : decode cX8_differences 32 = .ok (.iload 4, 2) := by decide +kernel
theorem dX8_differences_34 : decode cX8_differences 34 = .ok (.iload_n 1, 1) := by decide +kernel
theorem dX8_differences_35 : decode cX8_differences 35 = .ok (.iadd, 1) := by decide +kernel
theorem dX8_differences_36 : decode cX8_differences 36 = .ok (.aload_n 0, 1) := by decide +kernel
theorem dX8_differences_37 : decode cX8_differences 37 = .ok (.getfield 10, 3) := by decide +kernel
theorem dX8_differences_40 : decode cX8_differences 40 = .ok (.getfield 100, 3) := by decide +kernel
theorem dX8_differences_43 : decode cX8_differences 43 = .ok (.irem, 1) := by decide +kernel
theorem dX8_differences_44 : decode cX8_differences 44 = .ok (.istore 6, 2) := by decide +kernel
theorem dX8_differences_46 : decode cX8_differences 46 = .ok (.iload 5, 2) := by decide +kernel
theorem dX8_differences_48 : decode cX8_differences 48 = .ok (.iload_n 2, 1) := by decide +kernel
theorem dX8_differences_49 : decode cX8_differences 49 = .ok (.iadd, 1) := by decide +kernel
theorem dX8_differences_50 : decode cX8_differences 50 = .ok (.aload_n 0, 1) := by decide +kernel
theorem dX8_differences_51 : decode cX8_differences 51 = .ok (.getfield 10, 3) := by decide +kernel
theorem dX8_differences_54 : decode cX8_differences 54 = .ok (.getfield 213, 3) := by decide +kernel
theorem dX8_differences_57 : decode cX8_differences 57 = .ok (.irem, 1) := by decide +kernel
theorem dX8_differences_58 : decode cX8_differences 58 = .ok (.istore 7, 2) := by decide +kernel
theorem dX8_differences_60 : decode cX8_differences 60 = .ok (.iload_n 3, 1) := by decide +kernel
theorem dX8_differences_61 : decode cX8_differences 61 = .ok (.aload_n 0, 1) := by decide +kernel
theorem dX8_differences_62 : decode cX8_differences 62 = .ok (.getfield 16, 3) := by decide +kernel
theorem dX8_differences_65 : decode cX8_differences 65 = .ok (.iload 4, 2) := by decide +kernel
theorem dX8_differences_67 : decode cX8_differences 67 = .ok (.iload 5, 2) := by decide +kernel
theorem dX8_differences_69 : decode cX8_differences 69 = .ok (.invokevirtual 114, 3) := by decide +kernel
theorem dX8_differences_72 : decode cX8_differences 72 = .ok (.aload_n 0, 1) := by decide +kernel
theorem dX8_differences_73 : decode cX8_differences 73 = .ok (.getfield 10, 3) := by decide +kernel
theorem dX8_differences_76 : decode cX8_differences 76 = .ok (.iload 6, 2) := by decide +kernel
theorem dX8_differences_78 : decode cX8_differences 78 = .ok (.iload 7, 2) := by decide +kernel
theorem dX8_differences_80 : decode cX8_differences 80 = .ok (.invokevirtual 114, 3) := by decide +kernel
theorem dX8_differences_83 : decode cX8_differences 83 = .ok (.ixor, 1) := by decide +kernel
theorem dX8_differences_84 : decode cX8_differences 84 = .ok (.iadd, 1) := by decide +kernel
theorem dX8_differences_85 : decode cX8_differences 85 = .ok (.istore_n 3, 1) := by decide +kernel
theorem dX8_differences_86 : decode cX8_differences 86 = .ok (.iinc 5 1, 3) := by decide +kernel
theorem dX8_differences_89 : decode cX8_differences 89 = .ok (.goto (-69), 3) := by decide +kernel
theorem dX8_differences_92 : decode cX8_differences 92 = .ok (.iinc 4 1, 3) := by decide +kernel
theorem dX8_differences_95 : decode cX8_differences 95 = .ok (.goto (-90), 3) := by decide +kernel
theorem dX8_differences_98 : decode cX8_differences 98 = .ok (.iload_n 3, 1) := by decide +kernel
theorem dX8_differences_99 : decode cX8_differences 99 = .ok (.ireturn, 1) := by decide +kernel
theorem dX8_otherwise_0 : decode cX8_otherwise 0 = .ok (.iconst 0, 1) := by decide +kernel
theorem dX8_otherwise_1 : decode cX8_otherwise 1 = .ok (.istore_n 3, 1) := by decide +kernel
theorem dX8_otherwise_2 : decode cX8_otherwise 2 = .ok (.iconst 0, 1) := by decide +kernel
theorem dX8_otherwise_3 : decode cX8_otherwise 3 = .ok (.istore 4, 2) := by decide +kernel
theorem dX8_otherwise_5 : decode cX8_otherwise 5 = .ok (.iload 4, 2) := by decide +kernel
theorem dX8_otherwise_7 : decode cX8_otherwise 7 = .ok (.aload_n 0, 1) := by decide +kernel
theorem dX8_otherwise_8 : decode cX8_otherwise 8 = .ok (.getfield 10, 3) := by decide +kernel
theorem dX8_otherwise_11 : decode cX8_otherwise 11 = .ok (.getfield 100, 3) := by decide +kernel
theorem dX8_otherwise_14 : decode cX8_otherwise 14 = .ok (.if_icmp .ge 102, 3) := by decide +kernel
theorem dX8_otherwise_17 : decode cX8_otherwise 17 = .ok (.iconst 0, 1) := by decide +kernel
theorem dX8_otherwise_18 : decode cX8_otherwise 18 = .ok (.istore 5, 2) := by decide +kernel
theorem dX8_otherwise_20 : decode cX8_otherwise 20 = .ok (.iload 5, 2) := by decide +kernel
theorem dX8_otherwise_22 : decode cX8_otherwise 22 = .ok (.aload_n 0, 1) := by decide +kernel
theorem dX8_otherwise_23 : decode cX8_otherwise 23 = .ok (.getfield 10, 3) := by decide +kernel
theorem dX8_otherwise_26 : decode cX8_otherwise 26 = .ok (.getfield 213, 3) := by decide +kernel
theorem dX8_otherwise_29 : decode cX8_otherwise 29 = .ok (.if_icmp .ge 81, 3) := by decide +kernel
theorem dX8_otherwise_32 : decode cX8_otherwise 32 = .ok (.iload_n 1, 1) := by decide +kernel
theorem dX8_otherwise_33 : decode cX8_otherwise 33 = .ok (.ifCond .eq 18, 3) := by decide +kernel
theorem dX8_otherwise_36 : decode cX8_otherwise 36 = .ok (.aload_n 0, 1) := by decide +kernel
theorem dX8_otherwise_37 : decode cX8_otherwise 37 = .ok (.getfield 10, 3) := by decide +kernel
theorem dX8_otherwise_40 : decode cX8_otherwise 40 = .ok (.getfield 100, 3) := by decide +kernel
theorem dX8_otherwise_43 : decode cX8_otherwise 43 = .ok (.iconst 1, 1) := by decide +kernel
theorem dX8_otherwise_44 : decode cX8_otherwise 44 = .ok (.isub, 1) := by decide +kernel
theorem dX8_otherwise_45 : decode cX8_otherwise 45 = .ok (.iload 4, 2) := by decide +kernel
theorem dX8_otherwise_47 : decode cX8_otherwise 47 = .ok (.isub, 1) := by decide +kernel
theorem dX8_otherwise_48 : decode cX8_otherwise 48 = .ok (.goto 5, 3) := by decide +kernel
theorem dX8_otherwise_51 : decode cX8_otherwise 51 = .ok (.iload 4, 2) := by decide +kernel
theorem dX8_otherwise_53 : decode cX8_otherwise 53 = .ok (.istore 6, 2) := by decide +kernel
theorem dX8_otherwise_55 : decode cX8_otherwise 55 = .ok (.iload_n 2, 1) := by decide +kernel
theorem dX8_otherwise_56 : decode cX8_otherwise 56 = .ok (.ifCond .eq 18, 3) := by decide +kernel
theorem dX8_otherwise_59 : decode cX8_otherwise 59 = .ok (.aload_n 0, 1) := by decide +kernel
theorem dX8_otherwise_60 : decode cX8_otherwise 60 = .ok (.getfield 10, 3) := by decide +kernel
theorem dX8_otherwise_63 : decode cX8_otherwise 63 = .ok (.getfield 213, 3) := by decide +kernel
theorem dX8_otherwise_66 : decode cX8_otherwise 66 = .ok (.iconst 1, 1) := by decide +kernel
theorem dX8_otherwise_67 : decode cX8_otherwise 67 = .ok (.isub, 1) := by decide +kernel
theorem dX8_otherwise_68 : decode cX8_otherwise 68 = .ok (.iload 5, 2) := by decide +kernel
theorem dX8_otherwise_70 : decode cX8_otherwise 70 = .ok (.isub, 1) := by decide +kernel
theorem dX8_otherwise_71 : decode cX8_otherwise 71 = .ok (.goto 5, 3) := by decide +kernel
theorem dX8_otherwise_74 : decode cX8_otherwise 74 = .ok (.iload 5, 2) := by decide +kernel
theorem dX8_otherwise_76 : decode cX8_otherwise 76 = .ok (.istore 7, 2) := by decide +kernel
theorem dX8_otherwise_78 : decode cX8_otherwise 78 = .ok (.iload_n 3, 1) := by decide +kernel
theorem dX8_otherwise_79 : decode cX8_otherwise 79 = .ok (.aload_n 0, 1) := by decide +kernel
theorem dX8_otherwise_80 : decode cX8_otherwise 80 = .ok (.getfield 10, 3) := by decide +kernel
theorem dX8_otherwise_83 : decode cX8_otherwise 83 = .ok (.iload 4, 2) := by decide +kernel
theorem dX8_otherwise_85 : decode cX8_otherwise 85 = .ok (.iload 5, 2) := by decide +kernel
theorem dX8_otherwise_87 : decode cX8_otherwise 87 = .ok (.invokevirtual 114, 3) := by decide +kernel
theorem dX8_otherwise_90 : decode cX8_otherwise 90 = .ok (.aload_n 0, 1) := by decide +kernel
theorem dX8_otherwise_91 : decode cX8_otherwise 91 = .ok (.getfield 10, 3) := by decide +kernel
theorem dX8_otherwise_94 : decode cX8_otherwise 94 = .ok (.iload 6, 2) := by decide +kernel
theorem dX8_otherwise_96 : decode cX8_otherwise 96 = .ok (.iload 7, 2) := by decide +kernel
theorem dX8_otherwise_98 : decode cX8_otherwise 98 = .ok (.invokevirtual 114, 3) := by decide +kernel
theorem dX8_otherwise_101 : decode cX8_otherwise 101 = .ok (.ixor, 1) := by decide +kernel
theorem dX8_otherwise_102 : decode cX8_otherwise 102 = .ok (.iadd, 1) := by decide +kernel
theorem dX8_otherwise_103 : decode cX8_otherwise 103 = .ok (.istore_n 3, 1) := by decide +kernel
theorem dX8_otherwise_104 : decode cX8_otherwise 104 = .ok (.iinc 5 1, 3) := by decide +kernel
theorem dX8_otherwise_107 : decode cX8_otherwise 107 = .ok (.goto (-87), 3) := by decide +kernel
theorem dX8_otherwise_110 : decode cX8_otherwise 110 = .ok (.iinc 4 1, 3) := by decide +kernel
theorem dX8_otherwise_113 : decode cX8_otherwise 113 = .ok (.goto (-108), 3) := by decide +kernel
theorem dX8_otherwise_116 : decode cX8_otherwise 116 = .ok (.iload_n 3, 1) := by decide +kernel
theorem dX8_otherwise_117 : decode cX8_otherwise 117 = .ok (.ireturn, 1) := by decide +kernel
theorem dX8_otherwiseAcross_0 : decode cX8_otherwiseAcross 0 = .ok (.iconst 0, 1) := by decide +kernel
theorem dX8_otherwiseAcross_1 : decode cX8_otherwiseAcross 1 = .ok (.istore_n 1, 1) := by decide +kernel
theorem dX8_otherwiseAcross_2 : decode cX8_otherwiseAcross 2 = .ok (.iconst 0, 1) := by decide +kernel
theorem dX8_otherwiseAcross_3 : decode cX8_otherwiseAcross 3 = .ok (.istore_n 2, 1) := by decide +kernel
theorem dX8_otherwiseAcross_4 : decode cX8_otherwiseAcross 4 = .ok (.iload_n 2, 1) := by decide +kernel
theorem dX8_otherwiseAcross_5 : decode cX8_otherwiseAcross 5 = .ok (.aload_n 0, 1) := by decide +kernel
theorem dX8_otherwiseAcross_6 : decode cX8_otherwiseAcross 6 = .ok (.getfield 10, 3) := by decide +kernel
theorem dX8_otherwiseAcross_9 : decode cX8_otherwiseAcross 9 = .ok (.getfield 100, 3) := by decide +kernel
theorem dX8_otherwiseAcross_12 : decode cX8_otherwiseAcross 12 = .ok (.if_icmp .ge 50, 3) := by decide +kernel
theorem dX8_otherwiseAcross_15 : decode cX8_otherwiseAcross 15 = .ok (.iconst 0, 1) := by decide +kernel
theorem dX8_otherwiseAcross_16 : decode cX8_otherwiseAcross 16 = .ok (.istore_n 3, 1) := by decide +kernel
theorem dX8_otherwiseAcross_17 : decode cX8_otherwiseAcross 17 = .ok (.iload_n 3, 1) := by decide +kernel
theorem dX8_otherwiseAcross_18 : decode cX8_otherwiseAcross 18 = .ok (.aload_n 0, 1) := by decide +kernel
theorem dX8_otherwiseAcross_19 : decode cX8_otherwiseAcross 19 = .ok (.getfield 10, 3) := by decide +kernel
theorem dX8_otherwiseAcross_22 : decode cX8_otherwiseAcross 22 = .ok (.getfield 213, 3) := by decide +kernel
theorem dX8_otherwiseAcross_25 : decode cX8_otherwiseAcross 25 = .ok (.if_icmp .ge 31, 3) := by decide +kernel
theorem dX8_otherwiseAcross_28 : decode cX8_otherwiseAcross 28 = .ok (.iload_n 1, 1) := by decide +kernel
theorem dX8_otherwiseAcross_29 : decode cX8_otherwiseAcross 29 = .ok (.aload_n 0, 1) := by decide +kernel
theorem dX8_otherwiseAcross_30 : decode cX8_otherwiseAcross 30 = .ok (.getfield 10, 3) := by decide +kernel
theorem dX8_otherwiseAcross_33 : decode cX8_otherwiseAcross 33 = .ok (.iload_n 2, 1) := by decide +kernel
theorem dX8_otherwiseAcross_34 : decode cX8_otherwiseAcross 34 = .ok (.iload_n 3, 1) := by decide +kernel
theorem dX8_otherwiseAcross_35 : decode cX8_otherwiseAcross 35 = .ok (.invokevirtual 114, 3) := by decide +kernel
theorem dX8_otherwiseAcross_38 : decode cX8_otherwiseAcross 38 = .ok (.aload_n 0, 1) := by decide +kernel
theorem dX8_otherwiseAcross_39 : decode cX8_otherwiseAcross 39 = .ok (.getfield 10, 3) := by decide +kernel
theorem dX8_otherwiseAcross_42 : decode cX8_otherwiseAcross 42 = .ok (.iload_n 3, 1) := by decide +kernel
theorem dX8_otherwiseAcross_43 : decode cX8_otherwiseAcross 43 = .ok (.iload_n 2, 1) := by decide +kernel
theorem dX8_otherwiseAcross_44 : decode cX8_otherwiseAcross 44 = .ok (.invokevirtual 114, 3) := by decide +kernel
theorem dX8_otherwiseAcross_47 : decode cX8_otherwiseAcross 47 = .ok (.ixor, 1) := by decide +kernel
theorem dX8_otherwiseAcross_48 : decode cX8_otherwiseAcross 48 = .ok (.iadd, 1) := by decide +kernel
theorem dX8_otherwiseAcross_49 : decode cX8_otherwiseAcross 49 = .ok (.istore_n 1, 1) := by decide +kernel
theorem dX8_otherwiseAcross_50 : decode cX8_otherwiseAcross 50 = .ok (.iinc 3 1, 3) := by decide +kernel
theorem dX8_otherwiseAcross_53 : decode cX8_otherwiseAcross 53 = .ok (.goto (-36), 3) := by decide +kernel
theorem dX8_otherwiseAcross_56 : decode cX8_otherwiseAcross 56 = .ok (.iinc 2 1, 3) := by decide +kernel
theorem dX8_otherwiseAcross_59 : decode cX8_otherwiseAcross 59 = .ok (.goto (-55), 3) := by decide +kernel
theorem dX8_otherwiseAcross_62 : decode cX8_otherwiseAcross 62 = .ok (.iload_n 1, 1) := by decide +kernel
theorem dX8_otherwiseAcross_63 : decode cX8_otherwiseAcross 63 = .ok (.ireturn, 1) := by decide +kernel
theorem dX8_power_0 : decode cX8_power 0 = .ok (.lconst 1, 1) := by decide +kernel
theorem dX8_power_1 : decode cX8_power 1 = .ok (.lstore_n 2, 1) := by decide +kernel
theorem dX8_power_2 : decode cX8_power 2 = .ok (.iconst 0, 1) := by decide +kernel
theorem dX8_power_3 : decode cX8_power 3 = .ok (.istore 4, 2) := by decide +kernel
theorem dX8_power_5 : decode cX8_power 5 = .ok (.iload 4, 2) := by decide +kernel
theorem dX8_power_7 : decode cX8_power 7 = .ok (.iload_n 1, 1) := by decide +kernel
theorem dX8_power_8 : decode cX8_power 8 = .ok (.if_icmp .ge 14, 3) := by decide +kernel
theorem dX8_power_11 : decode cX8_power 11 = .ok (.lload_n 2, 1) := by decide +kernel
theorem dX8_power_12 : decode cX8_power 12 = .ok (.iload_n 0, 1) := by decide +kernel
theorem dX8_power_13 : decode cX8_power 13 = .ok (.i2l, 1) := by decide +kernel
theorem dX8_power_14 : decode cX8_power 14 = .ok (.lmul, 1) := by decide +kernel
theorem dX8_power_15 : decode cX8_power 15 = .ok (.lstore_n 2, 1) := by decide +kernel
theorem dX8_power_16 : decode cX8_power 16 = .ok (.iinc 4 1, 3) := by decide +kernel
theorem dX8_power_19 : decode cX8_power 19 = .ok (.goto (-14), 3) := by decide +kernel
theorem dX8_power_22 : decode cX8_power 22 = .ok (.lload_n 2, 1) := by decide +kernel
theorem dX8_power_23 : decode cX8_power 23 = .ok (.lreturn, 1) := by decide +kernel
theorem dX8_commonDivisor_0 : decode cX8_commonDivisor 0 = .ok (.lload_n 2, 1) := by decide +kernel
theorem dX8_commonDivisor_1 : decode cX8_commonDivisor 1 = .ok (.lstore 4, 2) := by decide +kernel
theorem dX8_commonDivisor_3 : decode cX8_commonDivisor 3 = .ok (.lload_n 0, 1) := by decide +kernel
theorem dX8_commonDivisor_4 : decode cX8_commonDivisor 4 = .ok (.lstore 6, 2) := by decide +kernel
theorem dX8_commonDivisor_6 : decode cX8_commonDivisor 6 = .ok (.iconst 0, 1) := by decide +kernel
theorem dX8_commonDivisor_7 : decode cX8_commonDivisor 7 = .ok (.istore 8, 2) := by decide +kernel
theorem dX8_commonDivisor_9 : decode cX8_commonDivisor 9 = .ok (.iload 8, 2) := by decide +kernel
theorem dX8_commonDivisor_11 : decode cX8_commonDivisor 11 = .ok (.sipush 200, 3) := by decide +kernel
theorem dX8_commonDivisor_14 : decode cX8_commonDivisor 14 = .ok (.if_icmp .ge 31, 3) := by decide +kernel
theorem dX8_commonDivisor_17 : decode cX8_commonDivisor 17 = .ok (.lload 6, 2) := by decide +kernel
theorem dX8_commonDivisor_19 : decode cX8_commonDivisor 19 = .ok (.lconst 0, 1) := by decide +kernel
theorem dX8_commonDivisor_20 : decode cX8_commonDivisor 20 = .ok (.lcmp, 1) := by decide +kernel
theorem dX8_commonDivisor_21 : decode cX8_commonDivisor 21 = .ok (.ifCond .eq 24, 3) := by decide +kernel
theorem dX8_commonDivisor_24 : decode cX8_commonDivisor 24 = .ok (.lload 4, 2) := by decide +kernel
theorem dX8_commonDivisor_26 : decode cX8_commonDivisor 26 = .ok (.lload 6, 2) := by decide +kernel
theorem dX8_commonDivisor_28 : decode cX8_commonDivisor 28 = .ok (.lrem, 1) := by decide +kernel
theorem dX8_commonDivisor_29 : decode cX8_commonDivisor 29 = .ok (.lstore 9, 2) := by decide +kernel
theorem dX8_commonDivisor_31 : decode cX8_commonDivisor 31 = .ok (.lload 6, 2) := by decide +kernel
theorem dX8_commonDivisor_33 : decode cX8_commonDivisor 33 = .ok (.lstore 4, 2) := by decide +kernel
theorem dX8_commonDivisor_35 : decode cX8_commonDivisor 35 = .ok (.lload 9, 2) := by decide +kernel
theorem dX8_commonDivisor_37 : decode cX8_commonDivisor 37 = .ok (.lstore 6, 2) := by decide +kernel
theorem dX8_commonDivisor_39 : decode cX8_commonDivisor 39 = .ok (.iinc 8 1, 3) := by decide +kernel
theorem dX8_commonDivisor_42 : decode cX8_commonDivisor 42 = .ok (.goto (-33), 3) := by decide +kernel
theorem dX8_commonDivisor_45 : decode cX8_commonDivisor 45 = .ok (.lload 4, 2) := by decide +kernel
theorem dX8_commonDivisor_47 : decode cX8_commonDivisor 47 = .ok (.lreturn, 1) := by decide +kernel
theorem dX8_share_0 : decode cX8_share 0 = .ok (.iload_n 0, 1) := by decide +kernel
theorem dX8_share_1 : decode cX8_share 1 = .ok (.iload_n 1, 1) := by decide +kernel
theorem dX8_share_2 : decode cX8_share 2 = .ok (.iadd, 1) := by decide +kernel
theorem dX8_share_3 : decode cX8_share 3 = .ok (.iload_n 2, 1) := by decide +kernel
theorem dX8_share_4 : decode cX8_share 4 = .ok (.if_icmp .gt 5, 3) := by decide +kernel
theorem dX8_share_7 : decode cX8_share 7 = .ok (.iload_n 0, 1) := by decide +kernel
theorem dX8_share_8 : decode cX8_share 8 = .ok (.ireturn, 1) := by decide +kernel
theorem dX8_share_9 : decode cX8_share 9 = .ok (.iload_n 0, 1) := by decide +kernel
theorem dX8_share_10 : decode cX8_share 10 = .ok (.iload_n 1, 1) := by decide +kernel
theorem dX8_share_11 : decode cX8_share 11 = .ok (.if_icmp .ne 9, 3) := by decide +kernel
theorem dX8_share_14 : decode cX8_share 14 = .ok (.iload_n 2, 1) := by decide +kernel
theorem dX8_share_15 : decode cX8_share 15 = .ok (.iconst 2, 1) := by decide +kernel
theorem dX8_share_16 : decode cX8_share 16 = .ok (.idiv, 1) := by decide +kernel
theorem dX8_share_17 : decode cX8_share 17 = .ok (.iconst 1, 1) := by decide +kernel
theorem dX8_share_18 : decode cX8_share 18 = .ok (.isub, 1) := by decide +kernel
theorem dX8_share_19 : decode cX8_share 19 = .ok (.ireturn, 1) := by decide +kernel
theorem dX8_share_20 : decode cX8_share 20 = .ok (.iload_n 0, 1) := by decide +kernel
theorem dX8_share_21 : decode cX8_share 21 = .ok (.iload_n 1, 1) := by decide +kernel
theorem dX8_share_22 : decode cX8_share 22 = .ok (.if_icmp .ge 11, 3) := by decide +kernel
theorem dX8_share_25 : decode cX8_share 25 = .ok (.iload_n 0, 1) := by decide +kernel
theorem dX8_share_26 : decode cX8_share 26 = .ok (.iload_n 2, 1) := by decide +kernel
theorem dX8_share_27 : decode cX8_share 27 = .ok (.invokestatic 390, 3) := by decide +kernel
theorem dX8_share_30 : decode cX8_share 30 = .ok (.goto 10, 3) := by decide +kernel
theorem dX8_share_33 : decode cX8_share 33 = .ok (.iload_n 2, 1) := by decide +kernel
theorem dX8_share_34 : decode cX8_share 34 = .ok (.iload_n 1, 1) := by decide +kernel
theorem dX8_share_35 : decode cX8_share 35 = .ok (.iload_n 2, 1) := by decide +kernel
theorem dX8_share_36 : decode cX8_share 36 = .ok (.invokestatic 390, 3) := by decide +kernel
theorem dX8_share_39 : decode cX8_share 39 = .ok (.isub, 1) := by decide +kernel
theorem dX8_share_40 : decode cX8_share 40 = .ok (.iconst 1, 1) := by decide +kernel
theorem dX8_share_41 : decode cX8_share 41 = .ok (.isub, 1) := by decide +kernel
theorem dX8_share_42 : decode cX8_share 42 = .ok (.ireturn, 1) := by decide +kernel
theorem dX8_isBestAgainst_0 : decode cX8_isBestAgainst 0 = .ok (.iload_n 0, 1) := by decide +kernel
theorem dX8_isBestAgainst_1 : decode cX8_isBestAgainst 1 = .ok (.iload_n 1, 1) := by decide +kernel
theorem dX8_isBestAgainst_2 : decode cX8_isBestAgainst 2 = .ok (.iload_n 2, 1) := by decide +kernel
theorem dX8_isBestAgainst_3 : decode cX8_isBestAgainst 3 = .ok (.invokestatic 410, 3) := by decide +kernel
theorem dX8_isBestAgainst_6 : decode cX8_isBestAgainst 6 = .ok (.istore_n 3, 1) := by decide +kernel
theorem dX8_isBestAgainst_7 : decode cX8_isBestAgainst 7 = .ok (.iconst 0, 1) := by decide +kernel
theorem dX8_isBestAgainst_8 : decode cX8_isBestAgainst 8 = .ok (.istore 4, 2) := by decide +kernel
theorem dX8_isBestAgainst_10 : decode cX8_isBestAgainst 10 = .ok (.iload 4, 2) := by decide +kernel
theorem dX8_isBestAgainst_12 : decode cX8_isBestAgainst 12 = .ok (.bipush 9, 2) := by decide +kernel
theorem dX8_isBestAgainst_14 : decode cX8_isBestAgainst 14 = .ok (.if_icmp .gt 22, 3) := by decide +kernel
theorem dX8_isBestAgainst_17 : decode cX8_isBestAgainst 17 = .ok (.iload 4, 2) := by decide +kernel
theorem dX8_isBestAgainst_19 : decode cX8_isBestAgainst 19 = .ok (.iload_n 1, 1) := by decide +kernel
theorem dX8_isBestAgainst_20 : decode cX8_isBestAgainst 20 = .ok (.iload_n 2, 1) := by decide +kernel
theorem dX8_isBestAgainst_21 : decode cX8_isBestAgainst 21 = .ok (.invokestatic 410, 3) := by decide +kernel
theorem dX8_isBestAgainst_24 : decode cX8_isBestAgainst 24 = .ok (.iload_n 3, 1) := by decide +kernel
theorem dX8_isBestAgainst_25 : decode cX8_isBestAgainst 25 = .ok (.if_icmp .le 5, 3) := by decide +kernel
theorem dX8_isBestAgainst_28 : decode cX8_isBestAgainst 28 = .ok (.iconst 0, 1) := by decide +kernel
theorem dX8_isBestAgainst_29 : decode cX8_isBestAgainst 29 = .ok (.ireturn, 1) := by decide +kernel
theorem dX8_isBestAgainst_30 : decode cX8_isBestAgainst 30 = .ok (.iinc 4 1, 3) := by decide +kernel
theorem dX8_isBestAgainst_33 : decode cX8_isBestAgainst 33 = .ok (.goto (-23), 3) := by decide +kernel
theorem dX8_isBestAgainst_36 : decode cX8_isBestAgainst 36 = .ok (.iconst 1, 1) := by decide +kernel
theorem dX8_isBestAgainst_37 : decode cX8_isBestAgainst 37 = .ok (.ireturn, 1) := by decide +kernel
theorem dX8_drawnBelow_0 : decode cX8_drawnBelow 0 = .ok (.aload_n 0, 1) := by decide +kernel
theorem dX8_drawnBelow_1 : decode cX8_drawnBelow 1 = .ok (.aload_n 0, 1) := by decide +kernel
theorem dX8_drawnBelow_2 : decode cX8_drawnBelow 2 = .ok (.getfield 79, 3) := by decide +kernel
theorem dX8_drawnBelow_5 : decode cX8_drawnBelow 5 = .ok (.ldc_w 413, 3) := by decide +kernel
theorem dX8_drawnBelow_8 : decode cX8_drawnBelow 8 = .ok (.imul, 1) := by decide +kernel
theorem dX8_drawnBelow_9 : decode cX8_drawnBelow 9 = .ok (.sipush 12345, 3) := by decide +kernel
theorem dX8_drawnBelow_12 : decode cX8_drawnBelow 12 = .ok (.iadd, 1) := by decide +kernel
theorem dX8_drawnBelow_13 : decode cX8_drawnBelow 13 = .ok (.putfield 79, 3) := by decide +kernel
theorem dX8_drawnBelow_16 : decode cX8_drawnBelow 16 = .ok (.iload_n 1, 1) := by decide +kernel
theorem dX8_drawnBelow_17 : decode cX8_drawnBelow 17 = .ok (.ifCond .le 15, 3) := by decide +kernel
theorem dX8_drawnBelow_20 : decode cX8_drawnBelow 20 = .ok (.aload_n 0, 1) := by decide +kernel
theorem dX8_drawnBelow_21 : decode cX8_drawnBelow 21 = .ok (.getfield 79, 3) := by decide +kernel
theorem dX8_drawnBelow_24 : decode cX8_drawnBelow 24 = .ok (.bipush 16, 2) := by decide +kernel
theorem dX8_drawnBelow_26 : decode cX8_drawnBelow 26 = .ok (.iushr, 1) := by decide +kernel
theorem dX8_drawnBelow_27 : decode cX8_drawnBelow 27 = .ok (.iload_n 1, 1) := by decide +kernel
theorem dX8_drawnBelow_28 : decode cX8_drawnBelow 28 = .ok (.irem, 1) := by decide +kernel
theorem dX8_drawnBelow_29 : decode cX8_drawnBelow 29 = .ok (.goto 4, 3) := by decide +kernel
theorem dX8_drawnBelow_32 : decode cX8_drawnBelow 32 = .ok (.iconst 0, 1) := by decide +kernel
theorem dX8_drawnBelow_33 : decode cX8_drawnBelow 33 = .ok (.ireturn, 1) := by decide +kernel
theorem dX8_weaveDrawn_0 : decode cX8_weaveDrawn 0 = .ok (.aload_n 0, 1) := by decide +kernel
theorem dX8_weaveDrawn_1 : decode cX8_weaveDrawn 1 = .ok (.iconst 2, 1) := by decide +kernel
theorem dX8_weaveDrawn_2 : decode cX8_weaveDrawn 2 = .ok (.invokevirtual 358, 3) := by decide +kernel
theorem dX8_weaveDrawn_5 : decode cX8_weaveDrawn 5 = .ok (.istore_n 1, 1) := by decide +kernel
theorem dX8_weaveDrawn_6 : decode cX8_weaveDrawn 6 = .ok (.aload_n 0, 1) := by decide +kernel
theorem dX8_weaveDrawn_7 : decode cX8_weaveDrawn 7 = .ok (.aload_n 0, 1) := by decide +kernel
theorem dX8_weaveDrawn_8 : decode cX8_weaveDrawn 8 = .ok (.getfield 16, 3) := by decide +kernel
theorem dX8_weaveDrawn_11 : decode cX8_weaveDrawn 11 = .ok (.iload_n 1, 1) := by decide +kernel
theorem dX8_weaveDrawn_12 : decode cX8_weaveDrawn 12 = .ok (.invokevirtual 414, 3) := by decide +kernel
theorem dX8_weaveDrawn_15 : decode cX8_weaveDrawn 15 = .ok (.iconst 1, 1) := by decide +kernel
theorem dX8_weaveDrawn_16 : decode cX8_weaveDrawn 16 = .ok (.iadd, 1) := by decide +kernel
theorem dX8_weaveDrawn_17 : decode cX8_weaveDrawn 17 = .ok (.invokevirtual 358, 3) := by decide +kernel
theorem dX8_weaveDrawn_20 : decode cX8_weaveDrawn 20 = .ok (.istore_n 2, 1) := by decide +kernel
theorem dX8_weaveDrawn_21 : decode cX8_weaveDrawn 21 = .ok (.aload_n 0, 1) := by decide +kernel
theorem dX8_weaveDrawn_22 : decode cX8_weaveDrawn 22 = .ok (.bipush 64, 2) := by decide +kernel
theorem dX8_weaveDrawn_24 : decode cX8_weaveDrawn 24 = .ok (.invokevirtual 358, 3) := by decide +kernel
theorem dX8_weaveDrawn_27 : decode cX8_weaveDrawn 27 = .ok (.aload_n 0, 1) := by decide +kernel
theorem dX8_weaveDrawn_28 : decode cX8_weaveDrawn 28 = .ok (.getfield 16, 3) := by decide +kernel
theorem dX8_weaveDrawn_31 : decode cX8_weaveDrawn 31 = .ok (.iload_n 1, 1) := by decide +kernel
theorem dX8_weaveDrawn_32 : decode cX8_weaveDrawn 32 = .ok (.invokevirtual 417, 3) := by decide +kernel
theorem dX8_weaveDrawn_35 : decode cX8_weaveDrawn 35 = .ok (.iand, 1) := by decide +kernel
theorem dX8_weaveDrawn_36 : decode cX8_weaveDrawn 36 = .ok (.istore_n 3, 1) := by decide +kernel
theorem dX8_weaveDrawn_37 : decode cX8_weaveDrawn 37 = .ok (.aload_n 0, 1) := by decide +kernel
theorem dX8_weaveDrawn_38 : decode cX8_weaveDrawn 38 = .ok (.getfield 16, 3) := by decide +kernel
theorem dX8_weaveDrawn_41 : decode cX8_weaveDrawn 41 = .ok (.iload_n 1, 1) := by decide +kernel
theorem dX8_weaveDrawn_42 : decode cX8_weaveDrawn 42 = .ok (.iload_n 2, 1) := by decide +kernel
theorem dX8_weaveDrawn_43 : decode cX8_weaveDrawn 43 = .ok (.iload_n 3, 1) := by decide +kernel
theorem dX8_weaveDrawn_44 : decode cX8_weaveDrawn 44 = .ok (.invokevirtual 156, 3) := by decide +kernel
theorem dX8_weaveDrawn_47 : decode cX8_weaveDrawn 47 = .ok (.pop, 1) := by decide +kernel
theorem dX8_weaveDrawn_48 : decode cX8_weaveDrawn 48 = .ok (.return_, 1) := by decide +kernel
theorem dX8_without_0 : decode cX8_without 0 = .ok (.iconst 1, 1) := by decide +kernel
theorem dX8_without_1 : decode cX8_without 1 = .ok (.iload_n 1, 1) := by decide +kernel
theorem dX8_without_2 : decode cX8_without 2 = .ok (.ishl, 1) := by decide +kernel
theorem dX8_without_3 : decode cX8_without 3 = .ok (.iconst 1, 1) := by decide +kernel
theorem dX8_without_4 : decode cX8_without 4 = .ok (.isub, 1) := by decide +kernel
theorem dX8_without_5 : decode cX8_without 5 = .ok (.istore_n 2, 1) := by decide +kernel
theorem dX8_without_6 : decode cX8_without 6 = .ok (.iload_n 0, 1) := by decide +kernel
theorem dX8_without_7 : decode cX8_without 7 = .ok (.iload_n 2, 1) := by decide +kernel
theorem dX8_without_8 : decode cX8_without 8 = .ok (.iand, 1) := by decide +kernel
theorem dX8_without_9 : decode cX8_without 9 = .ok (.iload_n 0, 1) := by decide +kernel
theorem dX8_without_10 : decode cX8_without 10 = .ok (.iconst 1, 1) := by decide +kernel
theorem dX8_without_11 : decode cX8_without 11 = .ok (.iushr, 1) := by decide +kernel
theorem dX8_without_12 : decode cX8_without 12 = .ok (.iload_n 2, 1) := by decide +kernel
theorem dX8_without_13 : decode cX8_without 13 = .ok (.iconst (-1), 1) := by decide +kernel
theorem dX8_without_14 : decode cX8_without 14 = .ok (.ixor, 1) := by decide +kernel
theorem dX8_without_15 : decode cX8_without 15 = .ok (.iand, 1) := by decide +kernel
theorem dX8_without_16 : decode cX8_without 16 = .ok (.ior, 1) := by decide +kernel
theorem dX8_without_17 : decode cX8_without 17 = .ok (.ireturn, 1) := by decide +kernel
theorem dX8_with_0 : decode cX8_with 0 = .ok (.iconst 1, 1) := by decide +kernel
theorem dX8_with_1 : decode cX8_with 1 = .ok (.iload_n 1, 1) := by decide +kernel
theorem dX8_with_2 : decode cX8_with 2 = .ok (.ishl, 1) := by decide +kernel
theorem dX8_with_3 : decode cX8_with 3 = .ok (.iconst 1, 1) := by decide +kernel
theorem dX8_with_4 : decode cX8_with 4 = .ok (.isub, 1) := by decide +kernel
theorem dX8_with_5 : decode cX8_with 5 = .ok (.istore_n 3, 1) := by decide +kernel
theorem dX8_with_6 : decode cX8_with 6 = .ok (.iload_n 0, 1) := by decide +kernel
theorem dX8_with_7 : decode cX8_with 7 = .ok (.iload_n 3, 1) := by decide +kernel
theorem dX8_with_8 : decode cX8_with 8 = .ok (.iand, 1) := by decide +kernel
theorem dX8_with_9 : decode cX8_with 9 = .ok (.iload_n 2, 1) := by decide +kernel
theorem dX8_with_10 : decode cX8_with 10 = .ok (.iload_n 1, 1) := by decide +kernel
theorem dX8_with_11 : decode cX8_with 11 = .ok (.ishl, 1) := by decide +kernel
theorem dX8_with_12 : decode cX8_with 12 = .ok (.ior, 1) := by decide +kernel
theorem dX8_with_13 : decode cX8_with 13 = .ok (.iload_n 0, 1) := by decide +kernel
theorem dX8_with_14 : decode cX8_with 14 = .ok (.iload_n 3, 1) := by decide +kernel
theorem dX8_with_15 : decode cX8_with 15 = .ok (.iconst (-1), 1) := by decide +kernel
theorem dX8_with_16 : decode cX8_with 16 = .ok (.ixor, 1) := by decide +kernel
theorem dX8_with_17 : decode cX8_with 17 = .ok (.iand, 1) := by decide +kernel
theorem dX8_with_18 : decode cX8_with 18 = .ok (.iconst 1, 1) := by decide +kernel
theorem dX8_with_19 : decode cX8_with 19 = .ok (.ishl, 1) := by decide +kernel
theorem dX8_with_20 : decode cX8_with 20 = .ok (.ior, 1) := by decide +kernel
theorem dX8_with_21 : decode cX8_with 21 = .ok (.ireturn, 1) := by decide +kernel
theorem dX9_thrown_0 : decode cX9_thrown 0 = .ok (.aload_n 0, 1) := by decide +kernel
theorem dX9_thrown_1 : decode cX9_thrown 1 = .ok (.getfield 3, 3) := by decide +kernel
theorem dX9_thrown_4 : decode cX9_thrown 4 = .ok (.ireturn, 1) := by decide +kernel
theorem dX9_refuse_0 : decode cX9_refuse 0 = .ok (.aload_n 0, 1) := by decide +kernel
theorem dX9_refuse_1 : decode cX9_refuse 1 = .ok (.iconst 1, 1) := by decide +kernel
theorem dX9_refuse_2 : decode cX9_refuse 2 = .ok (.putfield 3, 3) := by decide +kernel
theorem dX9_refuse_5 : decode cX9_refuse 5 = .ok (.iconst 0, 1) := by decide +kernel
theorem dX9_refuse_6 : decode cX9_refuse 6 = .ok (.ireturn, 1) := by decide +kernel
theorem dX9_in_0 : decode cX9_in 0 = .ok (.lload_n 0, 1) := by decide +kernel
theorem dX9_in_1 : decode cX9_in 1 = .ok (.lload_n 2, 1) := by decide +kernel
theorem dX9_in_2 : decode cX9_in 2 = .ok (.lcmp, 1) := by decide +kernel
theorem dX9_in_3 : decode cX9_in 3 = .ok (.ifCond .lt 14, 3) := by decide +kernel
theorem dX9_in_6 : decode cX9_in 6 = .ok (.lload_n 0, 1) := by decide +kernel
theorem dX9_in_7 : decode cX9_in 7 = .ok (.lload 4, 2) := by decide +kernel
theorem dX9_in_9 : decode cX9_in 9 = .ok (.lcmp, 1) := by decide +kernel
theorem dX9_in_10 : decode cX9_in 10 = .ok (.ifCond .gt 7, 3) := by decide +kernel
theorem dX9_in_13 : decode cX9_in 13 = .ok (.iconst 1, 1) := by decide +kernel
theorem dX9_in_14 : decode cX9_in 14 = .ok (.goto 4, 3) := by decide +kernel
theorem dX9_in_17 : decode cX9_in 17 = .ok (.iconst 0, 1) := by decide +kernel
theorem dX9_in_18 : decode cX9_in 18 = .ok (.ireturn, 1) := by decide +kernel
theorem dX9_has_0 : decode cX9_has 0 = .ok (.iload_n 0, 1) := by decide +kernel
theorem dX9_has_1 : decode cX9_has 1 = .ok (.iload_n 1, 1) := by decide +kernel
theorem dX9_has_2 : decode cX9_has 2 = .ok (.ishr, 1) := by decide +kernel
theorem dX9_has_3 : decode cX9_has 3 = .ok (.iconst 1, 1) := by decide +kernel
theorem dX9_has_4 : decode cX9_has 4 = .ok (.iand, 1) := by decide +kernel
theorem dX9_has_5 : decode cX9_has 5 = .ok (.iconst 1, 1) := by decide +kernel
theorem dX9_has_6 : decode cX9_has 6 = .ok (.if_icmp .ne 7, 3) := by decide +kernel
theorem dX9_has_9 : decode cX9_has 9 = .ok (.iconst 1, 1) := by decide +kernel
theorem dX9_has_10 : decode cX9_has 10 = .ok (.goto 4, 3) := by decide +kernel
theorem dX9_has_13 : decode cX9_has 13 = .ok (.iconst 0, 1) := by decide +kernel
theorem dX9_has_14 : decode cX9_has 14 = .ok (.ireturn, 1) := by decide +kernel
theorem dX9_flag_0 : decode cX9_flag 0 = .ok (.iload_n 0, 1) := by decide +kernel
theorem dX9_flag_1 : decode cX9_flag 1 = .ok (.ifCond .eq 7, 3) := by decide +kernel
theorem dX9_flag_4 : decode cX9_flag 4 = .ok (.iconst 1, 1) := by decide +kernel
theorem dX9_flag_5 : decode cX9_flag 5 = .ok (.goto 4, 3) := by decide +kernel
theorem dX9_flag_8 : decode cX9_flag 8 = .ok (.iconst 0, 1) := by decide +kernel
theorem dX9_flag_9 : decode cX9_flag 9 = .ok (.ireturn, 1) := by decide +kernel
theorem dX9_common_0 : decode cX9_common 0 = .ok (.lload_n 2, 1) := by decide +kernel
theorem dX9_common_1 : decode cX9_common 1 = .ok (.lconst 0, 1) := by decide +kernel
theorem dX9_common_2 : decode cX9_common 2 = .ok (.lcmp, 1) := by decide +kernel
theorem dX9_common_3 : decode cX9_common 3 = .ok (.ifCond .ne 7, 3) := by decide +kernel
theorem dX9_common_6 : decode cX9_common 6 = .ok (.lload_n 0, 1) := by decide +kernel
theorem dX9_common_7 : decode cX9_common 7 = .ok (.goto 10, 3) := by decide +kernel
theorem dX9_common_10 : decode cX9_common 10 = .ok (.lload_n 2, 1) := by decide +kernel
theorem dX9_common_11 : decode cX9_common 11 = .ok (.lload_n 0, 1) := by decide +kernel
theorem dX9_common_12 : decode cX9_common 12 = .ok (.lload_n 2, 1) := by decide +kernel
theorem dX9_common_13 : decode cX9_common 13 = .ok (.lrem, 1) := by decide +kernel
theorem dX9_common_14 : decode cX9_common 14 = .ok (.invokestatic 7, 3) := by decide +kernel
theorem dX9_common_17 : decode cX9_common 17 = .ok (.lreturn, 1) := by decide +kernel
theorem dX9_enters_0 : decode cX9_enters 0 = .ok (.aload_n 0, 1) := by decide +kernel
theorem dX9_enters_1 : decode cX9_enters 1 = .ok (.getfield 11, 3) := by decide +kernel
theorem dX9_enters_4 : decode cX9_enters 4 = .ok (.aload_n 0, 1) := by decide +kernel
theorem dX9_enters_5 : decode cX9_enters 5 = .ok (.getfield 15, 3) := by decide +kernel
theorem dX9_enters_8 : decode cX9_enters 8 = .ok (.lload_n 1, 1) := by decide +kernel
theorem dX9_enters_9 : decode cX9_enters 9 = .ok (.lastore, 1) := by decide +kernel
theorem dX9_enters_10 : decode cX9_enters 10 = .ok (.aload_n 0, 1) := by decide +kernel
theorem dX9_enters_11 : decode cX9_enters 11 = .ok (.dup, 1) := by decide +kernel
theorem dX9_enters_12 : decode cX9_enters 12 = .ok (.getfield 15, 3) := by decide +kernel
theorem dX9_enters_15 : decode cX9_enters 15 = .ok (.iconst 1, 1) := by decide +kernel
theorem dX9_enters_16 : decode cX9_enters 16 = .ok (.iadd, 1) := by decide +kernel
theorem dX9_enters_17 : decode cX9_enters 17 = .ok (.putfield 15, 3) := by decide +kernel
theorem dX9_enters_20 : decode cX9_enters 20 = .ok (.return_, 1) := by decide +kernel
theorem dX9_init_0 : decode cX9_init 0 = .ok (.aload_n 0, 1) := by decide +kernel
theorem dX9_init_1 : decode cX9_init 1 = .ok (.invokespecial 18, 3) := by decide +kernel
theorem dX9_init_4 : decode cX9_init 4 = .ok (.aload_n 0, 1) := by decide +kernel
theorem dX9_init_5 : decode cX9_init 5 = .ok (.bipush 24, 2) := by decide +kernel
theorem dX9_init_7 : decode cX9_init 7 = .ok (.newarray .long, 2) := by decide +kernel
theorem dX9_init_9 : decode cX9_init 9 = .ok (.putfield 11, 3) := by decide +kernel
theorem dX9_init_12 : decode cX9_init 12 = .ok (.aload_n 0, 1) := by decide +kernel
theorem dX9_init_13 : decode cX9_init 13 = .ok (.bipush 9, 2) := by decide +kernel
theorem dX9_init_15 : decode cX9_init 15 = .ok (.newarray .int, 2) := by decide +kernel
theorem dX9_init_17 : decode cX9_init 17 = .ok (.putfield 24, 3) := by decide +kernel
theorem dX9_init_20 : decode cX9_init 20 = .ok (.aload_n 0, 1) := by decide +kernel
theorem dX9_init_21 : decode cX9_init 21 = .ok (.bipush 9, 2) := by decide +kernel
theorem dX9_init_23 : decode cX9_init 23 = .ok (.newarray .int, 2) := by decide +kernel
theorem dX9_init_25 : decode cX9_init 25 = .ok (.putfield 28, 3) := by decide +kernel
theorem dX9_init_28 : decode cX9_init 28 = .ok (.aload_n 0, 1) := by decide +kernel
theorem dX9_init_29 : decode cX9_init 29 = .ok (.bipush 80, 2) := by decide +kernel
theorem dX9_init_31 : decode cX9_init 31 = .ok (.newarray .int, 2) := by decide +kernel
theorem dX9_init_33 : decode cX9_init 33 = .ok (.putfield 31, 3) := by decide +kernel
theorem dX9_init_36 : decode cX9_init 36 = .ok (.aload_n 0, 1) := by decide +kernel
theorem dX9_init_37 : decode cX9_init 37 = .ok (.bipush 9, 2) := by decide +kernel
theorem dX9_init_39 : decode cX9_init 39 = .ok (.newarray .int, 2) := by decide +kernel
theorem dX9_init_41 : decode cX9_init 41 = .ok (.putfield 34, 3) := by decide +kernel
theorem dX9_init_44 : decode cX9_init 44 = .ok (.aload_n 0, 1) := by decide +kernel
theorem dX9_init_45 : decode cX9_init 45 = .ok (.bipush 80, 2) := by decide +kernel
theorem dX9_init_47 : decode cX9_init 47 = .ok (.newarray .int, 2) := by decide +kernel
theorem dX9_init_49 : decode cX9_init 49 = .ok (.putfield 37, 3) := by decide +kernel
theorem dX9_init_52 : decode cX9_init 52 = .ok (.aload_n 0, 1) := by decide +kernel
theorem dX9_init_53 : decode cX9_init 53 = .ok (.bipush 80, 2) := by decide +kernel
theorem dX9_init_55 : decode cX9_init 55 = .ok (.newarray .int, 2) := by decide +kernel
theorem dX9_init_57 : decode cX9_init 57 = .ok (.putfield 40, 3) := by decide +kernel
theorem dX9_init_60 : decode cX9_init 60 = .ok (.aload_n 0, 1) := by decide +kernel
theorem dX9_init_61 : decode cX9_init 61 = .ok (.bipush 80, 2) := by decide +kernel
theorem dX9_init_63 : decode cX9_init 63 = .ok (.newarray .int, 2) := by decide +kernel
theorem dX9_init_65 : decode cX9_init 65 = .ok (.putfield 43, 3) := by decide +kernel
theorem dX9_init_68 : decode cX9_init 68 = .ok (.aload_n 0, 1) := by decide +kernel
theorem dX9_init_69 : decode cX9_init 69 = .ok (.bipush 8, 2) := by decide +kernel
theorem dX9_init_71 : decode cX9_init 71 = .ok (.newarray .int, 2) := by decide +kernel
theorem dX9_init_73 : decode cX9_init 73 = .ok (.putfield 46, 3) := by decide +kernel
theorem dX9_init_76 : decode cX9_init 76 = .ok (.aload_n 0, 1) := by decide +kernel
theorem dX9_init_77 : decode cX9_init 77 = .ok (.sipush 144, 3) := by decide +kernel
theorem dX9_init_80 : decode cX9_init 80 = .ok (.newarray .int, 2) := by decide +kernel
theorem dX9_init_82 : decode cX9_init 82 = .ok (.putfield 49, 3) := by decide +kernel
theorem dX9_init_85 : decode cX9_init 85 = .ok (.aload_n 0, 1) := by decide +kernel
theorem dX9_init_86 : decode cX9_init 86 = .ok (.bipush 60, 2) := by decide +kernel
theorem dX9_init_88 : decode cX9_init 88 = .ok (.newarray .int, 2) := by decide +kernel
theorem dX9_init_90 : decode cX9_init 90 = .ok (.putfield 52, 3) := by decide +kernel
theorem dX9_init_93 : decode cX9_init 93 = .ok (.aload_n 0, 1) := by decide +kernel
theorem dX9_init_94 : decode cX9_init 94 = .ok (.bipush 60, 2) := by decide +kernel
theorem dX9_init_96 : decode cX9_init 96 = .ok (.newarray .int, 2) := by decide +kernel
theorem dX9_init_98 : decode cX9_init 98 = .ok (.putfield 55, 3) := by decide +kernel
theorem dX9_init_101 : decode cX9_init 101 = .ok (.aload_n 0, 1) := by decide +kernel
theorem dX9_init_102 : decode cX9_init 102 = .ok (.bipush 60, 2) := by decide +kernel
theorem dX9_init_104 : decode cX9_init 104 = .ok (.newarray .int, 2) := by decide +kernel
theorem dX9_init_106 : decode cX9_init 106 = .ok (.putfield 58, 3) := by decide +kernel
theorem dX9_init_109 : decode cX9_init 109 = .ok (.aload_n 0, 1) := by decide +kernel
theorem dX9_init_110 : decode cX9_init 110 = .ok (.bipush 60, 2) := by decide +kernel
theorem dX9_init_112 : decode cX9_init 112 = .ok (.newarray .int, 2) := by decide +kernel
theorem dX9_init_114 : decode cX9_init 114 = .ok (.putfield 61, 3) := by decide +kernel
theorem dX9_init_117 : decode cX9_init 117 = .ok (.aload_n 0, 1) := by decide +kernel
theorem dX9_init_118 : decode cX9_init 118 = .ok (.bipush 12, 2) := by decide +kernel
theorem dX9_init_120 : decode cX9_init 120 = .ok (.newarray .int, 2) := by decide +kernel
theorem dX9_init_122 : decode cX9_init 122 = .ok (.putfield 64, 3) := by decide +kernel
theorem dX9_init_125 : decode cX9_init 125 = .ok (.aload_n 0, 1) := by decide +kernel
theorem dX9_init_126 : decode cX9_init 126 = .ok (.bipush 12, 2) := by decide +kernel
theorem dX9_init_128 : decode cX9_init 128 = .ok (.newarray .int, 2) := by decide +kernel
theorem dX9_init_130 : decode cX9_init 130 = .ok (.putfield 67, 3) := by decide +kernel
theorem dX9_init_133 : decode cX9_init 133 = .ok (.aload_n 0, 1) := by decide +kernel
theorem dX9_init_134 : decode cX9_init 134 = .ok (.sipush 4096, 3) := by decide +kernel
theorem dX9_init_137 : decode cX9_init 137 = .ok (.newarray .boolean, 2) := by decide +kernel
theorem dX9_init_139 : decode cX9_init 139 = .ok (.putfield 70, 3) := by decide +kernel
theorem dX9_init_142 : decode cX9_init 142 = .ok (.aload_n 0, 1) := by decide +kernel
theorem dX9_init_143 : decode cX9_init 143 = .ok (.sipush 500, 3) := by decide +kernel
theorem dX9_init_146 : decode cX9_init 146 = .ok (.newarray .long, 2) := by decide +kernel
theorem dX9_init_148 : decode cX9_init 148 = .ok (.putfield 74, 3) := by decide +kernel
theorem dX9_init_151 : decode cX9_init 151 = .ok (.aload_n 0, 1) := by decide +kernel
theorem dX9_init_152 : decode cX9_init 152 = .ok (.sipush 4096, 3) := by decide +kernel
theorem dX9_init_155 : decode cX9_init 155 = .ok (.newarray .int, 2) := by decide +kernel
theorem dX9_init_157 : decode cX9_init 157 = .ok (.putfield 77, 3) := by decide +kernel
theorem dX9_init_160 : decode cX9_init 160 = .ok (.aload_n 0, 1) := by decide +kernel
theorem dX9_init_161 : decode cX9_init 161 = .ok (.sipush 4096, 3) := by decide +kernel
theorem dX9_init_164 : decode cX9_init 164 = .ok (.newarray .boolean, 2) := by decide +kernel
theorem dX9_init_166 : decode cX9_init 166 = .ok (.putfield 80, 3) := by decide +kernel
theorem dX9_init_169 : decode cX9_init 169 = .ok (.aload_n 0, 1) := by decide +kernel
theorem dX9_init_170 : decode cX9_init 170 = .ok (.bipush 12, 2) := by decide +kernel
theorem dX9_init_172 : decode cX9_init 172 = .ok (.newarray .int, 2) := by decide +kernel
theorem dX9_init_174 : decode cX9_init 174 = .ok (.putfield 83, 3) := by decide +kernel
theorem dX9_init_177 : decode cX9_init 177 = .ok (.aload_n 0, 1) := by decide +kernel
theorem dX9_init_178 : decode cX9_init 178 = .ok (.bipush 12, 2) := by decide +kernel
theorem dX9_init_180 : decode cX9_init 180 = .ok (.newarray .int, 2) := by decide +kernel
theorem dX9_init_182 : decode cX9_init 182 = .ok (.putfield 86, 3) := by decide +kernel
theorem dX9_init_185 : decode cX9_init 185 = .ok (.aload_n 0, 1) := by decide +kernel
theorem dX9_init_186 : decode cX9_init 186 = .ok (.bipush 80, 2) := by decide +kernel
theorem dX9_init_188 : decode cX9_init 188 = .ok (.newarray .int, 2) := by decide +kernel
theorem dX9_init_190 : decode cX9_init 190 = .ok (.putfield 89, 3) := by decide +kernel
theorem dX9_init_193 : decode cX9_init 193 = .ok (.aload_n 0, 1) := by decide +kernel
theorem dX9_init_194 : decode cX9_init 194 = .ok (.bipush 10, 2) := by decide +kernel
theorem dX9_init_196 : decode cX9_init 196 = .ok (.newarray .int, 2) := by decide +kernel
theorem dX9_init_198 : decode cX9_init 198 = .ok (.putfield 92, 3) := by decide +kernel
theorem dX9_init_201 : decode cX9_init 201 = .ok (.aload_n 0, 1) := by decide +kernel
theorem dX9_init_202 : decode cX9_init 202 = .ok (.iconst 3, 1) := by decide +kernel
theorem dX9_init_203 : decode cX9_init 203 = .ok (.newarray .boolean, 2) := by decide +kernel
theorem dX9_init_205 : decode cX9_init 205 = .ok (.putfield 95, 3) := by decide +kernel
theorem dX9_init_208 : decode cX9_init 208 = .ok (.aload_n 0, 1) := by decide +kernel
theorem dX9_init_209 : decode cX9_init 209 = .ok (.iconst 3, 1) := by decide +kernel
theorem dX9_init_210 : decode cX9_init 210 = .ok (.newarray .int, 2) := by decide +kernel
theorem dX9_init_212 : decode cX9_init 212 = .ok (.putfield 98, 3) := by decide +kernel
theorem dX9_init_215 : decode cX9_init 215 = .ok (.aload_n 0, 1) := by decide +kernel
theorem dX9_init_216 : decode cX9_init 216 = .ok (.bipush 27, 2) := by decide +kernel
theorem dX9_init_218 : decode cX9_init 218 = .ok (.newarray .int, 2) := by decide +kernel
theorem dX9_init_220 : decode cX9_init 220 = .ok (.putfield 101, 3) := by decide +kernel
theorem dX9_init_223 : decode cX9_init 223 = .ok (.aload_n 0, 1) := by decide +kernel
theorem dX9_init_224 : decode cX9_init 224 = .ok (.getfield 24, 3) := by decide +kernel
theorem dX9_init_227 : decode cX9_init 227 = .ok (.iconst 0, 1) := by decide +kernel
theorem dX9_init_228 : decode cX9_init 228 = .ok (.iconst 1, 1) := by decide +kernel
theorem dX9_init_229 : decode cX9_init 229 = .ok (.iastore, 1) := by decide +kernel
theorem dX9_init_230 : decode cX9_init 230 = .ok (.aload_n 0, 1) := by decide +kernel
theorem dX9_init_231 : decode cX9_init 231 = .ok (.getfield 24, 3) := by decide +kernel
theorem dX9_init_234 : decode cX9_init 234 = .ok (.bipush 6, 2) := by decide +kernel
theorem dX9_init_236 : decode cX9_init 236 = .ok (.iconst 1, 1) := by decide +kernel
theorem dX9_init_237 : decode cX9_init 237 = .ok (.iastore, 1) := by decide +kernel
theorem dX9_init_238 : decode cX9_init 238 = .ok (.aload_n 0, 1) := by decide +kernel
theorem dX9_init_239 : decode cX9_init 239 = .ok (.getfield 24, 3) := by decide +kernel
theorem dX9_init_242 : decode cX9_init 242 = .ok (.bipush 7, 2) := by decide +kernel
theorem dX9_init_244 : decode cX9_init 244 = .ok (.iconst 1, 1) := by decide +kernel
theorem dX9_init_245 : decode cX9_init 245 = .ok (.iastore, 1) := by decide +kernel
theorem dX9_init_246 : decode cX9_init 246 = .ok (.return_, 1) := by decide +kernel
theorem dX9_copies_0 : decode cX9_copies 0 = .ok (.iconst 0, 1) := by decide +kernel
theorem dX9_copies_1 : decode cX9_copies 1 = .ok (.istore_n 2, 1) := by decide +kernel
theorem dX9_copies_2 : decode cX9_copies 2 = .ok (.iload_n 2, 1) := by decide +kernel
theorem dX9_copies_3 : decode cX9_copies 3 = .ok (.bipush 9, 2) := by decide +kernel
theorem dX9_copies_5 : decode cX9_copies 5 = .ok (.if_icmp .ge 15, 3) := by decide +kernel
theorem dX9_copies_8 : decode cX9_copies 8 = .ok (.aload_n 0, 1) := by decide +kernel
theorem dX9_copies_9 : decode cX9_copies 9 = .ok (.iload_n 2, 1) := by decide +kernel
theorem dX9_copies_10 : decode cX9_copies 10 = .ok (.aload_n 1, 1) := by decide +kernel
theorem dX9_copies_11 : decode cX9_copies 11 = .ok (.iload_n 2, 1) := by decide +kernel
theorem dX9_copies_12 : decode cX9_copies 12 = .ok (.iaload, 1) := by decide +kernel
theorem dX9_copies_13 : decode cX9_copies 13 = .ok (.iastore, 1) := by decide +kernel
theorem dX9_copies_14 : decode cX9_copies 14 = .ok (.iinc 2 1, 3) := by decide +kernel
theorem dX9_copies_17 : decode cX9_copies 17 = .ok (.goto (-15), 3) := by decide +kernel
theorem dX9_copies_20 : decode cX9_copies 20 = .ok (.return_, 1) := by decide +kernel
theorem dX9_manyOf_0 : decode cX9_manyOf 0 = .ok (.aload_n 0, 1) := by decide +kernel
theorem dX9_manyOf_1 : decode cX9_manyOf 1 = .ok (.bipush 6, 2) := by decide +kernel
theorem dX9_manyOf_3 : decode cX9_manyOf 3 = .ok (.iload_n 1, 1) := by decide +kernel
theorem dX9_manyOf_4 : decode cX9_manyOf 4 = .ok (.iadd, 1) := by decide +kernel
theorem dX9_manyOf_5 : decode cX9_manyOf 5 = .ok (.iaload, 1) := by decide +kernel
theorem dX9_manyOf_6 : decode cX9_manyOf 6 = .ok (.ireturn, 1) := by decide +kernel
theorem dX9_cellsOf_0 : decode cX9_cellsOf 0 = .ok (.aload_n 0, 1) := by decide +kernel
theorem dX9_cellsOf_1 : decode cX9_cellsOf 1 = .ok (.bipush 7, 2) := by decide +kernel
theorem dX9_cellsOf_3 : decode cX9_cellsOf 3 = .ok (.iload_n 1, 1) := by decide +kernel
theorem dX9_cellsOf_4 : decode cX9_cellsOf 4 = .ok (.isub, 1) := by decide +kernel
theorem dX9_cellsOf_5 : decode cX9_cellsOf 5 = .ok (.iaload, 1) := by decide +kernel
theorem dX9_cellsOf_6 : decode cX9_cellsOf 6 = .ok (.ireturn, 1) := by decide +kernel
theorem dX9_threadsOf_0 : decode cX9_threadsOf 0 = .ok (.aload_n 0, 1) := by decide +kernel
theorem dX9_threadsOf_1 : decode cX9_threadsOf 1 = .ok (.bipush 6, 2) := by decide +kernel
theorem dX9_threadsOf_3 : decode cX9_threadsOf 3 = .ok (.iaload, 1) := by decide +kernel
theorem dX9_threadsOf_4 : decode cX9_threadsOf 4 = .ok (.aload_n 0, 1) := by decide +kernel
theorem dX9_threadsOf_5 : decode cX9_threadsOf 5 = .ok (.bipush 7, 2) := by decide +kernel
theorem dX9_threadsOf_7 : decode cX9_threadsOf 7 = .ok (.iaload, 1) := by decide +kernel
theorem dX9_threadsOf_8 : decode cX9_threadsOf 8 = .ok (.iadd, 1) := by decide +kernel
theorem dX9_threadsOf_9 : decode cX9_threadsOf 9 = .ok (.ireturn, 1) := by decide +kernel
theorem dX9_isThread_0 : decode cX9_isThread 0 = .ok (.iload_n 1, 1) := by decide +kernel
theorem dX9_isThread_1 : decode cX9_isThread 1 = .ok (.i2l, 1) := by decide +kernel
theorem dX9_isThread_2 : decode cX9_isThread 2 = .ok (.lconst 0, 1) := by decide +kernel
theorem dX9_isThread_3 : decode cX9_isThread 3 = .ok (.lconst 1, 1) := by decide +kernel
theorem dX9_isThread_4 : decode cX9_isThread 4 = .ok (.invokestatic 104, 3) := by decide +kernel
theorem dX9_isThread_7 : decode cX9_isThread 7 = .ok (.ifCond .eq 24, 3) := by decide +kernel
theorem dX9_isThread_10 : decode cX9_isThread 10 = .ok (.iload_n 2, 1) := by decide +kernel
theorem dX9_isThread_11 : decode cX9_isThread 11 = .ok (.i2l, 1) := by decide +kernel
theorem dX9_isThread_12 : decode cX9_isThread 12 = .ok (.lconst 0, 1) := by decide +kernel
theorem dX9_isThread_13 : decode cX9_isThread 13 = .ok (.aload_n 0, 1) := by decide +kernel
theorem dX9_isThread_14 : decode cX9_isThread 14 = .ok (.iload_n 1, 1) := by decide +kernel
theorem dX9_isThread_15 : decode cX9_isThread 15 = .ok (.invokestatic 108, 3) := by decide +kernel
theorem dX9_isThread_18 : decode cX9_isThread 18 = .ok (.iconst 1, 1) := by decide +kernel
theorem dX9_isThread_19 : decode cX9_isThread 19 = .ok (.isub, 1) := by decide +kernel
theorem dX9_isThread_20 : decode cX9_isThread 20 = .ok (.i2l, 1) := by decide +kernel
theorem dX9_isThread_21 : decode cX9_isThread 21 = .ok (.invokestatic 104, 3) := by decide +kernel
theorem dX9_isThread_24 : decode cX9_isThread 24 = .ok (.ifCond .eq 7, 3) := by decide +kernel
theorem dX9_isThread_27 : decode cX9_isThread 27 = .ok (.iconst 1, 1) := by decide +kernel
theorem dX9_isThread_28 : decode cX9_isThread 28 = .ok (.goto 4, 3) := by decide +kernel
theorem dX9_isThread_31 : decode cX9_isThread 31 = .ok (.iconst 0, 1) := by decide +kernel
theorem dX9_isThread_32 : decode cX9_isThread 32 = .ok (.ireturn, 1) := by decide +kernel
theorem dX9_full_0 : decode cX9_full 0 = .ok (.iconst 1, 1) := by decide +kernel
theorem dX9_full_1 : decode cX9_full 1 = .ok (.iload_n 0, 1) := by decide +kernel
theorem dX9_full_2 : decode cX9_full 2 = .ok (.ishl, 1) := by decide +kernel
theorem dX9_full_3 : decode cX9_full 3 = .ok (.iconst 1, 1) := by decide +kernel
theorem dX9_full_4 : decode cX9_full 4 = .ok (.isub, 1) := by decide +kernel
theorem dX9_full_5 : decode cX9_full 5 = .ok (.ireturn, 1) := by decide +kernel
theorem dX9_bitsOf_0 : decode cX9_bitsOf 0 = .ok (.iload_n 1, 1) := by decide +kernel
theorem dX9_bitsOf_1 : decode cX9_bitsOf 1 = .ok (.ifCond .ne 7, 3) := by decide +kernel
theorem dX9_bitsOf_4 : decode cX9_bitsOf 4 = .ok (.aload_n 0, 1) := by decide +kernel
theorem dX9_bitsOf_5 : decode cX9_bitsOf 5 = .ok (.iload_n 2, 1) := by decide +kernel
theorem dX9_bitsOf_6 : decode cX9_bitsOf 6 = .ok (.iaload, 1) := by decide +kernel
theorem dX9_bitsOf_7 : decode cX9_bitsOf 7 = .ok (.ireturn, 1) := by decide +kernel
theorem dX9_bitsOf_8 : decode cX9_bitsOf 8 = .ok (.iconst 0, 1) := by decide +kernel
theorem dX9_bitsOf_9 : decode cX9_bitsOf 9 = .ok (.istore_n 3, 1) := by decide +kernel
theorem dX9_bitsOf_10 : decode cX9_bitsOf 10 = .ok (.iconst 0, 1) := by decide +kernel
theorem dX9_bitsOf_11 : decode cX9_bitsOf 11 = .ok (.istore 4, 2) := by decide +kernel
theorem dX9_bitsOf_13 : decode cX9_bitsOf 13 = .ok (.iload 4, 2) := by decide +kernel
theorem dX9_bitsOf_15 : decode cX9_bitsOf 15 = .ok (.aload_n 0, 1) := by decide +kernel
theorem dX9_bitsOf_16 : decode cX9_bitsOf 16 = .ok (.bipush 6, 2) := by decide +kernel
theorem dX9_bitsOf_18 : decode cX9_bitsOf 18 = .ok (.iaload, 1) := by decide +kernel
theorem dX9_bitsOf_19 : decode cX9_bitsOf 19 = .ok (.if_icmp .ge 31, 3) := by decide +kernel
theorem dX9_bitsOf_22 : decode cX9_bitsOf 22 = .ok (.iload_n 3, 1) := by decide +kernel
theorem dX9_bitsOf_23 : decode cX9_bitsOf 23 = .ok (.aload_n 0, 1) := by decide +kernel
theorem dX9_bitsOf_24 : decode cX9_bitsOf 24 = .ok (.iload 4, 2) := by decide +kernel
theorem dX9_bitsOf_26 : decode cX9_bitsOf 26 = .ok (.iaload, 1) := by decide +kernel
theorem dX9_bitsOf_27 : decode cX9_bitsOf 27 = .ok (.iload_n 2, 1) := by decide +kernel
theorem dX9_bitsOf_28 : decode cX9_bitsOf 28 = .ok (.invokestatic 112, 3) := by decide +kernel
theorem dX9_bitsOf_31 : decode cX9_bitsOf 31 = .ok (.ifCond .eq 7, 3) := by decide +kernel
theorem dX9_bitsOf_34 : decode cX9_bitsOf 34 = .ok (.iconst 0, 1) := by decide +kernel
theorem dX9_bitsOf_35 : decode cX9_bitsOf 35 = .ok (.goto 7, 3) := by decide +kernel
theorem dX9_bitsOf_38 : decode cX9_bitsOf 38 = .ok (.iconst 1, 1) := by decide +kernel
theorem dX9_bitsOf_39 : decode cX9_bitsOf 39 = .ok (.iload 4, 2) := by decide +kernel
theorem dX9_bitsOf_41 : decode cX9_bitsOf 41 = .ok (.ishl, 1) := by decide +kernel
theorem dX9_bitsOf_42 : decode cX9_bitsOf 42 = .ok (.ior, 1) := by decide +kernel
theorem dX9_bitsOf_43 : decode cX9_bitsOf 43 = .ok (.istore_n 3, 1) := by decide +kernel
theorem dX9_bitsOf_44 : decode cX9_bitsOf 44 = .ok (.iinc 4 1, 3) := by decide +kernel
theorem dX9_bitsOf_47 : decode cX9_bitsOf 47 = .ok (.goto (-34), 3) := by decide +kernel
theorem dX9_bitsOf_50 : decode cX9_bitsOf 50 = .ok (.iload_n 3, 1) := by decide +kernel
theorem dX9_bitsOf_51 : decode cX9_bitsOf 51 = .ok (.ireturn, 1) := by decide +kernel
theorem dX9_changesOf_0 : decode cX9_changesOf 0 = .ok (.iconst 0, 1) := by decide +kernel
theorem dX9_changesOf_1 : decode cX9_changesOf 1 = .ok (.istore_n 2, 1) := by decide +kernel
theorem dX9_changesOf_2 : decode cX9_changesOf 2 = .ok (.iconst 1, 1) := by decide +kernel
theorem dX9_changesOf_3 : decode cX9_changesOf 3 = .ok (.istore_n 3, 1) := by decide +kernel
theorem dX9_changesOf_4 : decode cX9_changesOf 4 = .ok (.iload_n 3, 1) := by decide +kernel
theorem dX9_changesOf_5 : decode cX9_changesOf 5 = .ok (.iload_n 1, 1) := by decide +kernel
theorem dX9_changesOf_6 : decode cX9_changesOf 6 = .ok (.if_icmp .ge 35, 3) := by decide +kernel
theorem dX9_changesOf_9 : decode cX9_changesOf 9 = .ok (.iload_n 2, 1) := by decide +kernel
theorem dX9_changesOf_10 : decode cX9_changesOf 10 = .ok (.iload_n 0, 1) := by decide +kernel
theorem dX9_changesOf_11 : decode cX9_changesOf 11 = .ok (.iload_n 3, 1) := by decide +kernel
theorem dX9_changesOf_12 : decode cX9_changesOf 12 = .ok (.invokestatic 112, 3) := by decide +kernel
theorem dX9_changesOf_15 : decode cX9_changesOf 15 = .ok (.iload_n 0, 1) := by decide +kernel
theorem dX9_changesOf_16 : decode cX9_changesOf 16 = .ok (.iload_n 3, 1) := by decide +kernel
theorem dX9_changesOf_17 : decode cX9_changesOf 17 = .ok (.iconst 1, 1) := by decide +kernel
theorem dX9_changesOf_18 : decode cX9_changesOf 18 = .ok (.isub, 1) := by decide +kernel
theorem dX9_changesOf_19 : decode cX9_changesOf 19 = .ok (.invokestatic 112, 3) := by decide +kernel
theorem dX9_changesOf_22 : decode cX9_changesOf 22 = .ok (.if_icmp .eq 7, 3) := by decide +kernel
theorem dX9_changesOf_25 : decode cX9_changesOf 25 = .ok (.iconst 1, 1) := by decide +kernel
theorem dX9_changesOf_26 : decode cX9_changesOf 26 = .ok (.goto 4, 3) := by decide +kernel
theorem dX9_changesOf_29 : decode cX9_changesOf 29 = .ok (.iconst 0, 1) := by decide +kernel
theorem dX9_changesOf_30 : decode cX9_changesOf 30 = .ok (.invokestatic 116, 3) := by decide +kernel
theorem dX9_changesOf_33 : decode cX9_changesOf 33 = .ok (.iadd, 1) := by decide +kernel
theorem dX9_changesOf_34 : decode cX9_changesOf 34 = .ok (.istore_n 2, 1) := by decide +kernel
theorem dX9_changesOf_35 : decode cX9_changesOf 35 = .ok (.iinc 3 1, 3) := by decide +kernel
theorem dX9_changesOf_38 : decode cX9_changesOf 38 = .ok (.goto (-34), 3) := by decide +kernel
theorem dX9_changesOf_41 : decode cX9_changesOf 41 = .ok (.iload_n 2, 1) := by decide +kernel
theorem dX9_changesOf_42 : decode cX9_changesOf 42 = .ok (.ireturn, 1) := by decide +kernel
theorem dX9_alike_0 : decode cX9_alike 0 = .ok (.iconst 0, 1) := by decide +kernel
theorem dX9_alike_1 : decode cX9_alike 1 = .ok (.istore_n 3, 1) := by decide +kernel
theorem dX9_alike_2 : decode cX9_alike 2 = .ok (.iconst 0, 1) := by decide +kernel
theorem dX9_alike_3 : decode cX9_alike 3 = .ok (.istore 4, 2) := by decide +kernel
theorem dX9_alike_5 : decode cX9_alike 5 = .ok (.iload 4, 2) := by decide +kernel
theorem dX9_alike_7 : decode cX9_alike 7 = .ok (.aload_n 0, 1) := by decide +kernel
theorem dX9_alike_8 : decode cX9_alike 8 = .ok (.iload_n 1, 1) := by decide +kernel
theorem dX9_alike_9 : decode cX9_alike 9 = .ok (.invokestatic 108, 3) := by decide +kernel
theorem dX9_alike_12 : decode cX9_alike 12 = .ok (.if_icmp .ge 42, 3) := by decide +kernel
theorem dX9_alike_15 : decode cX9_alike 15 = .ok (.iload_n 3, 1) := by decide +kernel
theorem dX9_alike_16 : decode cX9_alike 16 = .ok (.iload 4, 2) := by decide +kernel
theorem dX9_alike_18 : decode cX9_alike 18 = .ok (.iload_n 2, 1) := by decide +kernel
theorem dX9_alike_19 : decode cX9_alike 19 = .ok (.if_icmp .eq 23, 3) := by decide +kernel
theorem dX9_alike_22 : decode cX9_alike 22 = .ok (.aload_n 0, 1) := by decide +kernel
theorem dX9_alike_23 : decode cX9_alike 23 = .ok (.iload_n 1, 1) := by decide +kernel
theorem dX9_alike_24 : decode cX9_alike 24 = .ok (.iload 4, 2) := by decide +kernel
theorem dX9_alike_26 : decode cX9_alike 26 = .ok (.invokestatic 120, 3) := by decide +kernel
theorem dX9_alike_29 : decode cX9_alike 29 = .ok (.aload_n 0, 1) := by decide +kernel
theorem dX9_alike_30 : decode cX9_alike 30 = .ok (.iload_n 1, 1) := by decide +kernel
theorem dX9_alike_31 : decode cX9_alike 31 = .ok (.iload_n 2, 1) := by decide +kernel
theorem dX9_alike_32 : decode cX9_alike 32 = .ok (.invokestatic 120, 3) := by decide +kernel
theorem dX9_alike_35 : decode cX9_alike 35 = .ok (.if_icmp .ne 7, 3) := by decide +kernel
theorem dX9_alike_38 : decode cX9_alike 38 = .ok (.iconst 1, 1) := by decide +kernel
theorem dX9_alike_39 : decode cX9_alike 39 = .ok (.goto 4, 3) := by decide +kernel
theorem dX9_alike_42 : decode cX9_alike 42 = .ok (.iconst 0, 1) := by decide +kernel
theorem dX9_alike_43 : decode cX9_alike 43 = .ok (.invokestatic 116, 3) := by decide +kernel
theorem dX9_alike_46 : decode cX9_alike 46 = .ok (.iadd, 1) := by decide +kernel
theorem dX9_alike_47 : decode cX9_alike 47 = .ok (.istore_n 3, 1) := by decide +kernel
theorem dX9_alike_48 : decode cX9_alike 48 = .ok (.iinc 4 1, 3) := by decide +kernel
theorem dX9_alike_51 : decode cX9_alike 51 = .ok (.goto (-46), 3) := by decide +kernel
theorem dX9_alike_54 : decode cX9_alike 54 = .ok (.iload_n 3, 1) := by decide +kernel
theorem dX9_alike_55 : decode cX9_alike 55 = .ok (.ireturn, 1) := by decide +kernel
theorem dX9_isLoose_0 : decode cX9_isLoose 0 = .ok (.aload_n 0, 1) := by decide +kernel
theorem dX9_isLoose_1 : decode cX9_isLoose 1 = .ok (.iload_n 1, 1) := by decide +kernel
theorem dX9_isLoose_2 : decode cX9_isLoose 2 = .ok (.iload_n 2, 1) := by decide +kernel
theorem dX9_isLoose_3 : decode cX9_isLoose 3 = .ok (.invokestatic 120, 3) := by decide +kernel
theorem dX9_isLoose_6 : decode cX9_isLoose 6 = .ok (.istore_n 3, 1) := by decide +kernel
theorem dX9_isLoose_7 : decode cX9_isLoose 7 = .ok (.iload_n 3, 1) := by decide +kernel
theorem dX9_isLoose_8 : decode cX9_isLoose 8 = .ok (.ifCond .eq 15, 3) := by decide +kernel
theorem dX9_isLoose_11 : decode cX9_isLoose 11 = .ok (.iload_n 3, 1) := by decide +kernel
theorem dX9_isLoose_12 : decode cX9_isLoose 12 = .ok (.aload_n 0, 1) := by decide +kernel
theorem dX9_isLoose_13 : decode cX9_isLoose 13 = .ok (.iload_n 1, 1) := by decide +kernel
theorem dX9_isLoose_14 : decode cX9_isLoose 14 = .ok (.invokestatic 124, 3) := by decide +kernel
theorem dX9_isLoose_17 : decode cX9_isLoose 17 = .ok (.invokestatic 127, 3) := by decide +kernel
theorem dX9_isLoose_20 : decode cX9_isLoose 20 = .ok (.if_icmp .ne 7, 3) := by decide +kernel
theorem dX9_isLoose_23 : decode cX9_isLoose 23 = .ok (.iconst 1, 1) := by decide +kernel
theorem dX9_isLoose_24 : decode cX9_isLoose 24 = .ok (.goto 4, 3) := by decide +kernel
theorem dX9_isLoose_27 : decode cX9_isLoose 27 = .ok (.iconst 0, 1) := by decide +kernel
theorem dX9_isLoose_28 : decode cX9_isLoose 28 = .ok (.ireturn, 1) := by decide +kernel
theorem dX9_overs_0 : decode cX9_overs 0 = .ok (.iconst 0, 1) := by decide +kernel
theorem dX9_overs_1 : decode cX9_overs 1 = .ok (.istore_n 1, 1) := by decide +kernel
theorem dX9_overs_2 : decode cX9_overs 2 = .ok (.iconst 0, 1) := by decide +kernel
theorem dX9_overs_3 : decode cX9_overs 3 = .ok (.istore_n 2, 1) := by decide +kernel
theorem dX9_overs_4 : decode cX9_overs 4 = .ok (.iload_n 2, 1) := by decide +kernel
theorem dX9_overs_5 : decode cX9_overs 5 = .ok (.aload_n 0, 1) := by decide +kernel
theorem dX9_overs_6 : decode cX9_overs 6 = .ok (.bipush 6, 2) := by decide +kernel
theorem dX9_overs_8 : decode cX9_overs 8 = .ok (.iaload, 1) := by decide +kernel
theorem dX9_overs_9 : decode cX9_overs 9 = .ok (.if_icmp .ge 18, 3) := by decide +kernel
theorem dX9_overs_12 : decode cX9_overs 12 = .ok (.iload_n 1, 1) := by decide +kernel
theorem dX9_overs_13 : decode cX9_overs 13 = .ok (.aload_n 0, 1) := by decide +kernel
theorem dX9_overs_14 : decode cX9_overs 14 = .ok (.iload_n 2, 1) := by decide +kernel
theorem dX9_overs_15 : decode cX9_overs 15 = .ok (.iaload, 1) := by decide +kernel
theorem dX9_overs_16 : decode cX9_overs 16 = .ok (.invokestatic 131, 3) := by decide +kernel
theorem dX9_overs_19 : decode cX9_overs 19 = .ok (.iadd, 1) := by decide +kernel
theorem dX9_overs_20 : decode cX9_overs 20 = .ok (.istore_n 1, 1) := by decide +kernel
theorem dX9_overs_21 : decode cX9_overs 21 = .ok (.iinc 2 1, 3) := by decide +kernel
theorem dX9_overs_24 : decode cX9_overs 24 = .ok (.goto (-20), 3) := by decide +kernel
theorem dX9_overs_27 : decode cX9_overs 27 = .ok (.iload_n 1, 1) := by decide +kernel
theorem dX9_overs_28 : decode cX9_overs 28 = .ok (.ireturn, 1) := by decide +kernel
theorem dX9_isAs_0 : decode cX9_isAs 0 = .ok (.aload_n 0, 1) := by decide +kernel
theorem dX9_isAs_1 : decode cX9_isAs 1 = .ok (.bipush 6, 2) := by decide +kernel
theorem dX9_isAs_3 : decode cX9_isAs 3 = .ok (.iaload, 1) := by decide +kernel
theorem dX9_isAs_4 : decode cX9_isAs 4 = .ok (.aload_n 1, 1) := by decide +kernel
theorem dX9_isAs_5 : decode cX9_isAs 5 = .ok (.bipush 6, 2) := by decide +kernel
theorem dX9_isAs_7 : decode cX9_isAs 7 = .ok (.iaload, 1) := by decide +kernel
theorem dX9_isAs_8 : decode cX9_isAs 8 = .ok (.if_icmp .ne 18, 3) := by decide +kernel
theorem dX9_isAs_11 : decode cX9_isAs 11 = .ok (.aload_n 0, 1) := by decide +kernel
theorem dX9_isAs_12 : decode cX9_isAs 12 = .ok (.bipush 7, 2) := by decide +kernel
theorem dX9_isAs_14 : decode cX9_isAs 14 = .ok (.iaload, 1) := by decide +kernel
theorem dX9_isAs_15 : decode cX9_isAs 15 = .ok (.aload_n 1, 1) := by decide +kernel
theorem dX9_isAs_16 : decode cX9_isAs 16 = .ok (.bipush 7, 2) := by decide +kernel
theorem dX9_isAs_18 : decode cX9_isAs 18 = .ok (.iaload, 1) := by decide +kernel
theorem dX9_isAs_19 : decode cX9_isAs 19 = .ok (.if_icmp .ne 7, 3) := by decide +kernel
theorem dX9_isAs_22 : decode cX9_isAs 22 = .ok (.iconst 1, 1) := by decide +kernel
theorem dX9_isAs_23 : decode cX9_isAs 23 = .ok (.goto 4, 3) := by decide +kernel
theorem dX9_isAs_26 : decode cX9_isAs 26 = .ok (.iconst 0, 1) := by decide +kernel
theorem dX9_isAs_27 : decode cX9_isAs 27 = .ok (.istore_n 2, 1) := by decide +kernel
theorem dX9_isAs_28 : decode cX9_isAs 28 = .ok (.iconst 0, 1) := by decide +kernel
theorem dX9_isAs_29 : decode cX9_isAs 29 = .ok (.istore_n 3, 1) := by decide +kernel
theorem dX9_isAs_30 : decode cX9_isAs 30 = .ok (.iload_n 3, 1) := by decide +kernel
theorem dX9_isAs_31 : decode cX9_isAs 31 = .ok (.aload_n 0, 1) := by decide +kernel
theorem dX9_isAs_32 : decode cX9_isAs 32 = .ok (.bipush 6, 2) := by decide +kernel
theorem dX9_isAs_34 : decode cX9_isAs 34 = .ok (.iaload, 1) := by decide +kernel
theorem dX9_isAs_35 : decode cX9_isAs 35 = .ok (.if_icmp .ge 28, 3) := by decide +kernel
theorem dX9_isAs_38 : decode cX9_isAs 38 = .ok (.iload_n 2, 1) := by decide +kernel
theorem dX9_isAs_39 : decode cX9_isAs 39 = .ok (.ifCond .eq 24, 3) := by decide +kernel
theorem dX9_isAs_42 : decode cX9_isAs 42 = .ok (.aload_n 0, 1) := by decide +kernel
theorem dX9_isAs_43 : decode cX9_isAs 43 = .ok (.iload_n 3, 1) := by decide +kernel
theorem dX9_isAs_44 : decode cX9_isAs 44 = .ok (.iaload, 1) := by decide +kernel
theorem dX9_isAs_45 : decode cX9_isAs 45 = .ok (.aload_n 1, 1) := by decide +kernel
theorem dX9_isAs_46 : decode cX9_isAs 46 = .ok (.iload_n 3, 1) := by decide +kernel
theorem dX9_isAs_47 : decode cX9_isAs 47 = .ok (.iaload, 1) := by decide +kernel
theorem dX9_isAs_48 : decode cX9_isAs 48 = .ok (.if_icmp .ne 7, 3) := by decide +kernel
theorem dX9_isAs_51 : decode cX9_isAs 51 = .ok (.iconst 1, 1) := by decide +kernel
theorem dX9_isAs_52 : decode cX9_isAs 52 = .ok (.goto 4, 3) := by decide +kernel
theorem dX9_isAs_55 : decode cX9_isAs 55 = .ok (.iconst 0, 1) := by decide +kernel
theorem dX9_isAs_56 : decode cX9_isAs 56 = .ok (.istore_n 2, 1) := by decide +kernel
theorem dX9_isAs_57 : decode cX9_isAs 57 = .ok (.iinc 3 1, 3) := by decide +kernel
theorem dX9_isAs_60 : decode cX9_isAs 60 = .ok (.goto (-30), 3) := by decide +kernel
theorem dX9_isAs_63 : decode cX9_isAs 63 = .ok (.iload_n 2, 1) := by decide +kernel
theorem dX9_isAs_64 : decode cX9_isAs 64 = .ok (.ireturn, 1) := by decide +kernel
theorem dX9_without_0 : decode cX9_without 0 = .ok (.iload_n 0, 1) := by decide +kernel
theorem dX9_without_1 : decode cX9_without 1 = .ok (.iload_n 1, 1) := by decide +kernel
theorem dX9_without_2 : decode cX9_without 2 = .ok (.invokestatic 127, 3) := by decide +kernel
theorem dX9_without_5 : decode cX9_without 5 = .ok (.iand, 1) := by decide +kernel
theorem dX9_without_6 : decode cX9_without 6 = .ok (.iload_n 0, 1) := by decide +kernel
theorem dX9_without_7 : decode cX9_without 7 = .ok (.iload_n 1, 1) := by decide +kernel
theorem dX9_without_8 : decode cX9_without 8 = .ok (.iconst 1, 1) := by decide +kernel
theorem dX9_without_9 : decode cX9_without 9 = .ok (.iadd, 1) := by decide +kernel
theorem dX9_without_10 : decode cX9_without 10 = .ok (.ishr, 1) := by decide +kernel
theorem dX9_without_11 : decode cX9_without 11 = .ok (.iload_n 1, 1) := by decide +kernel
theorem dX9_without_12 : decode cX9_without 12 = .ok (.ishl, 1) := by decide +kernel
theorem dX9_without_13 : decode cX9_without 13 = .ok (.ior, 1) := by decide +kernel
theorem dX9_without_14 : decode cX9_without 14 = .ok (.ireturn, 1) := by decide +kernel
theorem dX9_with_0 : decode cX9_with 0 = .ok (.iload_n 0, 1) := by decide +kernel
theorem dX9_with_1 : decode cX9_with 1 = .ok (.iload_n 1, 1) := by decide +kernel
theorem dX9_with_2 : decode cX9_with 2 = .ok (.invokestatic 127, 3) := by decide +kernel
theorem dX9_with_5 : decode cX9_with 5 = .ok (.iand, 1) := by decide +kernel
theorem dX9_with_6 : decode cX9_with 6 = .ok (.iload_n 2, 1) := by decide +kernel
theorem dX9_with_7 : decode cX9_with 7 = .ok (.iload_n 1, 1) := by decide +kernel
theorem dX9_with_8 : decode cX9_with 8 = .ok (.ishl, 1) := by decide +kernel
theorem dX9_with_9 : decode cX9_with 9 = .ok (.ior, 1) := by decide +kernel
theorem dX9_with_10 : decode cX9_with 10 = .ok (.iload_n 0, 1) := by decide +kernel
theorem dX9_with_11 : decode cX9_with 11 = .ok (.iload_n 1, 1) := by decide +kernel
theorem dX9_with_12 : decode cX9_with 12 = .ok (.ishr, 1) := by decide +kernel
theorem dX9_with_13 : decode cX9_with 13 = .ok (.iload_n 1, 1) := by decide +kernel
theorem dX9_with_14 : decode cX9_with 14 = .ok (.iconst 1, 1) := by decide +kernel
theorem dX9_with_15 : decode cX9_with 15 = .ok (.iadd, 1) := by decide +kernel
theorem dX9_with_16 : decode cX9_with 16 = .ok (.ishl, 1) := by decide +kernel
theorem dX9_with_17 : decode cX9_with 17 = .ok (.ior, 1) := by decide +kernel
theorem dX9_with_18 : decode cX9_with 18 = .ok (.ireturn, 1) := by decide +kernel
theorem dX9_goes_0 : decode cX9_goes 0 = .ok (.iload_n 1, 1) := by decide +kernel
theorem dX9_goes_1 : decode cX9_goes 1 = .ok (.ifCond .ne 32, 3) := by decide +kernel
theorem dX9_goes_4 : decode cX9_goes 4 = .ok (.iload_n 2, 1) := by decide +kernel
theorem dX9_goes_5 : decode cX9_goes 5 = .ok (.iconst 1, 1) := by decide +kernel
theorem dX9_goes_6 : decode cX9_goes 6 = .ok (.iadd, 1) := by decide +kernel
theorem dX9_goes_7 : decode cX9_goes 7 = .ok (.istore_n 3, 1) := by decide +kernel
theorem dX9_goes_8 : decode cX9_goes 8 = .ok (.iload_n 3, 1) := by decide +kernel
theorem dX9_goes_9 : decode cX9_goes 9 = .ok (.aload_n 0, 1) := by decide +kernel
theorem dX9_goes_10 : decode cX9_goes 10 = .ok (.bipush 6, 2) := by decide +kernel
theorem dX9_goes_12 : decode cX9_goes 12 = .ok (.iaload, 1) := by decide +kernel
theorem dX9_goes_13 : decode cX9_goes 13 = .ok (.if_icmp .ge 17, 3) := by decide +kernel
theorem dX9_goes_16 : decode cX9_goes 16 = .ok (.aload_n 0, 1) := by decide +kernel
theorem dX9_goes_17 : decode cX9_goes 17 = .ok (.iload_n 3, 1) := by decide +kernel
theorem dX9_goes_18 : decode cX9_goes 18 = .ok (.iconst 1, 1) := by decide +kernel
theorem dX9_goes_19 : decode cX9_goes 19 = .ok (.isub, 1) := by decide +kernel
theorem dX9_goes_20 : decode cX9_goes 20 = .ok (.aload_n 0, 1) := by decide +kernel
theorem dX9_goes_21 : decode cX9_goes 21 = .ok (.iload_n 3, 1) := by decide +kernel
theorem dX9_goes_22 : decode cX9_goes 22 = .ok (.iaload, 1) := by decide +kernel
theorem dX9_goes_23 : decode cX9_goes 23 = .ok (.iastore, 1) := by decide +kernel
theorem dX9_goes_24 : decode cX9_goes 24 = .ok (.iinc 3 1, 3) := by decide +kernel
theorem dX9_goes_27 : decode cX9_goes 27 = .ok (.goto (-19), 3) := by decide +kernel
theorem dX9_goes_30 : decode cX9_goes 30 = .ok (.goto 29, 3) := by decide +kernel
theorem dX9_goes_33 : decode cX9_goes 33 = .ok (.iconst 0, 1) := by decide +kernel
theorem dX9_goes_34 : decode cX9_goes 34 = .ok (.istore_n 3, 1) := by decide +kernel
theorem dX9_goes_35 : decode cX9_goes 35 = .ok (.iload_n 3, 1) := by decide +kernel
theorem dX9_goes_36 : decode cX9_goes 36 = .ok (.aload_n 0, 1) := by decide +kernel
theorem dX9_goes_37 : decode cX9_goes 37 = .ok (.bipush 6, 2) := by decide +kernel
theorem dX9_goes_39 : decode cX9_goes 39 = .ok (.iaload, 1) := by decide +kernel
theorem dX9_goes_40 : decode cX9_goes 40 = .ok (.if_icmp .ge 19, 3) := by decide +kernel
theorem dX9_goes_43 : decode cX9_goes 43 = .ok (.aload_n 0, 1) := by decide +kernel
theorem dX9_goes_44 : decode cX9_goes 44 = .ok (.iload_n 3, 1) := by decide +kernel
theorem dX9_goes_45 : decode cX9_goes 45 = .ok (.aload_n 0, 1) := by decide +kernel
theorem dX9_goes_46 : decode cX9_goes 46 = .ok (.iload_n 3, 1) := by decide +kernel
theorem dX9_goes_47 : decode cX9_goes 47 = .ok (.iaload, 1) := by decide +kernel
theorem dX9_goes_48 : decode cX9_goes 48 = .ok (.iload_n 2, 1) := by decide +kernel
theorem dX9_goes_49 : decode cX9_goes 49 = .ok (.invokestatic 136, 3) := by decide +kernel
theorem dX9_goes_52 : decode cX9_goes 52 = .ok (.iastore, 1) := by decide +kernel
theorem dX9_goes_53 : decode cX9_goes 53 = .ok (.iinc 3 1, 3) := by decide +kernel
theorem dX9_goes_56 : decode cX9_goes 56 = .ok (.goto (-21), 3) := by decide +kernel
theorem dX9_goes_59 : decode cX9_goes 59 = .ok (.aload_n 0, 1) := by decide +kernel
theorem dX9_goes_60 : decode cX9_goes 60 = .ok (.bipush 6, 2) := by decide +kernel
theorem dX9_goes_62 : decode cX9_goes 62 = .ok (.iload_n 1, 1) := by decide +kernel
theorem dX9_goes_63 : decode cX9_goes 63 = .ok (.iadd, 1) := by decide +kernel
theorem dX9_goes_64 : decode cX9_goes 64 = .ok (.dup2, 1) := by decide +kernel
theorem dX9_goes_65 : decode cX9_goes 65 = .ok (.iaload, 1) := by decide +kernel
theorem dX9_goes_66 : decode cX9_goes 66 = .ok (.iconst 1, 1) := by decide +kernel
theorem dX9_goes_67 : decode cX9_goes 67 = .ok (.isub, 1) := by decide +kernel
theorem dX9_goes_68 : decode cX9_goes 68 = .ok (.iastore, 1) := by decide +kernel
theorem dX9_goes_69 : decode cX9_goes 69 = .ok (.return_, 1) := by decide +kernel
theorem dX9_comes_0 : decode cX9_comes 0 = .ok (.iload_n 1, 1) := by decide +kernel
theorem dX9_comes_1 : decode cX9_comes 1 = .ok (.ifCond .ne 38, 3) := by decide +kernel
theorem dX9_comes_4 : decode cX9_comes 4 = .ok (.aload_n 0, 1) := by decide +kernel
theorem dX9_comes_5 : decode cX9_comes 5 = .ok (.bipush 6, 2) := by decide +kernel
theorem dX9_comes_7 : decode cX9_comes 7 = .ok (.iaload, 1) := by decide +kernel
theorem dX9_comes_8 : decode cX9_comes 8 = .ok (.istore 4, 2) := by decide +kernel
theorem dX9_comes_10 : decode cX9_comes 10 = .ok (.iload 4, 2) := by decide +kernel
theorem dX9_comes_12 : decode cX9_comes 12 = .ok (.iload_n 2, 1) := by decide +kernel
theorem dX9_comes_13 : decode cX9_comes 13 = .ok (.if_icmp .le 19, 3) := by decide +kernel
theorem dX9_comes_16 : decode cX9_comes 16 = .ok (.aload_n 0, 1) := by decide +kernel
theorem dX9_comes_17 : decode cX9_comes 17 = .ok (.iload 4, 2) := by decide +kernel
theorem dX9_comes_19 : decode cX9_comes 19 = .ok (.aload_n 0, 1) := by decide +kernel
theorem dX9_comes_20 : decode cX9_comes 20 = .ok (.iload 4, 2) := by decide +kernel
theorem dX9_comes_22 : decode cX9_comes 22 = .ok (.iconst 1, 1) := by decide +kernel
theorem dX9_comes_23 : decode cX9_comes 23 = .ok (.isub, 1) := by decide +kernel
theorem dX9_comes_24 : decode cX9_comes 24 = .ok (.iaload, 1) := by decide +kernel
theorem dX9_comes_25 : decode cX9_comes 25 = .ok (.iastore, 1) := by decide +kernel
theorem dX9_comes_26 : decode cX9_comes 26 = .ok (.iinc 4 (-1), 3) := by decide +kernel
theorem dX9_comes_29 : decode cX9_comes 29 = .ok (.goto (-19), 3) := by decide +kernel
theorem dX9_comes_32 : decode cX9_comes 32 = .ok (.aload_n 0, 1) := by decide +kernel
theorem dX9_comes_33 : decode cX9_comes 33 = .ok (.iload_n 2, 1) := by decide +kernel
theorem dX9_comes_34 : decode cX9_comes 34 = .ok (.iload_n 3, 1) := by decide +kernel
theorem dX9_comes_35 : decode cX9_comes 35 = .ok (.iastore, 1) := by decide +kernel
theorem dX9_comes_36 : decode cX9_comes 36 = .ok (.goto 50, 3) := by decide +kernel
theorem dX9_comes_39 : decode cX9_comes 39 = .ok (.iconst 0, 1) := by decide +kernel
theorem dX9_comes_40 : decode cX9_comes 40 = .ok (.istore 4, 2) := by decide +kernel
theorem dX9_comes_42 : decode cX9_comes 42 = .ok (.iload 4, 2) := by decide +kernel
theorem dX9_comes_44 : decode cX9_comes 44 = .ok (.aload_n 0, 1) := by decide +kernel
theorem dX9_comes_45 : decode cX9_comes 45 = .ok (.bipush 6, 2) := by decide +kernel
theorem dX9_comes_47 : decode cX9_comes 47 = .ok (.iaload, 1) := by decide +kernel
theorem dX9_comes_48 : decode cX9_comes 48 = .ok (.if_icmp .ge 38, 3) := by decide +kernel
theorem dX9_comes_51 : decode cX9_comes 51 = .ok (.aload_n 0, 1) := by decide +kernel
theorem dX9_comes_52 : decode cX9_comes 52 = .ok (.iload 4, 2) := by decide +kernel
theorem dX9_comes_54 : decode cX9_comes 54 = .ok (.aload_n 0, 1) := by decide +kernel
theorem dX9_comes_55 : decode cX9_comes 55 = .ok (.iload 4, 2) := by decide +kernel
theorem dX9_comes_57 : decode cX9_comes 57 = .ok (.iaload, 1) := by decide +kernel
theorem dX9_comes_58 : decode cX9_comes 58 = .ok (.iload_n 2, 1) := by decide +kernel
theorem dX9_comes_59 : decode cX9_comes 59 = .ok (.iload_n 3, 1) := by decide +kernel
theorem dX9_comes_60 : decode cX9_comes 60 = .ok (.iload 4, 2) := by decide +kernel
theorem dX9_comes_62 : decode cX9_comes 62 = .ok (.invokestatic 112, 3) := by decide +kernel
theorem dX9_comes_65 : decode cX9_comes 65 = .ok (.ifCond .ne 7, 3) := by decide +kernel
theorem dX9_comes_68 : decode cX9_comes 68 = .ok (.iconst 1, 1) := by decide +kernel
theorem dX9_comes_69 : decode cX9_comes 69 = .ok (.goto 4, 3) := by decide +kernel
theorem dX9_comes_72 : decode cX9_comes 72 = .ok (.iconst 0, 1) := by decide +kernel
theorem dX9_comes_73 : decode cX9_comes 73 = .ok (.invokestatic 116, 3) := by decide +kernel
theorem dX9_comes_76 : decode cX9_comes 76 = .ok (.invokestatic 140, 3) := by decide +kernel
theorem dX9_comes_79 : decode cX9_comes 79 = .ok (.iastore, 1) := by decide +kernel
theorem dX9_comes_80 : decode cX9_comes 80 = .ok (.iinc 4 1, 3) := by decide +kernel
theorem dX9_comes_83 : decode cX9_comes 83 = .ok (.goto (-41), 3) := by decide +kernel
theorem dX9_comes_86 : decode cX9_comes 86 = .ok (.aload_n 0, 1) := by decide +kernel
theorem dX9_comes_87 : decode cX9_comes 87 = .ok (.bipush 6, 2) := by decide +kernel
theorem dX9_comes_89 : decode cX9_comes 89 = .ok (.iload_n 1, 1) := by decide +kernel
theorem dX9_comes_90 : decode cX9_comes 90 = .ok (.iadd, 1) := by decide +kernel
theorem dX9_comes_91 : decode cX9_comes 91 = .ok (.dup2, 1) := by decide +kernel
theorem dX9_comes_92 : decode cX9_comes 92 = .ok (.iaload, 1) := by decide +kernel
theorem dX9_comes_93 : decode cX9_comes 93 = .ok (.iconst 1, 1) := by decide +kernel
theorem dX9_comes_94 : decode cX9_comes 94 = .ok (.iadd, 1) := by decide +kernel
theorem dX9_comes_95 : decode cX9_comes 95 = .ok (.iastore, 1) := by decide +kernel
theorem dX9_comes_96 : decode cX9_comes 96 = .ok (.return_, 1) := by decide +kernel
theorem dX9_sign_0 : decode cX9_sign 0 = .ok (.aload_n 0, 1) := by decide +kernel
theorem dX9_sign_1 : decode cX9_sign 1 = .ok (.iconst 0, 1) := by decide +kernel
theorem dX9_sign_2 : decode cX9_sign 2 = .ok (.putfield 3, 3) := by decide +kernel
theorem dX9_sign_5 : decode cX9_sign 5 = .ok (.aload_n 0, 1) := by decide +kernel
theorem dX9_sign_6 : decode cX9_sign 6 = .ok (.getfield 144, 3) := by decide +kernel
theorem dX9_sign_9 : decode cX9_sign 9 = .ok (.bipush 76, 2) := by decide +kernel
theorem dX9_sign_11 : decode cX9_sign 11 = .ok (.if_icmp .le 5, 3) := by decide +kernel
theorem dX9_sign_14 : decode cX9_sign 14 = .ok (.iconst (-1), 1) := by decide +kernel
theorem dX9_sign_15 : decode cX9_sign 15 = .ok (.ireturn, 1) := by decide +kernel
theorem dX9_sign_16 : decode cX9_sign 16 = .ok (.iconst 0, 1) := by decide +kernel
theorem dX9_sign_17 : decode cX9_sign 17 = .ok (.istore_n 2, 1) := by decide +kernel
theorem dX9_sign_18 : decode cX9_sign 18 = .ok (.iload_n 2, 1) := by decide +kernel
theorem dX9_sign_19 : decode cX9_sign 19 = .ok (.iconst 4, 1) := by decide +kernel
theorem dX9_sign_20 : decode cX9_sign 20 = .ok (.if_icmp .ge 33, 3) := by decide +kernel
theorem dX9_sign_23 : decode cX9_sign 23 = .ok (.aload_n 0, 1) := by decide +kernel
theorem dX9_sign_24 : decode cX9_sign 24 = .ok (.getfield 31, 3) := by decide +kernel
theorem dX9_sign_27 : decode cX9_sign 27 = .ok (.aload_n 0, 1) := by decide +kernel
theorem dX9_sign_28 : decode cX9_sign 28 = .ok (.getfield 144, 3) := by decide +kernel
theorem dX9_sign_31 : decode cX9_sign 31 = .ok (.iload_n 2, 1) := by decide +kernel
theorem dX9_sign_32 : decode cX9_sign 32 = .ok (.iadd, 1) := by decide +kernel
theorem dX9_sign_33 : decode cX9_sign 33 = .ok (.iload_n 1, 1) := by decide +kernel
theorem dX9_sign_34 : decode cX9_sign 34 = .ok (.bipush 24, 2) := by decide +kernel
theorem dX9_sign_36 : decode cX9_sign 36 = .ok (.bipush 8, 2) := by decide +kernel
theorem dX9_sign_38 : decode cX9_sign 38 = .ok (.iload_n 2, 1) := by decide +kernel
theorem dX9_sign_39 : decode cX9_sign 39 = .ok (.imul, 1) := by decide +kernel
theorem dX9_sign_40 : decode cX9_sign 40 = .ok (.isub, 1) := by decide +kernel
theorem dX9_sign_41 : decode cX9_sign 41 = .ok (.ishr, 1) := by decide +kernel
