theorem dX0_init_0 : decode cX0_init 0 = .ok (.aload_n 0, 1) := by decide +kernel
theorem dX0_init_1 : decode cX0_init 1 = .ok (.invokespecial 3, 3) := by decide +kernel
theorem dX0_init_4 : decode cX0_init 4 = .ok (.aload_n 0, 1) := by decide +kernel
theorem dX0_init_5 : decode cX0_init 5 = .ok (.bipush 12, 2) := by decide +kernel
theorem dX0_init_7 : decode cX0_init 7 = .ok (.newarray .int, 2) := by decide +kernel
theorem dX0_init_9 : decode cX0_init 9 = .ok (.putfield 9, 3) := by decide +kernel
theorem dX0_init_12 : decode cX0_init 12 = .ok (.aload_n 0, 1) := by decide +kernel
theorem dX0_init_13 : decode cX0_init 13 = .ok (.bipush 12, 2) := by decide +kernel
theorem dX0_init_15 : decode cX0_init 15 = .ok (.newarray .int, 2) := by decide +kernel
theorem dX0_init_17 : decode cX0_init 17 = .ok (.putfield 15, 3) := by decide +kernel
theorem dX0_init_20 : decode cX0_init 20 = .ok (.aload_n 0, 1) := by decide +kernel
theorem dX0_init_21 : decode cX0_init 21 = .ok (.bipush 64, 2) := by decide +kernel
theorem dX0_init_23 : decode cX0_init 23 = .ok (.newarray .long, 2) := by decide +kernel
theorem dX0_init_25 : decode cX0_init 25 = .ok (.putfield 18, 3) := by decide +kernel
theorem dX0_init_28 : decode cX0_init 28 = .ok (.aload_n 0, 1) := by decide +kernel
theorem dX0_init_29 : decode cX0_init 29 = .ok (.bipush 64, 2) := by decide +kernel
theorem dX0_init_31 : decode cX0_init 31 = .ok (.newarray .long, 2) := by decide +kernel
theorem dX0_init_33 : decode cX0_init 33 = .ok (.putfield 22, 3) := by decide +kernel
theorem dX0_init_36 : decode cX0_init 36 = .ok (.aload_n 0, 1) := by decide +kernel
theorem dX0_init_37 : decode cX0_init 37 = .ok (.bipush 13, 2) := by decide +kernel
theorem dX0_init_39 : decode cX0_init 39 = .ok (.newarray .int, 2) := by decide +kernel
theorem dX0_init_41 : decode cX0_init 41 = .ok (.putfield 25, 3) := by decide +kernel
theorem dX0_init_44 : decode cX0_init 44 = .ok (.aload_n 0, 1) := by decide +kernel
theorem dX0_init_45 : decode cX0_init 45 = .ok (.lconst 0, 1) := by decide +kernel
theorem dX0_init_46 : decode cX0_init 46 = .ok (.putfield 28, 3) := by decide +kernel
theorem dX0_init_49 : decode cX0_init 49 = .ok (.return_, 1) := by decide +kernel
theorem dX0_isIn_0 : decode cX0_isIn 0 = .ok (.iload_n 1, 1) := by decide +kernel
theorem dX0_isIn_1 : decode cX0_isIn 1 = .ok (.bipush 6, 2) := by decide +kernel
theorem dX0_isIn_3 : decode cX0_isIn 3 = .ok (.iushr, 1) := by decide +kernel
theorem dX0_isIn_4 : decode cX0_isIn 4 = .ok (.istore_n 2, 1) := by decide +kernel
theorem dX0_isIn_5 : decode cX0_isIn 5 = .ok (.iload_n 2, 1) := by decide +kernel
theorem dX0_isIn_6 : decode cX0_isIn 6 = .ok (.aload_n 0, 1) := by decide +kernel
theorem dX0_isIn_7 : decode cX0_isIn 7 = .ok (.arraylength, 1) := by decide +kernel
theorem dX0_isIn_8 : decode cX0_isIn 8 = .ok (.if_icmp .ge 22, 3) := by decide +kernel
theorem dX0_isIn_11 : decode cX0_isIn 11 = .ok (.aload_n 0, 1) := by decide +kernel
theorem dX0_isIn_12 : decode cX0_isIn 12 = .ok (.iload_n 2, 1) := by decide +kernel
theorem dX0_isIn_13 : decode cX0_isIn 13 = .ok (.laload, 1) := by decide +kernel
theorem dX0_isIn_14 : decode cX0_isIn 14 = .ok (.iload_n 1, 1) := by decide +kernel
theorem dX0_isIn_15 : decode cX0_isIn 15 = .ok (.bipush 63, 2) := by decide +kernel
theorem dX0_isIn_17 : decode cX0_isIn 17 = .ok (.iand, 1) := by decide +kernel
theorem dX0_isIn_18 : decode cX0_isIn 18 = .ok (.lushr, 1) := by decide +kernel
theorem dX0_isIn_19 : decode cX0_isIn 19 = .ok (.lconst 1, 1) := by decide +kernel
theorem dX0_isIn_20 : decode cX0_isIn 20 = .ok (.land, 1) := by decide +kernel
theorem dX0_isIn_21 : decode cX0_isIn 21 = .ok (.lconst 0, 1) := by decide +kernel
theorem dX0_isIn_22 : decode cX0_isIn 22 = .ok (.lcmp, 1) := by decide +kernel
theorem dX0_isIn_23 : decode cX0_isIn 23 = .ok (.ifCond .eq 7, 3) := by decide +kernel
theorem dX0_isIn_26 : decode cX0_isIn 26 = .ok (.iconst 1, 1) := by decide +kernel
theorem dX0_isIn_27 : decode cX0_isIn 27 = .ok (.goto 4, 3) := by decide +kernel
theorem dX0_isIn_30 : decode cX0_isIn 30 = .ok (.iconst 0, 1) := by decide +kernel
theorem dX0_isIn_31 : decode cX0_isIn 31 = .ok (.ireturn, 1) := by decide +kernel
theorem dX0_mark_0 : decode cX0_mark 0 = .ok (.iload_n 1, 1) := by decide +kernel
theorem dX0_mark_1 : decode cX0_mark 1 = .ok (.bipush 6, 2) := by decide +kernel
theorem dX0_mark_3 : decode cX0_mark 3 = .ok (.iushr, 1) := by decide +kernel
theorem dX0_mark_4 : decode cX0_mark 4 = .ok (.istore_n 2, 1) := by decide +kernel
theorem dX0_mark_5 : decode cX0_mark 5 = .ok (.iload_n 2, 1) := by decide +kernel
theorem dX0_mark_6 : decode cX0_mark 6 = .ok (.aload_n 0, 1) := by decide +kernel
theorem dX0_mark_7 : decode cX0_mark 7 = .ok (.arraylength, 1) := by decide +kernel
theorem dX0_mark_8 : decode cX0_mark 8 = .ok (.if_icmp .ge 15, 3) := by decide +kernel
theorem dX0_mark_11 : decode cX0_mark 11 = .ok (.aload_n 0, 1) := by decide +kernel
theorem dX0_mark_12 : decode cX0_mark 12 = .ok (.iload_n 2, 1) := by decide +kernel
theorem dX0_mark_13 : decode cX0_mark 13 = .ok (.dup2, 1) := by decide +kernel
theorem dX0_mark_14 : decode cX0_mark 14 = .ok (.laload, 1) := by decide +kernel
theorem dX0_mark_15 : decode cX0_mark 15 = .ok (.lconst 1, 1) := by decide +kernel
theorem dX0_mark_16 : decode cX0_mark 16 = .ok (.iload_n 1, 1) := by decide +kernel
theorem dX0_mark_17 : decode cX0_mark 17 = .ok (.bipush 63, 2) := by decide +kernel
theorem dX0_mark_19 : decode cX0_mark 19 = .ok (.iand, 1) := by decide +kernel
theorem dX0_mark_20 : decode cX0_mark 20 = .ok (.lshl, 1) := by decide +kernel
theorem dX0_mark_21 : decode cX0_mark 21 = .ok (.lor, 1) := by decide +kernel
theorem dX0_mark_22 : decode cX0_mark 22 = .ok (.lastore, 1) := by decide +kernel
theorem dX0_mark_23 : decode cX0_mark 23 = .ok (.return_, 1) := by decide +kernel
theorem dX0_tie_0 : decode cX0_tie 0 = .ok (.iconst 0, 1) := by decide +kernel
theorem dX0_tie_1 : decode cX0_tie 1 = .ok (.istore_n 2, 1) := by decide +kernel
theorem dX0_tie_2 : decode cX0_tie 2 = .ok (.iload_n 2, 1) := by decide +kernel
theorem dX0_tie_3 : decode cX0_tie 3 = .ok (.bipush 6, 2) := by decide +kernel
theorem dX0_tie_5 : decode cX0_tie 5 = .ok (.if_icmp .ge 81, 3) := by decide +kernel
theorem dX0_tie_8 : decode cX0_tie 8 = .ok (.aload_n 0, 1) := by decide +kernel
theorem dX0_tie_9 : decode cX0_tie 9 = .ok (.getfield 9, 3) := by decide +kernel
theorem dX0_tie_12 : decode cX0_tie 12 = .ok (.iload_n 2, 1) := by decide +kernel
theorem dX0_tie_13 : decode cX0_tie 13 = .ok (.aload_n 1, 1) := by decide +kernel
theorem dX0_tie_14 : decode cX0_tie 14 = .ok (.iconst 0, 1) := by decide +kernel
theorem dX0_tie_15 : decode cX0_tie 15 = .ok (.iload_n 2, 1) := by decide +kernel
theorem dX0_tie_16 : decode cX0_tie 16 = .ok (.invokevirtual 32, 3) := by decide +kernel
theorem dX0_tie_19 : decode cX0_tie 19 = .ok (.bipush 6, 2) := by decide +kernel
theorem dX0_tie_21 : decode cX0_tie 21 = .ok (.ishl, 1) := by decide +kernel
theorem dX0_tie_22 : decode cX0_tie 22 = .ok (.iastore, 1) := by decide +kernel
theorem dX0_tie_23 : decode cX0_tie 23 = .ok (.aload_n 0, 1) := by decide +kernel
theorem dX0_tie_24 : decode cX0_tie 24 = .ok (.getfield 15, 3) := by decide +kernel
theorem dX0_tie_27 : decode cX0_tie 27 = .ok (.iload_n 2, 1) := by decide +kernel
theorem dX0_tie_28 : decode cX0_tie 28 = .ok (.aload_n 1, 1) := by decide +kernel
theorem dX0_tie_29 : decode cX0_tie 29 = .ok (.iconst 0, 1) := by decide +kernel
theorem dX0_tie_30 : decode cX0_tie 30 = .ok (.iload_n 2, 1) := by decide +kernel
theorem dX0_tie_31 : decode cX0_tie 31 = .ok (.invokevirtual 32, 3) := by decide +kernel
theorem dX0_tie_34 : decode cX0_tie 34 = .ok (.aload_n 1, 1) := by decide +kernel
theorem dX0_tie_35 : decode cX0_tie 35 = .ok (.iconst 0, 1) := by decide +kernel
theorem dX0_tie_36 : decode cX0_tie 36 = .ok (.invokevirtual 38, 3) := by decide +kernel
theorem dX0_tie_39 : decode cX0_tie 39 = .ok (.ixor, 1) := by decide +kernel
theorem dX0_tie_40 : decode cX0_tie 40 = .ok (.bipush 6, 2) := by decide +kernel
theorem dX0_tie_42 : decode cX0_tie 42 = .ok (.ishl, 1) := by decide +kernel
theorem dX0_tie_43 : decode cX0_tie 43 = .ok (.iastore, 1) := by decide +kernel
theorem dX0_tie_44 : decode cX0_tie 44 = .ok (.aload_n 0, 1) := by decide +kernel
theorem dX0_tie_45 : decode cX0_tie 45 = .ok (.getfield 9, 3) := by decide +kernel
theorem dX0_tie_48 : decode cX0_tie 48 = .ok (.bipush 6, 2) := by decide +kernel
theorem dX0_tie_50 : decode cX0_tie 50 = .ok (.iload_n 2, 1) := by decide +kernel
theorem dX0_tie_51 : decode cX0_tie 51 = .ok (.iadd, 1) := by decide +kernel
theorem dX0_tie_52 : decode cX0_tie 52 = .ok (.aload_n 1, 1) := by decide +kernel
theorem dX0_tie_53 : decode cX0_tie 53 = .ok (.iconst 1, 1) := by decide +kernel
theorem dX0_tie_54 : decode cX0_tie 54 = .ok (.iload_n 2, 1) := by decide +kernel
theorem dX0_tie_55 : decode cX0_tie 55 = .ok (.invokevirtual 32, 3) := by decide +kernel
theorem dX0_tie_58 : decode cX0_tie 58 = .ok (.iastore, 1) := by decide +kernel
theorem dX0_tie_59 : decode cX0_tie 59 = .ok (.aload_n 0, 1) := by decide +kernel
theorem dX0_tie_60 : decode cX0_tie 60 = .ok (.getfield 15, 3) := by decide +kernel
theorem dX0_tie_63 : decode cX0_tie 63 = .ok (.bipush 6, 2) := by decide +kernel
theorem dX0_tie_65 : decode cX0_tie 65 = .ok (.iload_n 2, 1) := by decide +kernel
theorem dX0_tie_66 : decode cX0_tie 66 = .ok (.iadd, 1) := by decide +kernel
theorem dX0_tie_67 : decode cX0_tie 67 = .ok (.aload_n 1, 1) := by decide +kernel
theorem dX0_tie_68 : decode cX0_tie 68 = .ok (.iconst 1, 1) := by decide +kernel
theorem dX0_tie_69 : decode cX0_tie 69 = .ok (.iload_n 2, 1) := by decide +kernel
theorem dX0_tie_70 : decode cX0_tie 70 = .ok (.invokevirtual 32, 3) := by decide +kernel
theorem dX0_tie_73 : decode cX0_tie 73 = .ok (.aload_n 1, 1) := by decide +kernel
theorem dX0_tie_74 : decode cX0_tie 74 = .ok (.iconst 1, 1) := by decide +kernel
theorem dX0_tie_75 : decode cX0_tie 75 = .ok (.invokevirtual 38, 3) := by decide +kernel
theorem dX0_tie_78 : decode cX0_tie 78 = .ok (.ixor, 1) := by decide +kernel
theorem dX0_tie_79 : decode cX0_tie 79 = .ok (.iastore, 1) := by decide +kernel
theorem dX0_tie_80 : decode cX0_tie 80 = .ok (.iinc 2 1, 3) := by decide +kernel
theorem dX0_tie_83 : decode cX0_tie 83 = .ok (.goto (-81), 3) := by decide +kernel
theorem dX0_tie_86 : decode cX0_tie 86 = .ok (.return_, 1) := by decide +kernel
theorem dX0_turn_0 : decode cX0_turn 0 = .ok (.aload_n 0, 1) := by decide +kernel
theorem dX0_turn_1 : decode cX0_turn 1 = .ok (.getfield 9, 3) := by decide +kernel
theorem dX0_turn_4 : decode cX0_turn 4 = .ok (.iload_n 1, 1) := by decide +kernel
theorem dX0_turn_5 : decode cX0_turn 5 = .ok (.dup2, 1) := by decide +kernel
theorem dX0_turn_6 : decode cX0_turn 6 = .ok (.iaload, 1) := by decide +kernel
theorem dX0_turn_7 : decode cX0_turn 7 = .ok (.iconst 1, 1) := by decide +kernel
theorem dX0_turn_8 : decode cX0_turn 8 = .ok (.bipush 6, 2) := by decide +kernel
theorem dX0_turn_10 : decode cX0_turn 10 = .ok (.iload_n 2, 1) := by decide +kernel
theorem dX0_turn_11 : decode cX0_turn 11 = .ok (.iadd, 1) := by decide +kernel
theorem dX0_turn_12 : decode cX0_turn 12 = .ok (.ishl, 1) := by decide +kernel
theorem dX0_turn_13 : decode cX0_turn 13 = .ok (.ixor, 1) := by decide +kernel
theorem dX0_turn_14 : decode cX0_turn 14 = .ok (.iastore, 1) := by decide +kernel
theorem dX0_turn_15 : decode cX0_turn 15 = .ok (.aload_n 0, 1) := by decide +kernel
theorem dX0_turn_16 : decode cX0_turn 16 = .ok (.getfield 15, 3) := by decide +kernel
theorem dX0_turn_19 : decode cX0_turn 19 = .ok (.iload_n 1, 1) := by decide +kernel
theorem dX0_turn_20 : decode cX0_turn 20 = .ok (.dup2, 1) := by decide +kernel
theorem dX0_turn_21 : decode cX0_turn 21 = .ok (.iaload, 1) := by decide +kernel
theorem dX0_turn_22 : decode cX0_turn 22 = .ok (.iconst 1, 1) := by decide +kernel
theorem dX0_turn_23 : decode cX0_turn 23 = .ok (.bipush 6, 2) := by decide +kernel
theorem dX0_turn_25 : decode cX0_turn 25 = .ok (.iload_n 2, 1) := by decide +kernel
theorem dX0_turn_26 : decode cX0_turn 26 = .ok (.iadd, 1) := by decide +kernel
theorem dX0_turn_27 : decode cX0_turn 27 = .ok (.ishl, 1) := by decide +kernel
theorem dX0_turn_28 : decode cX0_turn 28 = .ok (.ixor, 1) := by decide +kernel
theorem dX0_turn_29 : decode cX0_turn 29 = .ok (.iastore, 1) := by decide +kernel
theorem dX0_turn_30 : decode cX0_turn 30 = .ok (.aload_n 0, 1) := by decide +kernel
theorem dX0_turn_31 : decode cX0_turn 31 = .ok (.getfield 9, 3) := by decide +kernel
theorem dX0_turn_34 : decode cX0_turn 34 = .ok (.bipush 6, 2) := by decide +kernel
theorem dX0_turn_36 : decode cX0_turn 36 = .ok (.iload_n 2, 1) := by decide +kernel
theorem dX0_turn_37 : decode cX0_turn 37 = .ok (.iadd, 1) := by decide +kernel
theorem dX0_turn_38 : decode cX0_turn 38 = .ok (.dup2, 1) := by decide +kernel
theorem dX0_turn_39 : decode cX0_turn 39 = .ok (.iaload, 1) := by decide +kernel
theorem dX0_turn_40 : decode cX0_turn 40 = .ok (.iconst 1, 1) := by decide +kernel
theorem dX0_turn_41 : decode cX0_turn 41 = .ok (.iload_n 1, 1) := by decide +kernel
theorem dX0_turn_42 : decode cX0_turn 42 = .ok (.ishl, 1) := by decide +kernel
theorem dX0_turn_43 : decode cX0_turn 43 = .ok (.ixor, 1) := by decide +kernel
theorem dX0_turn_44 : decode cX0_turn 44 = .ok (.iastore, 1) := by decide +kernel
theorem dX0_turn_45 : decode cX0_turn 45 = .ok (.aload_n 0, 1) := by decide +kernel
theorem dX0_turn_46 : decode cX0_turn 46 = .ok (.getfield 15, 3) := by decide +kernel
theorem dX0_turn_49 : decode cX0_turn 49 = .ok (.bipush 6, 2) := by decide +kernel
theorem dX0_turn_51 : decode cX0_turn 51 = .ok (.iload_n 2, 1) := by decide +kernel
theorem dX0_turn_52 : decode cX0_turn 52 = .ok (.iadd, 1) := by decide +kernel
theorem dX0_turn_53 : decode cX0_turn 53 = .ok (.dup2, 1) := by decide +kernel
theorem dX0_turn_54 : decode cX0_turn 54 = .ok (.iaload, 1) := by decide +kernel
theorem dX0_turn_55 : decode cX0_turn 55 = .ok (.iconst 1, 1) := by decide +kernel
theorem dX0_turn_56 : decode cX0_turn 56 = .ok (.iload_n 1, 1) := by decide +kernel
theorem dX0_turn_57 : decode cX0_turn 57 = .ok (.ishl, 1) := by decide +kernel
theorem dX0_turn_58 : decode cX0_turn 58 = .ok (.ixor, 1) := by decide +kernel
theorem dX0_turn_59 : decode cX0_turn 59 = .ok (.iastore, 1) := by decide +kernel
theorem dX0_turn_60 : decode cX0_turn 60 = .ok (.return_, 1) := by decide +kernel
theorem dX0_reached_0 : decode cX0_reached 0 = .ok (.iload_n 0, 1) := by decide +kernel
theorem dX0_reached_1 : decode cX0_reached 1 = .ok (.istore_n 3, 1) := by decide +kernel
theorem dX0_reached_2 : decode cX0_reached 2 = .ok (.iload_n 0, 1) := by decide +kernel
theorem dX0_reached_3 : decode cX0_reached 3 = .ok (.istore 4, 2) := by decide +kernel
theorem dX0_reached_5 : decode cX0_reached 5 = .ok (.iconst 0, 1) := by decide +kernel
theorem dX0_reached_6 : decode cX0_reached 6 = .ok (.istore 5, 2) := by decide +kernel
theorem dX0_reached_8 : decode cX0_reached 8 = .ok (.iload 5, 2) := by decide +kernel
theorem dX0_reached_10 : decode cX0_reached 10 = .ok (.bipush 12, 2) := by decide +kernel
theorem dX0_reached_12 : decode cX0_reached 12 = .ok (.if_icmp .ge 74, 3) := by decide +kernel
theorem dX0_reached_15 : decode cX0_reached 15 = .ok (.iload 4, 2) := by decide +kernel
theorem dX0_reached_17 : decode cX0_reached 17 = .ok (.ifCond .eq 69, 3) := by decide +kernel
theorem dX0_reached_20 : decode cX0_reached 20 = .ok (.iload_n 3, 1) := by decide +kernel
theorem dX0_reached_21 : decode cX0_reached 21 = .ok (.iload_n 1, 1) := by decide +kernel
theorem dX0_reached_22 : decode cX0_reached 22 = .ok (.if_icmp .eq 64, 3) := by decide +kernel
theorem dX0_reached_25 : decode cX0_reached 25 = .ok (.iload 4, 2) := by decide +kernel
theorem dX0_reached_27 : decode cX0_reached 27 = .ok (.iload 4, 2) := by decide +kernel
theorem dX0_reached_29 : decode cX0_reached 29 = .ok (.ineg, 1) := by decide +kernel
theorem dX0_reached_30 : decode cX0_reached 30 = .ok (.iand, 1) := by decide +kernel
theorem dX0_reached_31 : decode cX0_reached 31 = .ok (.istore 6, 2) := by decide +kernel
theorem dX0_reached_33 : decode cX0_reached 33 = .ok (.iload 6, 2) := by decide +kernel
theorem dX0_reached_35 : decode cX0_reached 35 = .ok (.iconst 1, 1) := by decide +kernel
theorem dX0_reached_36 : decode cX0_reached 36 = .ok (.isub, 1) := by decide +kernel
theorem dX0_reached_37 : decode cX0_reached 37 = .ok (.invokestatic 42, 3) := by decide +kernel
theorem dX0_reached_40 : decode cX0_reached 40 = .ok (.istore 7, 2) := by decide +kernel
theorem dX0_reached_42 : decode cX0_reached 42 = .ok (.iload 7, 2) := by decide +kernel
theorem dX0_reached_44 : decode cX0_reached 44 = .ok (.aload_n 2, 1) := by decide +kernel
theorem dX0_reached_45 : decode cX0_reached 45 = .ok (.arraylength, 1) := by decide +kernel
theorem dX0_reached_46 : decode cX0_reached 46 = .ok (.if_icmp .ge 16, 3) := by decide +kernel
theorem dX0_reached_49 : decode cX0_reached 49 = .ok (.aload_n 2, 1) := by decide +kernel
theorem dX0_reached_50 : decode cX0_reached 50 = .ok (.iload 7, 2) := by decide +kernel
theorem dX0_reached_52 : decode cX0_reached 52 = .ok (.iaload, 1) := by decide +kernel
theorem dX0_reached_53 : decode cX0_reached 53 = .ok (.iload_n 1, 1) := by decide +kernel
theorem dX0_reached_54 : decode cX0_reached 54 = .ok (.iand, 1) := by decide +kernel
theorem dX0_reached_55 : decode cX0_reached 55 = .ok (.iload_n 3, 1) := by decide +kernel
theorem dX0_reached_56 : decode cX0_reached 56 = .ok (.iconst (-1), 1) := by decide +kernel
theorem dX0_reached_57 : decode cX0_reached 57 = .ok (.ixor, 1) := by decide +kernel
theorem dX0_reached_58 : decode cX0_reached 58 = .ok (.iand, 1) := by decide +kernel
theorem dX0_reached_59 : decode cX0_reached 59 = .ok (.goto 4, 3) := by decide +kernel
theorem dX0_reached_62 : decode cX0_reached 62 = .ok (.iconst 0, 1) := by decide +kernel
theorem dX0_reached_63 : decode cX0_reached 63 = .ok (.istore 8, 2) := by decide +kernel
theorem dX0_reached_65 : decode cX0_reached 65 = .ok (.iload_n 3, 1) := by decide +kernel
theorem dX0_reached_66 : decode cX0_reached 66 = .ok (.iload 8, 2) := by decide +kernel
theorem dX0_reached_68 : decode cX0_reached 68 = .ok (.ior, 1) := by decide +kernel
theorem dX0_reached_69 : decode cX0_reached 69 = .ok (.istore_n 3, 1) := by decide +kernel
theorem dX0_reached_70 : decode cX0_reached 70 = .ok (.iload 4, 2) := by decide +kernel
theorem dX0_reached_72 : decode cX0_reached 72 = .ok (.iload 6, 2) := by decide +kernel
theorem dX0_reached_74 : decode cX0_reached 74 = .ok (.ixor, 1) := by decide +kernel
theorem dX0_reached_75 : decode cX0_reached 75 = .ok (.iload 8, 2) := by decide +kernel
theorem dX0_reached_77 : decode cX0_reached 77 = .ok (.ior, 1) := by decide +kernel
theorem dX0_reached_78 : decode cX0_reached 78 = .ok (.istore 4, 2) := by decide +kernel
theorem dX0_reached_80 : decode cX0_reached 80 = .ok (.iinc 5 1, 3) := by decide +kernel
theorem dX0_reached_83 : decode cX0_reached 83 = .ok (.goto (-75), 3) := by decide +kernel
theorem dX0_reached_86 : decode cX0_reached 86 = .ok (.iload_n 3, 1) := by decide +kernel
theorem dX0_reached_87 : decode cX0_reached 87 = .ok (.ireturn, 1) := by decide +kernel
theorem dX0_areTogether_0 : decode cX0_areTogether 0 = .ok (.iload_n 1, 1) := by decide +kernel
theorem dX0_areTogether_1 : decode cX0_areTogether 1 = .ok (.invokestatic 42, 3) := by decide +kernel
theorem dX0_areTogether_4 : decode cX0_areTogether 4 = .ok (.iconst 1, 1) := by decide +kernel
theorem dX0_areTogether_5 : decode cX0_areTogether 5 = .ok (.if_icmp .ne 5, 3) := by decide +kernel
theorem dX0_areTogether_8 : decode cX0_areTogether 8 = .ok (.iconst 1, 1) := by decide +kernel
theorem dX0_areTogether_9 : decode cX0_areTogether 9 = .ok (.ireturn, 1) := by decide +kernel
theorem dX0_areTogether_10 : decode cX0_areTogether 10 = .ok (.iload_n 1, 1) := by decide +kernel
theorem dX0_areTogether_11 : decode cX0_areTogether 11 = .ok (.bipush 63, 2) := by decide +kernel
theorem dX0_areTogether_13 : decode cX0_areTogether 13 = .ok (.iand, 1) := by decide +kernel
theorem dX0_areTogether_14 : decode cX0_areTogether 14 = .ok (.ifCond .eq 10, 3) := by decide +kernel
theorem dX0_areTogether_17 : decode cX0_areTogether 17 = .ok (.iload_n 1, 1) := by decide +kernel
theorem dX0_areTogether_18 : decode cX0_areTogether 18 = .ok (.bipush 6, 2) := by decide +kernel
theorem dX0_areTogether_20 : decode cX0_areTogether 20 = .ok (.iushr, 1) := by decide +kernel
theorem dX0_areTogether_21 : decode cX0_areTogether 21 = .ok (.ifCond .ne 5, 3) := by decide +kernel
theorem dX0_areTogether_24 : decode cX0_areTogether 24 = .ok (.iconst 0, 1) := by decide +kernel
theorem dX0_areTogether_25 : decode cX0_areTogether 25 = .ok (.ireturn, 1) := by decide +kernel
theorem dX0_areTogether_26 : decode cX0_areTogether 26 = .ok (.iload_n 1, 1) := by decide +kernel
theorem dX0_areTogether_27 : decode cX0_areTogether 27 = .ok (.iload_n 1, 1) := by decide +kernel
theorem dX0_areTogether_28 : decode cX0_areTogether 28 = .ok (.ineg, 1) := by decide +kernel
theorem dX0_areTogether_29 : decode cX0_areTogether 29 = .ok (.iand, 1) := by decide +kernel
theorem dX0_areTogether_30 : decode cX0_areTogether 30 = .ok (.istore_n 2, 1) := by decide +kernel
theorem dX0_areTogether_31 : decode cX0_areTogether 31 = .ok (.iload_n 2, 1) := by decide +kernel
theorem dX0_areTogether_32 : decode cX0_areTogether 32 = .ok (.iload_n 1, 1) := by decide +kernel
theorem dX0_areTogether_33 : decode cX0_areTogether 33 = .ok (.aload_n 0, 1) := by decide +kernel
theorem dX0_areTogether_34 : decode cX0_areTogether 34 = .ok (.getfield 9, 3) := by decide +kernel
theorem dX0_areTogether_37 : decode cX0_areTogether 37 = .ok (.invokestatic 47, 3) := by decide +kernel
theorem dX0_areTogether_40 : decode cX0_areTogether 40 = .ok (.iload_n 1, 1) := by decide +kernel
theorem dX0_areTogether_41 : decode cX0_areTogether 41 = .ok (.if_icmp .ne 20, 3) := by decide +kernel
theorem dX0_areTogether_44 : decode cX0_areTogether 44 = .ok (.iload_n 2, 1) := by decide +kernel
theorem dX0_areTogether_45 : decode cX0_areTogether 45 = .ok (.iload_n 1, 1) := by decide +kernel
theorem dX0_areTogether_46 : decode cX0_areTogether 46 = .ok (.aload_n 0, 1) := by decide +kernel
theorem dX0_areTogether_47 : decode cX0_areTogether 47 = .ok (.getfield 15, 3) := by decide +kernel
theorem dX0_areTogether_50 : decode cX0_areTogether 50 = .ok (.invokestatic 47, 3) := by decide +kernel
theorem dX0_areTogether_53 : decode cX0_areTogether 53 = .ok (.iload_n 1, 1) := by decide +kernel
theorem dX0_areTogether_54 : decode cX0_areTogether 54 = .ok (.if_icmp .ne 7, 3) := by decide +kernel
theorem dX0_areTogether_57 : decode cX0_areTogether 57 = .ok (.iconst 1, 1) := by decide +kernel
theorem dX0_areTogether_58 : decode cX0_areTogether 58 = .ok (.goto 4, 3) := by decide +kernel
theorem dX0_areTogether_61 : decode cX0_areTogether 61 = .ok (.iconst 0, 1) := by decide +kernel
theorem dX0_areTogether_62 : decode cX0_areTogether 62 = .ok (.ireturn, 1) := by decide +kernel
theorem dX0_isTogether_0 : decode cX0_isTogether 0 = .ok (.aload_n 0, 1) := by decide +kernel
theorem dX0_isTogether_1 : decode cX0_isTogether 1 = .ok (.aload_n 1, 1) := by decide +kernel
theorem dX0_isTogether_2 : decode cX0_isTogether 2 = .ok (.invokevirtual 51, 3) := by decide +kernel
theorem dX0_isTogether_5 : decode cX0_isTogether 5 = .ok (.aload_n 0, 1) := by decide +kernel
theorem dX0_isTogether_6 : decode cX0_isTogether 6 = .ok (.aload_n 1, 1) := by decide +kernel
theorem dX0_isTogether_7 : decode cX0_isTogether 7 = .ok (.invokevirtual 55, 3) := by decide +kernel
theorem dX0_isTogether_10 : decode cX0_isTogether 10 = .ok (.invokevirtual 59, 3) := by decide +kernel
theorem dX0_isTogether_13 : decode cX0_isTogether 13 = .ok (.ireturn, 1) := by decide +kernel
theorem dX0_tabulate_0 : decode cX0_tabulate 0 = .ok (.aload_n 1, 1) := by decide +kernel
theorem dX0_tabulate_1 : decode cX0_tabulate 1 = .ok (.invokevirtual 63, 3) := by decide +kernel
theorem dX0_tabulate_4 : decode cX0_tabulate 4 = .ok (.lstore_n 2, 1) := by decide +kernel
theorem dX0_tabulate_5 : decode cX0_tabulate 5 = .ok (.lload_n 2, 1) := by decide +kernel
theorem dX0_tabulate_6 : decode cX0_tabulate 6 = .ok (.aload_n 0, 1) := by decide +kernel
theorem dX0_tabulate_7 : decode cX0_tabulate 7 = .ok (.getfield 28, 3) := by decide +kernel
theorem dX0_tabulate_10 : decode cX0_tabulate 10 = .ok (.lcmp, 1) := by decide +kernel
theorem dX0_tabulate_11 : decode cX0_tabulate 11 = .ok (.ifCond .ne 4, 3) := by decide +kernel
theorem dX0_tabulate_14 : decode cX0_tabulate 14 = .ok (.return_, 1) := by decide +kernel
theorem dX0_tabulate_15 : decode cX0_tabulate 15 = .ok (.aload_n 0, 1) := by decide +kernel
theorem dX0_tabulate_16 : decode cX0_tabulate 16 = .ok (.lload_n 2, 1) := by decide +kernel
theorem dX0_tabulate_17 : decode cX0_tabulate 17 = .ok (.putfield 28, 3) := by decide +kernel
theorem dX0_tabulate_20 : decode cX0_tabulate 20 = .ok (.aload_n 0, 1) := by decide +kernel
theorem dX0_tabulate_21 : decode cX0_tabulate 21 = .ok (.aload_n 1, 1) := by decide +kernel
theorem dX0_tabulate_22 : decode cX0_tabulate 22 = .ok (.invokevirtual 51, 3) := by decide +kernel
theorem dX0_tabulate_25 : decode cX0_tabulate 25 = .ok (.aload_n 0, 1) := by decide +kernel
theorem dX0_tabulate_26 : decode cX0_tabulate 26 = .ok (.getfield 18, 3) := by decide +kernel
theorem dX0_tabulate_29 : decode cX0_tabulate 29 = .ok (.lconst 0, 1) := by decide +kernel
theorem dX0_tabulate_30 : decode cX0_tabulate 30 = .ok (.invokestatic 67, 3) := by decide +kernel
theorem dX0_tabulate_33 : decode cX0_tabulate 33 = .ok (.aload_n 0, 1) := by decide +kernel
theorem dX0_tabulate_34 : decode cX0_tabulate 34 = .ok (.getfield 25, 3) := by decide +kernel
theorem dX0_tabulate_37 : decode cX0_tabulate 37 = .ok (.iconst 0, 1) := by decide +kernel
theorem dX0_tabulate_38 : decode cX0_tabulate 38 = .ok (.invokestatic 73, 3) := by decide +kernel
theorem dX0_tabulate_41 : decode cX0_tabulate 41 = .ok (.aload_n 1, 1) := by decide +kernel
theorem dX0_tabulate_42 : decode cX0_tabulate 42 = .ok (.invokevirtual 55, 3) := by decide +kernel
theorem dX0_tabulate_45 : decode cX0_tabulate 45 = .ok (.istore 4, 2) := by decide +kernel
theorem dX0_tabulate_47 : decode cX0_tabulate 47 = .ok (.iconst 0, 1) := by decide +kernel
theorem dX0_tabulate_48 : decode cX0_tabulate 48 = .ok (.istore 5, 2) := by decide +kernel
theorem dX0_tabulate_50 : decode cX0_tabulate 50 = .ok (.iconst 0, 1) := by decide +kernel
theorem dX0_tabulate_51 : decode cX0_tabulate 51 = .ok (.istore 6, 2) := by decide +kernel
theorem dX0_tabulate_53 : decode cX0_tabulate 53 = .ok (.iload 6, 2) := by decide +kernel
theorem dX0_tabulate_55 : decode cX0_tabulate 55 = .ok (.sipush 4096, 3) := by decide +kernel
theorem dX0_tabulate_58 : decode cX0_tabulate 58 = .ok (.if_icmp .ge 59, 3) := by decide +kernel
theorem dX0_tabulate_61 : decode cX0_tabulate 61 = .ok (.aload_n 0, 1) := by decide +kernel
theorem dX0_tabulate_62 : decode cX0_tabulate 62 = .ok (.iload 5, 2) := by decide +kernel
theorem dX0_tabulate_64 : decode cX0_tabulate 64 = .ok (.invokevirtual 59, 3) := by decide +kernel
theorem dX0_tabulate_67 : decode cX0_tabulate 67 = .ok (.ifCond .eq 26, 3) := by decide +kernel
theorem dX0_tabulate_70 : decode cX0_tabulate 70 = .ok (.aload_n 0, 1) := by decide +kernel
theorem dX0_tabulate_71 : decode cX0_tabulate 71 = .ok (.getfield 18, 3) := by decide +kernel
theorem dX0_tabulate_74 : decode cX0_tabulate 74 = .ok (.iload 5, 2) := by decide +kernel
theorem dX0_tabulate_76 : decode cX0_tabulate 76 = .ok (.invokestatic 76, 3) := by decide +kernel
theorem dX0_tabulate_79 : decode cX0_tabulate 79 = .ok (.aload_n 0, 1) := by decide +kernel
theorem dX0_tabulate_80 : decode cX0_tabulate 80 = .ok (.getfield 25, 3) := by decide +kernel
theorem dX0_tabulate_83 : decode cX0_tabulate 83 = .ok (.iload 5, 2) := by decide +kernel
theorem dX0_tabulate_85 : decode cX0_tabulate 85 = .ok (.invokestatic 42, 3) := by decide +kernel
theorem dX0_tabulate_88 : decode cX0_tabulate 88 = .ok (.dup2, 1) := by decide +kernel
theorem dX0_tabulate_89 : decode cX0_tabulate 89 = .ok (.iaload, 1) := by decide +kernel
theorem dX0_tabulate_90 : decode cX0_tabulate 90 = .ok (.iconst 1, 1) := by decide +kernel
theorem dX0_tabulate_91 : decode cX0_tabulate 91 = .ok (.iadd, 1) := by decide +kernel
theorem dX0_tabulate_92 : decode cX0_tabulate 92 = .ok (.iastore, 1) := by decide +kernel
theorem dX0_tabulate_93 : decode cX0_tabulate 93 = .ok (.iload 5, 2) := by decide +kernel
theorem dX0_tabulate_95 : decode cX0_tabulate 95 = .ok (.iload 4, 2) := by decide +kernel
theorem dX0_tabulate_97 : decode cX0_tabulate 97 = .ok (.isub, 1) := by decide +kernel
theorem dX0_tabulate_98 : decode cX0_tabulate 98 = .ok (.iload 4, 2) := by decide +kernel
theorem dX0_tabulate_100 : decode cX0_tabulate 100 = .ok (.iand, 1) := by decide +kernel
theorem dX0_tabulate_101 : decode cX0_tabulate 101 = .ok (.istore 5, 2) := by decide +kernel
theorem dX0_tabulate_103 : decode cX0_tabulate 103 = .ok (.iload 5, 2) := by decide +kernel
theorem dX0_tabulate_105 : decode cX0_tabulate 105 = .ok (.ifCond .ne 6, 3) := by decide +kernel
theorem dX0_tabulate_108 : decode cX0_tabulate 108 = .ok (.goto 9, 3) := by decide +kernel
theorem dX0_tabulate_111 : decode cX0_tabulate 111 = .ok (.iinc 6 1, 3) := by decide +kernel
theorem dX0_tabulate_114 : decode cX0_tabulate 114 = .ok (.goto (-61), 3) := by decide +kernel
theorem dX0_tabulate_117 : decode cX0_tabulate 117 = .ok (.return_, 1) := by decide +kernel
theorem dX0_holdingOf_0 : decode cX0_holdingOf 0 = .ok (.iload_n 1, 1) := by decide +kernel
theorem dX0_holdingOf_1 : decode cX0_holdingOf 1 = .ok (.ifCond .lt 21, 3) := by decide +kernel
theorem dX0_holdingOf_4 : decode cX0_holdingOf 4 = .ok (.iload_n 1, 1) := by decide +kernel
theorem dX0_holdingOf_5 : decode cX0_holdingOf 5 = .ok (.aload_n 0, 1) := by decide +kernel
theorem dX0_holdingOf_6 : decode cX0_holdingOf 6 = .ok (.getfield 25, 3) := by decide +kernel
theorem dX0_holdingOf_9 : decode cX0_holdingOf 9 = .ok (.arraylength, 1) := by decide +kernel
theorem dX0_holdingOf_10 : decode cX0_holdingOf 10 = .ok (.if_icmp .ge 12, 3) := by decide +kernel
theorem dX0_holdingOf_13 : decode cX0_holdingOf 13 = .ok (.aload_n 0, 1) := by decide +kernel
theorem dX0_holdingOf_14 : decode cX0_holdingOf 14 = .ok (.getfield 25, 3) := by decide +kernel
theorem dX0_holdingOf_17 : decode cX0_holdingOf 17 = .ok (.iload_n 1, 1) := by decide +kernel
theorem dX0_holdingOf_18 : decode cX0_holdingOf 18 = .ok (.iaload, 1) := by decide +kernel
theorem dX0_holdingOf_19 : decode cX0_holdingOf 19 = .ok (.goto 4, 3) := by decide +kernel
theorem dX0_holdingOf_22 : decode cX0_holdingOf 22 = .ok (.iconst 0, 1) := by decide +kernel
theorem dX0_holdingOf_23 : decode cX0_holdingOf 23 = .ok (.ireturn, 1) := by decide +kernel
theorem dX0_longestTaking_0 : decode cX0_longestTaking 0 = .ok (.aload_n 0, 1) := by decide +kernel
theorem dX0_longestTaking_1 : decode cX0_longestTaking 1 = .ok (.getfield 18, 3) := by decide +kernel
theorem dX0_longestTaking_4 : decode cX0_longestTaking 4 = .ok (.iload_n 1, 1) := by decide +kernel
theorem dX0_longestTaking_5 : decode cX0_longestTaking 5 = .ok (.invokestatic 80, 3) := by decide +kernel
theorem dX0_longestTaking_8 : decode cX0_longestTaking 8 = .ok (.ifCond .ne 5, 3) := by decide +kernel
theorem dX0_longestTaking_11 : decode cX0_longestTaking 11 = .ok (.iconst 0, 1) := by decide +kernel
theorem dX0_longestTaking_12 : decode cX0_longestTaking 12 = .ok (.ireturn, 1) := by decide +kernel
theorem dX0_longestTaking_13 : decode cX0_longestTaking 13 = .ok (.aload_n 0, 1) := by decide +kernel
theorem dX0_longestTaking_14 : decode cX0_longestTaking 14 = .ok (.getfield 22, 3) := by decide +kernel
theorem dX0_longestTaking_17 : decode cX0_longestTaking 17 = .ok (.lconst 0, 1) := by decide +kernel
theorem dX0_longestTaking_18 : decode cX0_longestTaking 18 = .ok (.invokestatic 67, 3) := by decide +kernel
theorem dX0_longestTaking_21 : decode cX0_longestTaking 21 = .ok (.aload_n 0, 1) := by decide +kernel
theorem dX0_longestTaking_22 : decode cX0_longestTaking 22 = .ok (.getfield 22, 3) := by decide +kernel
theorem dX0_longestTaking_25 : decode cX0_longestTaking 25 = .ok (.iload_n 1, 1) := by decide +kernel
theorem dX0_longestTaking_26 : decode cX0_longestTaking 26 = .ok (.invokestatic 76, 3) := by decide +kernel
theorem dX0_longestTaking_29 : decode cX0_longestTaking 29 = .ok (.iload_n 1, 1) := by decide +kernel
theorem dX0_longestTaking_30 : decode cX0_longestTaking 30 = .ok (.invokestatic 42, 3) := by decide +kernel
theorem dX0_longestTaking_33 : decode cX0_longestTaking 33 = .ok (.istore_n 2, 1) := by decide +kernel
theorem dX0_longestTaking_34 : decode cX0_longestTaking 34 = .ok (.iload_n 1, 1) := by decide +kernel
theorem dX0_longestTaking_35 : decode cX0_longestTaking 35 = .ok (.istore_n 3, 1) := by decide +kernel
theorem dX0_longestTaking_36 : decode cX0_longestTaking 36 = .ok (.iconst 0, 1) := by decide +kernel
theorem dX0_longestTaking_37 : decode cX0_longestTaking 37 = .ok (.istore 4, 2) := by decide +kernel
theorem dX0_longestTaking_39 : decode cX0_longestTaking 39 = .ok (.iload 4, 2) := by decide +kernel
theorem dX0_longestTaking_41 : decode cX0_longestTaking 41 = .ok (.sipush 4096, 3) := by decide +kernel
theorem dX0_longestTaking_44 : decode cX0_longestTaking 44 = .ok (.if_icmp .ge 44, 3) := by decide +kernel
theorem dX0_longestTaking_47 : decode cX0_longestTaking 47 = .ok (.iload_n 3, 1) := by decide +kernel
theorem dX0_longestTaking_48 : decode cX0_longestTaking 48 = .ok (.ifCond .eq 40, 3) := by decide +kernel
theorem dX0_longestTaking_51 : decode cX0_longestTaking 51 = .ok (.aload_n 0, 1) := by decide +kernel
theorem dX0_longestTaking_52 : decode cX0_longestTaking 52 = .ok (.getfield 22, 3) := by decide +kernel
theorem dX0_longestTaking_55 : decode cX0_longestTaking 55 = .ok (.iload_n 3, 1) := by decide +kernel
theorem dX0_longestTaking_56 : decode cX0_longestTaking 56 = .ok (.invokestatic 80, 3) := by decide +kernel
theorem dX0_longestTaking_59 : decode cX0_longestTaking 59 = .ok (.ifCond .eq 17, 3) := by decide +kernel
theorem dX0_longestTaking_62 : decode cX0_longestTaking 62 = .ok (.iload_n 2, 1) := by decide +kernel
theorem dX0_longestTaking_63 : decode cX0_longestTaking 63 = .ok (.iload_n 3, 1) := by decide +kernel
theorem dX0_longestTaking_64 : decode cX0_longestTaking 64 = .ok (.invokestatic 42, 3) := by decide +kernel
theorem dX0_longestTaking_67 : decode cX0_longestTaking 67 = .ok (.invokestatic 84, 3) := by decide +kernel
theorem dX0_longestTaking_70 : decode cX0_longestTaking 70 = .ok (.istore_n 2, 1) := by decide +kernel
theorem dX0_longestTaking_71 : decode cX0_longestTaking 71 = .ok (.aload_n 0, 1) := by decide +kernel
theorem dX0_longestTaking_72 : decode cX0_longestTaking 72 = .ok (.iload_n 3, 1) := by decide +kernel
theorem dX0_longestTaking_73 : decode cX0_longestTaking 73 = .ok (.invokevirtual 89, 3) := by decide +kernel
theorem dX0_longestTaking_76 : decode cX0_longestTaking 76 = .ok (.iload_n 3, 1) := by decide +kernel
theorem dX0_longestTaking_77 : decode cX0_longestTaking 77 = .ok (.iconst 1, 1) := by decide +kernel
theorem dX0_longestTaking_78 : decode cX0_longestTaking 78 = .ok (.isub, 1) := by decide +kernel
theorem dX0_longestTaking_79 : decode cX0_longestTaking 79 = .ok (.iload_n 1, 1) := by decide +kernel
theorem dX0_longestTaking_80 : decode cX0_longestTaking 80 = .ok (.iand, 1) := by decide +kernel
theorem dX0_longestTaking_81 : decode cX0_longestTaking 81 = .ok (.istore_n 3, 1) := by decide +kernel
theorem dX0_longestTaking_82 : decode cX0_longestTaking 82 = .ok (.iinc 4 1, 3) := by decide +kernel
theorem dX0_longestTaking_85 : decode cX0_longestTaking 85 = .ok (.goto (-46), 3) := by decide +kernel
theorem dX0_longestTaking_88 : decode cX0_longestTaking 88 = .ok (.iload_n 1, 1) := by decide +kernel
theorem dX0_longestTaking_89 : decode cX0_longestTaking 89 = .ok (.invokestatic 42, 3) := by decide +kernel
theorem dX0_longestTaking_92 : decode cX0_longestTaking 92 = .ok (.iload_n 2, 1) := by decide +kernel
theorem dX0_longestTaking_93 : decode cX0_longestTaking 93 = .ok (.isub, 1) := by decide +kernel
theorem dX0_longestTaking_94 : decode cX0_longestTaking 94 = .ok (.ireturn, 1) := by decide +kernel
theorem dX0_markTakings_0 : decode cX0_markTakings 0 = .ok (.iconst 0, 1) := by decide +kernel
theorem dX0_markTakings_1 : decode cX0_markTakings 1 = .ok (.istore_n 2, 1) := by decide +kernel
theorem dX0_markTakings_2 : decode cX0_markTakings 2 = .ok (.iload_n 2, 1) := by decide +kernel
theorem dX0_markTakings_3 : decode cX0_markTakings 3 = .ok (.bipush 12, 2) := by decide +kernel
theorem dX0_markTakings_5 : decode cX0_markTakings 5 = .ok (.if_icmp .ge 41, 3) := by decide +kernel
theorem dX0_markTakings_8 : decode cX0_markTakings 8 = .ok (.iload_n 1, 1) := by decide +kernel
theorem dX0_markTakings_9 : decode cX0_markTakings 9 = .ok (.iconst 1, 1) := by decide +kernel
theorem dX0_markTakings_10 : decode cX0_markTakings 10 = .ok (.iload_n 2, 1) := by decide +kernel
theorem dX0_markTakings_11 : decode cX0_markTakings 11 = .ok (.ishl, 1) := by decide +kernel
theorem dX0_markTakings_12 : decode cX0_markTakings 12 = .ok (.iconst (-1), 1) := by decide +kernel
theorem dX0_markTakings_13 : decode cX0_markTakings 13 = .ok (.ixor, 1) := by decide +kernel
theorem dX0_markTakings_14 : decode cX0_markTakings 14 = .ok (.iand, 1) := by decide +kernel
theorem dX0_markTakings_15 : decode cX0_markTakings 15 = .ok (.istore_n 3, 1) := by decide +kernel
theorem dX0_markTakings_16 : decode cX0_markTakings 16 = .ok (.iload_n 3, 1) := by decide +kernel
theorem dX0_markTakings_17 : decode cX0_markTakings 17 = .ok (.iload_n 1, 1) := by decide +kernel
theorem dX0_markTakings_18 : decode cX0_markTakings 18 = .ok (.if_icmp .eq 22, 3) := by decide +kernel
theorem dX0_markTakings_21 : decode cX0_markTakings 21 = .ok (.aload_n 0, 1) := by decide +kernel
theorem dX0_markTakings_22 : decode cX0_markTakings 22 = .ok (.getfield 18, 3) := by decide +kernel
theorem dX0_markTakings_25 : decode cX0_markTakings 25 = .ok (.iload_n 3, 1) := by decide +kernel
theorem dX0_markTakings_26 : decode cX0_markTakings 26 = .ok (.invokestatic 80, 3) := by decide +kernel
theorem dX0_markTakings_29 : decode cX0_markTakings 29 = .ok (.ifCond .eq 11, 3) := by decide +kernel
theorem dX0_markTakings_32 : decode cX0_markTakings 32 = .ok (.aload_n 0, 1) := by decide +kernel
theorem dX0_markTakings_33 : decode cX0_markTakings 33 = .ok (.getfield 22, 3) := by decide +kernel
theorem dX0_markTakings_36 : decode cX0_markTakings 36 = .ok (.iload_n 3, 1) := by decide +kernel
theorem dX0_markTakings_37 : decode cX0_markTakings 37 = .ok (.invokestatic 76, 3) := by decide +kernel
theorem dX0_markTakings_40 : decode cX0_markTakings 40 = .ok (.iinc 2 1, 3) := by decide +kernel
theorem dX0_markTakings_43 : decode cX0_markTakings 43 = .ok (.goto (-41), 3) := by decide +kernel
theorem dX0_markTakings_46 : decode cX0_markTakings 46 = .ok (.return_, 1) := by decide +kernel
theorem dX0_winningTake_0 : decode cX0_winningTake 0 = .ok (.aload_n 0, 1) := by decide +kernel
theorem dX0_winningTake_1 : decode cX0_winningTake 1 = .ok (.getfield 22, 3) := by decide +kernel
theorem dX0_winningTake_4 : decode cX0_winningTake 4 = .ok (.lconst 0, 1) := by decide +kernel
theorem dX0_winningTake_5 : decode cX0_winningTake 5 = .ok (.invokestatic 67, 3) := by decide +kernel
theorem dX0_winningTake_8 : decode cX0_winningTake 8 = .ok (.iconst 0, 1) := by decide +kernel
theorem dX0_winningTake_9 : decode cX0_winningTake 9 = .ok (.istore_n 2, 1) := by decide +kernel
theorem dX0_winningTake_10 : decode cX0_winningTake 10 = .ok (.iconst 0, 1) := by decide +kernel
theorem dX0_winningTake_11 : decode cX0_winningTake 11 = .ok (.istore_n 3, 1) := by decide +kernel
theorem dX0_winningTake_12 : decode cX0_winningTake 12 = .ok (.iload_n 3, 1) := by decide +kernel
theorem dX0_winningTake_13 : decode cX0_winningTake 13 = .ok (.sipush 4096, 3) := by decide +kernel
theorem dX0_winningTake_16 : decode cX0_winningTake 16 = .ok (.if_icmp .ge 48, 3) := by decide +kernel
theorem dX0_winningTake_19 : decode cX0_winningTake 19 = .ok (.iload_n 2, 1) := by decide +kernel
theorem dX0_winningTake_20 : decode cX0_winningTake 20 = .ok (.iload_n 1, 1) := by decide +kernel
theorem dX0_winningTake_21 : decode cX0_winningTake 21 = .ok (.if_icmp .eq 43, 3) := by decide +kernel
theorem dX0_winningTake_24 : decode cX0_winningTake 24 = .ok (.aload_n 0, 1) := by decide +kernel
theorem dX0_winningTake_25 : decode cX0_winningTake 25 = .ok (.getfield 18, 3) := by decide +kernel
theorem dX0_winningTake_28 : decode cX0_winningTake 28 = .ok (.iload_n 2, 1) := by decide +kernel
theorem dX0_winningTake_29 : decode cX0_winningTake 29 = .ok (.invokestatic 80, 3) := by decide +kernel
theorem dX0_winningTake_32 : decode cX0_winningTake 32 = .ok (.ifCond .eq 20, 3) := by decide +kernel
theorem dX0_winningTake_35 : decode cX0_winningTake 35 = .ok (.aload_n 0, 1) := by decide +kernel
theorem dX0_winningTake_36 : decode cX0_winningTake 36 = .ok (.iload_n 2, 1) := by decide +kernel
theorem dX0_winningTake_37 : decode cX0_winningTake 37 = .ok (.invokevirtual 93, 3) := by decide +kernel
theorem dX0_winningTake_40 : decode cX0_winningTake 40 = .ok (.iconst (-1), 1) := by decide +kernel
theorem dX0_winningTake_41 : decode cX0_winningTake 41 = .ok (.if_icmp .eq 11, 3) := by decide +kernel
theorem dX0_winningTake_44 : decode cX0_winningTake 44 = .ok (.aload_n 0, 1) := by decide +kernel
theorem dX0_winningTake_45 : decode cX0_winningTake 45 = .ok (.getfield 22, 3) := by decide +kernel
theorem dX0_winningTake_48 : decode cX0_winningTake 48 = .ok (.iload_n 2, 1) := by decide +kernel
theorem dX0_winningTake_49 : decode cX0_winningTake 49 = .ok (.invokestatic 76, 3) := by decide +kernel
theorem dX0_winningTake_52 : decode cX0_winningTake 52 = .ok (.iload_n 2, 1) := by decide +kernel
theorem dX0_winningTake_53 : decode cX0_winningTake 53 = .ok (.iload_n 1, 1) := by decide +kernel
theorem dX0_winningTake_54 : decode cX0_winningTake 54 = .ok (.isub, 1) := by decide +kernel
theorem dX0_winningTake_55 : decode cX0_winningTake 55 = .ok (.iload_n 1, 1) := by decide +kernel
theorem dX0_winningTake_56 : decode cX0_winningTake 56 = .ok (.iand, 1) := by decide +kernel
theorem dX0_winningTake_57 : decode cX0_winningTake 57 = .ok (.istore_n 2, 1) := by decide +kernel
theorem dX0_winningTake_58 : decode cX0_winningTake 58 = .ok (.iinc 3 1, 3) := by decide +kernel
theorem dX0_winningTake_61 : decode cX0_winningTake 61 = .ok (.goto (-49), 3) := by decide +kernel
theorem dX0_winningTake_64 : decode cX0_winningTake 64 = .ok (.aload_n 0, 1) := by decide +kernel
theorem dX0_winningTake_65 : decode cX0_winningTake 65 = .ok (.iload_n 1, 1) := by decide +kernel
theorem dX0_winningTake_66 : decode cX0_winningTake 66 = .ok (.invokevirtual 93, 3) := by decide +kernel
theorem dX0_winningTake_69 : decode cX0_winningTake 69 = .ok (.ireturn, 1) := by decide +kernel
theorem dX0_leastTake_0 : decode cX0_leastTake 0 = .ok (.iconst 0, 1) := by decide +kernel
theorem dX0_leastTake_1 : decode cX0_leastTake 1 = .ok (.istore_n 2, 1) := by decide +kernel
theorem dX0_leastTake_2 : decode cX0_leastTake 2 = .ok (.iload_n 2, 1) := by decide +kernel
theorem dX0_leastTake_3 : decode cX0_leastTake 3 = .ok (.bipush 12, 2) := by decide +kernel
theorem dX0_leastTake_5 : decode cX0_leastTake 5 = .ok (.if_icmp .ge 46, 3) := by decide +kernel
theorem dX0_leastTake_8 : decode cX0_leastTake 8 = .ok (.iload_n 1, 1) := by decide +kernel
theorem dX0_leastTake_9 : decode cX0_leastTake 9 = .ok (.iconst 1, 1) := by decide +kernel
theorem dX0_leastTake_10 : decode cX0_leastTake 10 = .ok (.iload_n 2, 1) := by decide +kernel
theorem dX0_leastTake_11 : decode cX0_leastTake 11 = .ok (.ishl, 1) := by decide +kernel
theorem dX0_leastTake_12 : decode cX0_leastTake 12 = .ok (.iconst (-1), 1) := by decide +kernel
theorem dX0_leastTake_13 : decode cX0_leastTake 13 = .ok (.ixor, 1) := by decide +kernel
theorem dX0_leastTake_14 : decode cX0_leastTake 14 = .ok (.iand, 1) := by decide +kernel
theorem dX0_leastTake_15 : decode cX0_leastTake 15 = .ok (.istore_n 3, 1) := by decide +kernel
theorem dX0_leastTake_16 : decode cX0_leastTake 16 = .ok (.iload_n 3, 1) := by decide +kernel
theorem dX0_leastTake_17 : decode cX0_leastTake 17 = .ok (.iload_n 1, 1) := by decide +kernel
theorem dX0_leastTake_18 : decode cX0_leastTake 18 = .ok (.if_icmp .eq 27, 3) := by decide +kernel
theorem dX0_leastTake_21 : decode cX0_leastTake 21 = .ok (.aload_n 0, 1) := by decide +kernel
theorem dX0_leastTake_22 : decode cX0_leastTake 22 = .ok (.getfield 18, 3) := by decide +kernel
theorem dX0_leastTake_25 : decode cX0_leastTake 25 = .ok (.iload_n 3, 1) := by decide +kernel
theorem dX0_leastTake_26 : decode cX0_leastTake 26 = .ok (.invokestatic 80, 3) := by decide +kernel
theorem dX0_leastTake_29 : decode cX0_leastTake 29 = .ok (.ifCond .eq 16, 3) := by decide +kernel
theorem dX0_leastTake_32 : decode cX0_leastTake 32 = .ok (.aload_n 0, 1) := by decide +kernel
theorem dX0_leastTake_33 : decode cX0_leastTake 33 = .ok (.getfield 22, 3) := by decide +kernel
theorem dX0_leastTake_36 : decode cX0_leastTake 36 = .ok (.iload_n 3, 1) := by decide +kernel
theorem dX0_leastTake_37 : decode cX0_leastTake 37 = .ok (.invokestatic 80, 3) := by decide +kernel
theorem dX0_leastTake_40 : decode cX0_leastTake 40 = .ok (.ifCond .ne 5, 3) := by decide +kernel
theorem dX0_leastTake_43 : decode cX0_leastTake 43 = .ok (.iload_n 2, 1) := by decide +kernel
theorem dX0_leastTake_44 : decode cX0_leastTake 44 = .ok (.ireturn, 1) := by decide +kernel
theorem dX0_leastTake_45 : decode cX0_leastTake 45 = .ok (.iinc 2 1, 3) := by decide +kernel
theorem dX0_leastTake_48 : decode cX0_leastTake 48 = .ok (.goto (-46), 3) := by decide +kernel
theorem dX0_leastTake_51 : decode cX0_leastTake 51 = .ok (.iconst (-1), 1) := by decide +kernel
theorem dX0_leastTake_52 : decode cX0_leastTake 52 = .ok (.ireturn, 1) := by decide +kernel
theorem dX1_init_0 : decode cX1_init 0 = .ok (.aload_n 0, 1) := by decide +kernel
theorem dX1_init_1 : decode cX1_init 1 = .ok (.invokespecial 3, 3) := by decide +kernel
theorem dX1_init_4 : decode cX1_init 4 = .ok (.aload_n 0, 1) := by decide +kernel
theorem dX1_init_5 : decode cX1_init 5 = .ok (.bipush 6, 2) := by decide +kernel
theorem dX1_init_7 : decode cX1_init 7 = .ok (.newarray .int, 2) := by decide +kernel
theorem dX1_init_9 : decode cX1_init 9 = .ok (.putfield 9, 3) := by decide +kernel
theorem dX1_init_12 : decode cX1_init 12 = .ok (.aload_n 0, 1) := by decide +kernel
theorem dX1_init_13 : decode cX1_init 13 = .ok (.sipush 1024, 3) := by decide +kernel
theorem dX1_init_16 : decode cX1_init 16 = .ok (.newarray .long, 2) := by decide +kernel
theorem dX1_init_18 : decode cX1_init 18 = .ok (.putfield 15, 3) := by decide +kernel
theorem dX1_init_21 : decode cX1_init 21 = .ok (.return_, 1) := by decide +kernel
theorem dX1_narrow_0 : decode cX1_narrow 0 = .ok (.aload_n 0, 1) := by decide +kernel
theorem dX1_narrow_1 : decode cX1_narrow 1 = .ok (.aload_n 1, 1) := by decide +kernel
theorem dX1_narrow_2 : decode cX1_narrow 2 = .ok (.getfield 19, 3) := by decide +kernel
theorem dX1_narrow_5 : decode cX1_narrow 5 = .ok (.iload_n 2, 1) := by decide +kernel
theorem dX1_narrow_6 : decode cX1_narrow 6 = .ok (.invokestatic 25, 3) := by decide +kernel
theorem dX1_narrow_9 : decode cX1_narrow 9 = .ok (.isub, 1) := by decide +kernel
theorem dX1_narrow_10 : decode cX1_narrow 10 = .ok (.putfield 31, 3) := by decide +kernel
theorem dX1_narrow_13 : decode cX1_narrow 13 = .ok (.iconst 0, 1) := by decide +kernel
theorem dX1_narrow_14 : decode cX1_narrow 14 = .ok (.istore_n 3, 1) := by decide +kernel
theorem dX1_narrow_15 : decode cX1_narrow 15 = .ok (.iload_n 3, 1) := by decide +kernel
theorem dX1_narrow_16 : decode cX1_narrow 16 = .ok (.aload_n 1, 1) := by decide +kernel
theorem dX1_narrow_17 : decode cX1_narrow 17 = .ok (.getfield 34, 3) := by decide +kernel
theorem dX1_narrow_20 : decode cX1_narrow 20 = .ok (.if_icmp .ge 67, 3) := by decide +kernel
theorem dX1_narrow_23 : decode cX1_narrow 23 = .ok (.aload_n 1, 1) := by decide +kernel
theorem dX1_narrow_24 : decode cX1_narrow 24 = .ok (.iconst 0, 1) := by decide +kernel
theorem dX1_narrow_25 : decode cX1_narrow 25 = .ok (.iload_n 3, 1) := by decide +kernel
theorem dX1_narrow_26 : decode cX1_narrow 26 = .ok (.invokevirtual 37, 3) := by decide +kernel
theorem dX1_narrow_29 : decode cX1_narrow 29 = .ok (.istore 4, 2) := by decide +kernel
theorem dX1_narrow_31 : decode cX1_narrow 31 = .ok (.aload_n 1, 1) := by decide +kernel
theorem dX1_narrow_32 : decode cX1_narrow 32 = .ok (.getfield 19, 3) := by decide +kernel
theorem dX1_narrow_35 : decode cX1_narrow 35 = .ok (.iconst 1, 1) := by decide +kernel
theorem dX1_narrow_36 : decode cX1_narrow 36 = .ok (.isub, 1) := by decide +kernel
theorem dX1_narrow_37 : decode cX1_narrow 37 = .ok (.istore 5, 2) := by decide +kernel
theorem dX1_narrow_39 : decode cX1_narrow 39 = .ok (.iload 5, 2) := by decide +kernel
theorem dX1_narrow_41 : decode cX1_narrow 41 = .ok (.ifCond .lt 32, 3) := by decide +kernel
theorem dX1_narrow_44 : decode cX1_narrow 44 = .ok (.iload_n 2, 1) := by decide +kernel
theorem dX1_narrow_45 : decode cX1_narrow 45 = .ok (.iload 5, 2) := by decide +kernel
theorem dX1_narrow_47 : decode cX1_narrow 47 = .ok (.iushr, 1) := by decide +kernel
theorem dX1_narrow_48 : decode cX1_narrow 48 = .ok (.iconst 1, 1) := by decide +kernel
theorem dX1_narrow_49 : decode cX1_narrow 49 = .ok (.iand, 1) := by decide +kernel
theorem dX1_narrow_50 : decode cX1_narrow 50 = .ok (.ifCond .eq 13, 3) := by decide +kernel
theorem dX1_narrow_53 : decode cX1_narrow 53 = .ok (.iload 4, 2) := by decide +kernel
theorem dX1_narrow_55 : decode cX1_narrow 55 = .ok (.iload 5, 2) := by decide +kernel
theorem dX1_narrow_57 : decode cX1_narrow 57 = .ok (.invokestatic 41, 3) := by decide +kernel
theorem dX1_narrow_60 : decode cX1_narrow 60 = .ok (.goto 5, 3) := by decide +kernel
theorem dX1_narrow_63 : decode cX1_narrow 63 = .ok (.iload 4, 2) := by decide +kernel
theorem dX1_narrow_65 : decode cX1_narrow 65 = .ok (.istore 4, 2) := by decide +kernel
theorem dX1_narrow_67 : decode cX1_narrow 67 = .ok (.iinc 5 (-1), 3) := by decide +kernel
theorem dX1_narrow_70 : decode cX1_narrow 70 = .ok (.goto (-31), 3) := by decide +kernel
theorem dX1_narrow_73 : decode cX1_narrow 73 = .ok (.aload_n 0, 1) := by decide +kernel
theorem dX1_narrow_74 : decode cX1_narrow 74 = .ok (.getfield 9, 3) := by decide +kernel
theorem dX1_narrow_77 : decode cX1_narrow 77 = .ok (.iload_n 3, 1) := by decide +kernel
theorem dX1_narrow_78 : decode cX1_narrow 78 = .ok (.iload 4, 2) := by decide +kernel
theorem dX1_narrow_80 : decode cX1_narrow 80 = .ok (.iastore, 1) := by decide +kernel
theorem dX1_narrow_81 : decode cX1_narrow 81 = .ok (.iinc 3 1, 3) := by decide +kernel
theorem dX1_narrow_84 : decode cX1_narrow 84 = .ok (.goto (-69), 3) := by decide +kernel
theorem dX1_narrow_87 : decode cX1_narrow 87 = .ok (.return_, 1) := by decide +kernel
theorem dX1_shapeWithout_0 : decode cX1_shapeWithout 0 = .ok (.lconst 0, 1) := by decide +kernel
theorem dX1_shapeWithout_1 : decode cX1_shapeWithout 1 = .ok (.lstore_n 3, 1) := by decide +kernel
theorem dX1_shapeWithout_2 : decode cX1_shapeWithout 2 = .ok (.iconst 0, 1) := by decide +kernel
theorem dX1_shapeWithout_3 : decode cX1_shapeWithout 3 = .ok (.istore 5, 2) := by decide +kernel
theorem dX1_shapeWithout_5 : decode cX1_shapeWithout 5 = .ok (.aload_n 1, 1) := by decide +kernel
theorem dX1_shapeWithout_6 : decode cX1_shapeWithout 6 = .ok (.getfield 34, 3) := by decide +kernel
theorem dX1_shapeWithout_9 : decode cX1_shapeWithout 9 = .ok (.iconst 1, 1) := by decide +kernel
theorem dX1_shapeWithout_10 : decode cX1_shapeWithout 10 = .ok (.isub, 1) := by decide +kernel
theorem dX1_shapeWithout_11 : decode cX1_shapeWithout 11 = .ok (.istore 6, 2) := by decide +kernel
theorem dX1_shapeWithout_13 : decode cX1_shapeWithout 13 = .ok (.iload 6, 2) := by decide +kernel
theorem dX1_shapeWithout_15 : decode cX1_shapeWithout 15 = .ok (.ifCond .lt 35, 3) := by decide +kernel
theorem dX1_shapeWithout_18 : decode cX1_shapeWithout 18 = .ok (.iload_n 2, 1) := by decide +kernel
theorem dX1_shapeWithout_19 : decode cX1_shapeWithout 19 = .ok (.iload 6, 2) := by decide +kernel
theorem dX1_shapeWithout_21 : decode cX1_shapeWithout 21 = .ok (.iushr, 1) := by decide +kernel
theorem dX1_shapeWithout_22 : decode cX1_shapeWithout 22 = .ok (.iconst 1, 1) := by decide +kernel
theorem dX1_shapeWithout_23 : decode cX1_shapeWithout 23 = .ok (.iand, 1) := by decide +kernel
theorem dX1_shapeWithout_24 : decode cX1_shapeWithout 24 = .ok (.ifCond .ne 20, 3) := by decide +kernel
theorem dX1_shapeWithout_27 : decode cX1_shapeWithout 27 = .ok (.lload_n 3, 1) := by decide +kernel
theorem dX1_shapeWithout_28 : decode cX1_shapeWithout 28 = .ok (.bipush 6, 2) := by decide +kernel
theorem dX1_shapeWithout_30 : decode cX1_shapeWithout 30 = .ok (.lshl, 1) := by decide +kernel
theorem dX1_shapeWithout_31 : decode cX1_shapeWithout 31 = .ok (.aload_n 0, 1) := by decide +kernel
theorem dX1_shapeWithout_32 : decode cX1_shapeWithout 32 = .ok (.getfield 9, 3) := by decide +kernel
theorem dX1_shapeWithout_35 : decode cX1_shapeWithout 35 = .ok (.iload 6, 2) := by decide +kernel
theorem dX1_shapeWithout_37 : decode cX1_shapeWithout 37 = .ok (.iaload, 1) := by decide +kernel
theorem dX1_shapeWithout_38 : decode cX1_shapeWithout 38 = .ok (.i2l, 1) := by decide +kernel
theorem dX1_shapeWithout_39 : decode cX1_shapeWithout 39 = .ok (.lor, 1) := by decide +kernel
theorem dX1_shapeWithout_40 : decode cX1_shapeWithout 40 = .ok (.lstore_n 3, 1) := by decide +kernel
theorem dX1_shapeWithout_41 : decode cX1_shapeWithout 41 = .ok (.iinc 5 1, 3) := by decide +kernel
theorem dX1_shapeWithout_44 : decode cX1_shapeWithout 44 = .ok (.iinc 6 (-1), 3) := by decide +kernel
theorem dX1_shapeWithout_47 : decode cX1_shapeWithout 47 = .ok (.goto (-34), 3) := by decide +kernel
theorem dX1_shapeWithout_50 : decode cX1_shapeWithout 50 = .ok (.lload_n 3, 1) := by decide +kernel
theorem dX1_shapeWithout_51 : decode cX1_shapeWithout 51 = .ok (.bipush 6, 2) := by decide +kernel
theorem dX1_shapeWithout_53 : decode cX1_shapeWithout 53 = .ok (.lshl, 1) := by decide +kernel
theorem dX1_shapeWithout_54 : decode cX1_shapeWithout 54 = .ok (.aload_n 0, 1) := by decide +kernel
theorem dX1_shapeWithout_55 : decode cX1_shapeWithout 55 = .ok (.getfield 31, 3) := by decide +kernel
theorem dX1_shapeWithout_58 : decode cX1_shapeWithout 58 = .ok (.iconst 3, 1) := by decide +kernel
theorem dX1_shapeWithout_59 : decode cX1_shapeWithout 59 = .ok (.ishl, 1) := by decide +kernel
theorem dX1_shapeWithout_60 : decode cX1_shapeWithout 60 = .ok (.i2l, 1) := by decide +kernel
theorem dX1_shapeWithout_61 : decode cX1_shapeWithout 61 = .ok (.lor, 1) := by decide +kernel
theorem dX1_shapeWithout_62 : decode cX1_shapeWithout 62 = .ok (.iload 5, 2) := by decide +kernel
theorem dX1_shapeWithout_64 : decode cX1_shapeWithout 64 = .ok (.i2l, 1) := by decide +kernel
theorem dX1_shapeWithout_65 : decode cX1_shapeWithout 65 = .ok (.lor, 1) := by decide +kernel
theorem dX1_shapeWithout_66 : decode cX1_shapeWithout 66 = .ok (.lreturn, 1) := by decide +kernel
theorem dX1_forgetShapes_0 : decode cX1_forgetShapes 0 = .ok (.aload_n 0, 1) := by decide +kernel
theorem dX1_forgetShapes_1 : decode cX1_forgetShapes 1 = .ok (.getfield 15, 3) := by decide +kernel
theorem dX1_forgetShapes_4 : decode cX1_forgetShapes 4 = .ok (.lconst 0, 1) := by decide +kernel
theorem dX1_forgetShapes_5 : decode cX1_forgetShapes 5 = .ok (.invokestatic 44, 3) := by decide +kernel
theorem dX1_forgetShapes_8 : decode cX1_forgetShapes 8 = .ok (.return_, 1) := by decide +kernel
theorem dX1_isNew_0 : decode cX1_isNew 0 = .ok (.lload_n 1, 1) := by decide +kernel
theorem dX1_isNew_1 : decode cX1_isNew 1 = .ok (.lload_n 1, 1) := by decide +kernel
theorem dX1_isNew_2 : decode cX1_isNew 2 = .ok (.bipush 10, 2) := by decide +kernel
theorem dX1_isNew_4 : decode cX1_isNew 4 = .ok (.lushr, 1) := by decide +kernel
theorem dX1_isNew_5 : decode cX1_isNew 5 = .ok (.lxor, 1) := by decide +kernel
theorem dX1_isNew_6 : decode cX1_isNew 6 = .ok (.lload_n 1, 1) := by decide +kernel
theorem dX1_isNew_7 : decode cX1_isNew 7 = .ok (.bipush 23, 2) := by decide +kernel
theorem dX1_isNew_9 : decode cX1_isNew 9 = .ok (.lushr, 1) := by decide +kernel
theorem dX1_isNew_10 : decode cX1_isNew 10 = .ok (.lxor, 1) := by decide +kernel
theorem dX1_isNew_11 : decode cX1_isNew 11 = .ok (.lload_n 1, 1) := by decide +kernel
theorem dX1_isNew_12 : decode cX1_isNew 12 = .ok (.bipush 36, 2) := by decide +kernel
theorem dX1_isNew_14 : decode cX1_isNew 14 = .ok (.lushr, 1) := by decide +kernel
theorem dX1_isNew_15 : decode cX1_isNew 15 = .ok (.lxor, 1) := by decide +kernel
theorem dX1_isNew_16 : decode cX1_isNew 16 = .ok (.lstore_n 3, 1) := by decide +kernel
theorem dX1_isNew_17 : decode cX1_isNew 17 = .ok (.lload_n 3, 1) := by decide +kernel
theorem dX1_isNew_18 : decode cX1_isNew 18 = .ok (.ldc2_w 50, 3) := by decide +kernel
theorem dX1_isNew_21 : decode cX1_isNew 21 = .ok (.land, 1) := by decide +kernel
theorem dX1_isNew_22 : decode cX1_isNew 22 = .ok (.l2i, 1) := by decide +kernel
theorem dX1_isNew_23 : decode cX1_isNew 23 = .ok (.istore 5, 2) := by decide +kernel
theorem dX1_isNew_25 : decode cX1_isNew 25 = .ok (.iconst 0, 1) := by decide +kernel
theorem dX1_isNew_26 : decode cX1_isNew 26 = .ok (.istore 6, 2) := by decide +kernel
theorem dX1_isNew_28 : decode cX1_isNew 28 = .ok (.iload 6, 2) := by decide +kernel
theorem dX1_isNew_30 : decode cX1_isNew 30 = .ok (.sipush 1024, 3) := by decide +kernel
theorem dX1_isNew_33 : decode cX1_isNew 33 = .ok (.if_icmp .ge 55, 3) := by decide +kernel
theorem dX1_isNew_36 : decode cX1_isNew 36 = .ok (.aload_n 0, 1) := by decide +kernel
theorem dX1_isNew_37 : decode cX1_isNew 37 = .ok (.getfield 15, 3) := by decide +kernel
theorem dX1_isNew_40 : decode cX1_isNew 40 = .ok (.iload 5, 2) := by decide +kernel
theorem dX1_isNew_42 : decode cX1_isNew 42 = .ok (.laload, 1) := by decide +kernel
theorem dX1_isNew_43 : decode cX1_isNew 43 = .ok (.lload_n 1, 1) := by decide +kernel
theorem dX1_isNew_44 : decode cX1_isNew 44 = .ok (.lcmp, 1) := by decide +kernel
theorem dX1_isNew_45 : decode cX1_isNew 45 = .ok (.ifCond .ne 5, 3) := by decide +kernel
theorem dX1_isNew_48 : decode cX1_isNew 48 = .ok (.iconst 0, 1) := by decide +kernel
theorem dX1_isNew_49 : decode cX1_isNew 49 = .ok (.ireturn, 1) := by decide +kernel
theorem dX1_isNew_50 : decode cX1_isNew 50 = .ok (.aload_n 0, 1) := by decide +kernel
theorem dX1_isNew_51 : decode cX1_isNew 51 = .ok (.getfield 15, 3) := by decide +kernel
theorem dX1_isNew_54 : decode cX1_isNew 54 = .ok (.iload 5, 2) := by decide +kernel
theorem dX1_isNew_56 : decode cX1_isNew 56 = .ok (.laload, 1) := by decide +kernel
theorem dX1_isNew_57 : decode cX1_isNew 57 = .ok (.lconst 0, 1) := by decide +kernel
theorem dX1_isNew_58 : decode cX1_isNew 58 = .ok (.lcmp, 1) := by decide +kernel
theorem dX1_isNew_59 : decode cX1_isNew 59 = .ok (.ifCond .ne 13, 3) := by decide +kernel
theorem dX1_isNew_62 : decode cX1_isNew 62 = .ok (.aload_n 0, 1) := by decide +kernel
theorem dX1_isNew_63 : decode cX1_isNew 63 = .ok (.getfield 15, 3) := by decide +kernel
theorem dX1_isNew_66 : decode cX1_isNew 66 = .ok (.iload 5, 2) := by decide +kernel
theorem dX1_isNew_68 : decode cX1_isNew 68 = .ok (.lload_n 1, 1) := by decide +kernel
theorem dX1_isNew_69 : decode cX1_isNew 69 = .ok (.lastore, 1) := by decide +kernel
theorem dX1_isNew_70 : decode cX1_isNew 70 = .ok (.iconst 1, 1) := by decide +kernel
theorem dX1_isNew_71 : decode cX1_isNew 71 = .ok (.ireturn, 1) := by decide +kernel
theorem dX1_isNew_72 : decode cX1_isNew 72 = .ok (.iload 5, 2) := by decide +kernel
theorem dX1_isNew_74 : decode cX1_isNew 74 = .ok (.iconst 1, 1) := by decide +kernel
theorem dX1_isNew_75 : decode cX1_isNew 75 = .ok (.iadd, 1) := by decide +kernel
theorem dX1_isNew_76 : decode cX1_isNew 76 = .ok (.sipush 1023, 3) := by decide +kernel
theorem dX1_isNew_79 : decode cX1_isNew 79 = .ok (.iand, 1) := by decide +kernel
theorem dX1_isNew_80 : decode cX1_isNew 80 = .ok (.istore 5, 2) := by decide +kernel
theorem dX1_isNew_82 : decode cX1_isNew 82 = .ok (.iinc 6 1, 3) := by decide +kernel
theorem dX1_isNew_85 : decode cX1_isNew 85 = .ok (.goto (-57), 3) := by decide +kernel
theorem dX1_isNew_88 : decode cX1_isNew 88 = .ok (.iconst 0, 1) := by decide +kernel
theorem dX1_isNew_89 : decode cX1_isNew 89 = .ok (.ireturn, 1) := by decide +kernel
theorem dX2_init_0 : decode cX2_init 0 = .ok (.aload_n 0, 1) := by decide +kernel
theorem dX2_init_1 : decode cX2_init 1 = .ok (.invokespecial 1, 3) := by decide +kernel
theorem dX2_init_4 : decode cX2_init 4 = .ok (.aload_n 0, 1) := by decide +kernel
theorem dX2_init_5 : decode cX2_init 5 = .ok (.iconst 0, 1) := by decide +kernel
theorem dX2_init_6 : decode cX2_init 6 = .ok (.putfield 7, 3) := by decide +kernel
theorem dX2_init_9 : decode cX2_init 9 = .ok (.aload_n 0, 1) := by decide +kernel
theorem dX2_init_10 : decode cX2_init 10 = .ok (.iload_n 1, 1) := by decide +kernel
theorem dX2_init_11 : decode cX2_init 11 = .ok (.newarray .long, 2) := by decide +kernel
theorem dX2_init_13 : decode cX2_init 13 = .ok (.putfield 13, 3) := by decide +kernel
theorem dX2_init_16 : decode cX2_init 16 = .ok (.aload_n 0, 1) := by decide +kernel
theorem dX2_init_17 : decode cX2_init 17 = .ok (.iload_n 1, 1) := by decide +kernel
theorem dX2_init_18 : decode cX2_init 18 = .ok (.newarray .int, 2) := by decide +kernel
theorem dX2_init_20 : decode cX2_init 20 = .ok (.putfield 17, 3) := by decide +kernel
theorem dX2_init_23 : decode cX2_init 23 = .ok (.return_, 1) := by decide +kernel
theorem dX2_empty_0 : decode cX2_empty 0 = .ok (.aload_n 0, 1) := by decide +kernel
theorem dX2_empty_1 : decode cX2_empty 1 = .ok (.iconst 0, 1) := by decide +kernel
theorem dX2_empty_2 : decode cX2_empty 2 = .ok (.putfield 7, 3) := by decide +kernel
theorem dX2_empty_5 : decode cX2_empty 5 = .ok (.aload_n 0, 1) := by decide +kernel
theorem dX2_empty_6 : decode cX2_empty 6 = .ok (.getfield 13, 3) := by decide +kernel
theorem dX2_empty_9 : decode cX2_empty 9 = .ok (.lconst 0, 1) := by decide +kernel
theorem dX2_empty_10 : decode cX2_empty 10 = .ok (.invokestatic 21, 3) := by decide +kernel
theorem dX2_empty_13 : decode cX2_empty 13 = .ok (.return_, 1) := by decide +kernel
theorem dX2_push_0 : decode cX2_push 0 = .ok (.aload_n 0, 1) := by decide +kernel
theorem dX2_push_1 : decode cX2_push 1 = .ok (.getfield 7, 3) := by decide +kernel
theorem dX2_push_4 : decode cX2_push 4 = .ok (.aload_n 0, 1) := by decide +kernel
theorem dX2_push_5 : decode cX2_push 5 = .ok (.getfield 13, 3) := by decide +kernel
theorem dX2_push_8 : decode cX2_push 8 = .ok (.arraylength, 1) := by decide +kernel
theorem dX2_push_9 : decode cX2_push 9 = .ok (.if_icmp .lt 65, 3) := by decide +kernel
theorem dX2_push_12 : decode cX2_push 12 = .ok (.iconst 1, 1) := by decide +kernel
theorem dX2_push_13 : decode cX2_push 13 = .ok (.istore 4, 2) := by decide +kernel
theorem dX2_push_15 : decode cX2_push 15 = .ok (.iload 4, 2) := by decide +kernel
theorem dX2_push_17 : decode cX2_push 17 = .ok (.aload_n 0, 1) := by decide +kernel
theorem dX2_push_18 : decode cX2_push 18 = .ok (.getfield 13, 3) := by decide +kernel
theorem dX2_push_21 : decode cX2_push 21 = .ok (.arraylength, 1) := by decide +kernel
theorem dX2_push_22 : decode cX2_push 22 = .ok (.if_icmp .ge 41, 3) := by decide +kernel
theorem dX2_push_25 : decode cX2_push 25 = .ok (.aload_n 0, 1) := by decide +kernel
theorem dX2_push_26 : decode cX2_push 26 = .ok (.getfield 13, 3) := by decide +kernel
theorem dX2_push_29 : decode cX2_push 29 = .ok (.iload 4, 2) := by decide +kernel
theorem dX2_push_31 : decode cX2_push 31 = .ok (.iconst 1, 1) := by decide +kernel
theorem dX2_push_32 : decode cX2_push 32 = .ok (.isub, 1) := by decide +kernel
theorem dX2_push_33 : decode cX2_push 33 = .ok (.aload_n 0, 1) := by decide +kernel
theorem dX2_push_34 : decode cX2_push 34 = .ok (.getfield 13, 3) := by decide +kernel
theorem dX2_push_37 : decode cX2_push 37 = .ok (.iload 4, 2) := by decide +kernel
theorem dX2_push_39 : decode cX2_push 39 = .ok (.laload, 1) := by decide +kernel
theorem dX2_push_40 : decode cX2_push 40 = .ok (.lastore, 1) := by decide +kernel
theorem dX2_push_41 : decode cX2_push 41 = .ok (.aload_n 0, 1) := by decide +kernel
theorem dX2_push_42 : decode cX2_push 42 = .ok (.getfield 17, 3) := by decide +kernel
theorem dX2_push_45 : decode cX2_push 45 = .ok (.iload 4, 2) := by decide +kernel
theorem dX2_push_47 : decode cX2_push 47 = .ok (.iconst 1, 1) := by decide +kernel
theorem dX2_push_48 : decode cX2_push 48 = .ok (.isub, 1) := by decide +kernel
theorem dX2_push_49 : decode cX2_push 49 = .ok (.aload_n 0, 1) := by decide +kernel
theorem dX2_push_50 : decode cX2_push 50 = .ok (.getfield 17, 3) := by decide +kernel
theorem dX2_push_53 : decode cX2_push 53 = .ok (.iload 4, 2) := by decide +kernel
theorem dX2_push_55 : decode cX2_push 55 = .ok (.iaload, 1) := by decide +kernel
theorem dX2_push_56 : decode cX2_push 56 = .ok (.iastore, 1) := by decide +kernel
theorem dX2_push_57 : decode cX2_push 57 = .ok (.iinc 4 1, 3) := by decide +kernel
theorem dX2_push_60 : decode cX2_push 60 = .ok (.goto (-45), 3) := by decide +kernel
theorem dX2_push_63 : decode cX2_push 63 = .ok (.aload_n 0, 1) := by decide +kernel
theorem dX2_push_64 : decode cX2_push 64 = .ok (.aload_n 0, 1) := by decide +kernel
theorem dX2_push_65 : decode cX2_push 65 = .ok (.getfield 13, 3) := by decide +kernel
theorem dX2_push_68 : decode cX2_push 68 = .ok (.arraylength, 1) := by decide +kernel
theorem dX2_push_69 : decode cX2_push 69 = .ok (.iconst 1, 1) := by decide +kernel
theorem dX2_push_70 : decode cX2_push 70 = .ok (.isub, 1) := by decide +kernel
theorem dX2_push_71 : decode cX2_push 71 = .ok (.putfield 7, 3) := by decide +kernel
theorem dX2_push_74 : decode cX2_push 74 = .ok (.aload_n 0, 1) := by decide +kernel
theorem dX2_push_75 : decode cX2_push 75 = .ok (.aload_n 0, 1) := by decide +kernel
theorem dX2_push_76 : decode cX2_push 76 = .ok (.getfield 7, 3) := by decide +kernel
theorem dX2_push_79 : decode cX2_push 79 = .ok (.lload_n 1, 1) := by decide +kernel
theorem dX2_push_80 : decode cX2_push 80 = .ok (.iload_n 3, 1) := by decide +kernel
theorem dX2_push_81 : decode cX2_push 81 = .ok (.invokevirtual 27, 3) := by decide +kernel
theorem dX2_push_84 : decode cX2_push 84 = .ok (.aload_n 0, 1) := by decide +kernel
theorem dX2_push_85 : decode cX2_push 85 = .ok (.dup, 1) := by decide +kernel
theorem dX2_push_86 : decode cX2_push 86 = .ok (.getfield 7, 3) := by decide +kernel
theorem dX2_push_89 : decode cX2_push 89 = .ok (.iconst 1, 1) := by decide +kernel
theorem dX2_push_90 : decode cX2_push 90 = .ok (.iadd, 1) := by decide +kernel
theorem dX2_push_91 : decode cX2_push 91 = .ok (.putfield 7, 3) := by decide +kernel
theorem dX2_push_94 : decode cX2_push 94 = .ok (.return_, 1) := by decide +kernel
theorem dX2_put_0 : decode cX2_put 0 = .ok (.iload_n 1, 1) := by decide +kernel
theorem dX2_put_1 : decode cX2_put 1 = .ok (.ifCond .lt 27, 3) := by decide +kernel
theorem dX2_put_4 : decode cX2_put 4 = .ok (.iload_n 1, 1) := by decide +kernel
theorem dX2_put_5 : decode cX2_put 5 = .ok (.aload_n 0, 1) := by decide +kernel
theorem dX2_put_6 : decode cX2_put 6 = .ok (.getfield 13, 3) := by decide +kernel
theorem dX2_put_9 : decode cX2_put 9 = .ok (.arraylength, 1) := by decide +kernel
theorem dX2_put_10 : decode cX2_put 10 = .ok (.if_icmp .ge 18, 3) := by decide +kernel
theorem dX2_put_13 : decode cX2_put 13 = .ok (.aload_n 0, 1) := by decide +kernel
theorem dX2_put_14 : decode cX2_put 14 = .ok (.getfield 13, 3) := by decide +kernel
theorem dX2_put_17 : decode cX2_put 17 = .ok (.iload_n 1, 1) := by decide +kernel
theorem dX2_put_18 : decode cX2_put 18 = .ok (.lload_n 2, 1) := by decide +kernel
theorem dX2_put_19 : decode cX2_put 19 = .ok (.lastore, 1) := by decide +kernel
theorem dX2_put_20 : decode cX2_put 20 = .ok (.aload_n 0, 1) := by decide +kernel
theorem dX2_put_21 : decode cX2_put 21 = .ok (.getfield 17, 3) := by decide +kernel
theorem dX2_put_24 : decode cX2_put 24 = .ok (.iload_n 1, 1) := by decide +kernel
theorem dX2_put_25 : decode cX2_put 25 = .ok (.iload 4, 2) := by decide +kernel
theorem dX2_put_27 : decode cX2_put 27 = .ok (.iastore, 1) := by decide +kernel
theorem dX2_put_28 : decode cX2_put 28 = .ok (.return_, 1) := by decide +kernel
theorem dX2_holds_0 : decode cX2_holds 0 = .ok (.iload_n 1, 1) := by decide +kernel
theorem dX2_holds_1 : decode cX2_holds 1 = .ok (.ifCond .lt 27, 3) := by decide +kernel
theorem dX2_holds_4 : decode cX2_holds 4 = .ok (.iload_n 1, 1) := by decide +kernel
theorem dX2_holds_5 : decode cX2_holds 5 = .ok (.aload_n 0, 1) := by decide +kernel
theorem dX2_holds_6 : decode cX2_holds 6 = .ok (.getfield 13, 3) := by decide +kernel
theorem dX2_holds_9 : decode cX2_holds 9 = .ok (.arraylength, 1) := by decide +kernel
theorem dX2_holds_10 : decode cX2_holds 10 = .ok (.if_icmp .ge 18, 3) := by decide +kernel
theorem dX2_holds_13 : decode cX2_holds 13 = .ok (.aload_n 0, 1) := by decide +kernel
theorem dX2_holds_14 : decode cX2_holds 14 = .ok (.getfield 13, 3) := by decide +kernel
theorem dX2_holds_17 : decode cX2_holds 17 = .ok (.iload_n 1, 1) := by decide +kernel
theorem dX2_holds_18 : decode cX2_holds 18 = .ok (.laload, 1) := by decide +kernel
theorem dX2_holds_19 : decode cX2_holds 19 = .ok (.lconst 0, 1) := by decide +kernel
theorem dX2_holds_20 : decode cX2_holds 20 = .ok (.lcmp, 1) := by decide +kernel
theorem dX2_holds_21 : decode cX2_holds 21 = .ok (.ifCond .eq 7, 3) := by decide +kernel
theorem dX2_holds_24 : decode cX2_holds 24 = .ok (.iconst 1, 1) := by decide +kernel
theorem dX2_holds_25 : decode cX2_holds 25 = .ok (.goto 4, 3) := by decide +kernel
theorem dX2_holds_28 : decode cX2_holds 28 = .ok (.iconst 0, 1) := by decide +kernel
theorem dX2_holds_29 : decode cX2_holds 29 = .ok (.ireturn, 1) := by decide +kernel
theorem dX2_bringBack_0 : decode cX2_bringBack 0 = .ok (.aload_n 0, 1) := by decide +kernel
theorem dX2_bringBack_1 : decode cX2_bringBack 1 = .ok (.iload_n 1, 1) := by decide +kernel
theorem dX2_bringBack_2 : decode cX2_bringBack 2 = .ok (.invokevirtual 31, 3) := by decide +kernel
theorem dX2_bringBack_5 : decode cX2_bringBack 5 = .ok (.ifCond .eq 23, 3) := by decide +kernel
theorem dX2_bringBack_8 : decode cX2_bringBack 8 = .ok (.aload_n 2, 1) := by decide +kernel
theorem dX2_bringBack_9 : decode cX2_bringBack 9 = .ok (.aload_n 0, 1) := by decide +kernel
theorem dX2_bringBack_10 : decode cX2_bringBack 10 = .ok (.getfield 13, 3) := by decide +kernel
theorem dX2_bringBack_13 : decode cX2_bringBack 13 = .ok (.iload_n 1, 1) := by decide +kernel
theorem dX2_bringBack_14 : decode cX2_bringBack 14 = .ok (.laload, 1) := by decide +kernel
theorem dX2_bringBack_15 : decode cX2_bringBack 15 = .ok (.invokevirtual 35, 3) := by decide +kernel
theorem dX2_bringBack_18 : decode cX2_bringBack 18 = .ok (.aload_n 2, 1) := by decide +kernel
theorem dX2_bringBack_19 : decode cX2_bringBack 19 = .ok (.aload_n 0, 1) := by decide +kernel
theorem dX2_bringBack_20 : decode cX2_bringBack 20 = .ok (.getfield 17, 3) := by decide +kernel
theorem dX2_bringBack_23 : decode cX2_bringBack 23 = .ok (.iload_n 1, 1) := by decide +kernel
theorem dX2_bringBack_24 : decode cX2_bringBack 24 = .ok (.iaload, 1) := by decide +kernel
theorem dX2_bringBack_25 : decode cX2_bringBack 25 = .ok (.putfield 41, 3) := by decide +kernel
theorem dX2_bringBack_28 : decode cX2_bringBack 28 = .ok (.return_, 1) := by decide +kernel
theorem dX3_init_0 : decode cX3_init 0 = .ok (.aload_n 0, 1) := by decide +kernel
theorem dX3_init_1 : decode cX3_init 1 = .ok (.invokespecial 3, 3) := by decide +kernel
theorem dX3_init_4 : decode cX3_init 4 = .ok (.aload_n 0, 1) := by decide +kernel
theorem dX3_init_5 : decode cX3_init 5 = .ok (.bipush 8, 2) := by decide +kernel
theorem dX3_init_7 : decode cX3_init 7 = .ok (.newarray .long, 2) := by decide +kernel
theorem dX3_init_9 : decode cX3_init 9 = .ok (.putfield 9, 3) := by decide +kernel
theorem dX3_init_12 : decode cX3_init 12 = .ok (.aload_n 0, 1) := by decide +kernel
theorem dX3_init_13 : decode cX3_init 13 = .ok (.iconst 0, 1) := by decide +kernel
theorem dX3_init_14 : decode cX3_init 14 = .ok (.putfield 15, 3) := by decide +kernel
theorem dX3_init_17 : decode cX3_init 17 = .ok (.return_, 1) := by decide +kernel
theorem dX3_clear_0 : decode cX3_clear 0 = .ok (.aload_n 0, 1) := by decide +kernel
theorem dX3_clear_1 : decode cX3_clear 1 = .ok (.iconst 0, 1) := by decide +kernel
theorem dX3_clear_2 : decode cX3_clear 2 = .ok (.putfield 15, 3) := by decide +kernel
theorem dX3_clear_5 : decode cX3_clear 5 = .ok (.return_, 1) := by decide +kernel
theorem dX3_add_0 : decode cX3_add 0 = .ok (.aload_n 0, 1) := by decide +kernel
theorem dX3_add_1 : decode cX3_add 1 = .ok (.getfield 15, 3) := by decide +kernel
theorem dX3_add_4 : decode cX3_add 4 = .ok (.aload_n 0, 1) := by decide +kernel
theorem dX3_add_5 : decode cX3_add 5 = .ok (.getfield 9, 3) := by decide +kernel
theorem dX3_add_8 : decode cX3_add 8 = .ok (.arraylength, 1) := by decide +kernel
theorem dX3_add_9 : decode cX3_add 9 = .ok (.if_icmp .ge 23, 3) := by decide +kernel
theorem dX3_add_12 : decode cX3_add 12 = .ok (.aload_n 0, 1) := by decide +kernel
theorem dX3_add_13 : decode cX3_add 13 = .ok (.getfield 9, 3) := by decide +kernel
theorem dX3_add_16 : decode cX3_add 16 = .ok (.aload_n 0, 1) := by decide +kernel
theorem dX3_add_17 : decode cX3_add 17 = .ok (.getfield 15, 3) := by decide +kernel
theorem dX3_add_20 : decode cX3_add 20 = .ok (.lload_n 1, 1) := by decide +kernel
theorem dX3_add_21 : decode cX3_add 21 = .ok (.lastore, 1) := by decide +kernel
theorem dX3_add_22 : decode cX3_add 22 = .ok (.aload_n 0, 1) := by decide +kernel
theorem dX3_add_23 : decode cX3_add 23 = .ok (.dup, 1) := by decide +kernel
theorem dX3_add_24 : decode cX3_add 24 = .ok (.getfield 15, 3) := by decide +kernel
theorem dX3_add_27 : decode cX3_add 27 = .ok (.iconst 1, 1) := by decide +kernel
theorem dX3_add_28 : decode cX3_add 28 = .ok (.iadd, 1) := by decide +kernel
theorem dX3_add_29 : decode cX3_add 29 = .ok (.putfield 15, 3) := by decide +kernel
theorem dX3_add_32 : decode cX3_add 32 = .ok (.return_, 1) := by decide +kernel
theorem dX3_tell_0 : decode cX3_tell 0 = .ok (.aload_n 0, 1) := by decide +kernel
theorem dX3_tell_1 : decode cX3_tell 1 = .ok (.iconst 0, 1) := by decide +kernel
theorem dX3_tell_2 : decode cX3_tell 2 = .ok (.putfield 15, 3) := by decide +kernel
theorem dX3_tell_5 : decode cX3_tell 5 = .ok (.aload_n 0, 1) := by decide +kernel
theorem dX3_tell_6 : decode cX3_tell 6 = .ok (.lload_n 1, 1) := by decide +kernel
theorem dX3_tell_7 : decode cX3_tell 7 = .ok (.invokevirtual 19, 3) := by decide +kernel
theorem dX3_tell_10 : decode cX3_tell 10 = .ok (.return_, 1) := by decide +kernel
theorem dX3_tell__0 : decode cX3_tell_ 0 = .ok (.aload_n 0, 1) := by decide +kernel
theorem dX3_tell__1 : decode cX3_tell_ 1 = .ok (.iconst 0, 1) := by decide +kernel
theorem dX3_tell__2 : decode cX3_tell_ 2 = .ok (.putfield 15, 3) := by decide +kernel
theorem dX3_tell__5 : decode cX3_tell_ 5 = .ok (.aload_n 0, 1) := by decide +kernel
theorem dX3_tell__6 : decode cX3_tell_ 6 = .ok (.lload_n 1, 1) := by decide +kernel
theorem dX3_tell__7 : decode cX3_tell_ 7 = .ok (.invokevirtual 19, 3) := by decide +kernel
theorem dX3_tell__10 : decode cX3_tell_ 10 = .ok (.aload_n 0, 1) := by decide +kernel
theorem dX3_tell__11 : decode cX3_tell_ 11 = .ok (.lload_n 3, 1) := by decide +kernel
theorem dX3_tell__12 : decode cX3_tell_ 12 = .ok (.invokevirtual 19, 3) := by decide +kernel
theorem dX3_tell__15 : decode cX3_tell_ 15 = .ok (.return_, 1) := by decide +kernel
theorem dX4_init_0 : decode cX4_init 0 = .ok (.aload_n 0, 1) := by decide +kernel
theorem dX4_init_1 : decode cX4_init 1 = .ok (.invokespecial 5, 3) := by decide +kernel
theorem dX4_init_4 : decode cX4_init 4 = .ok (.aload_n 0, 1) := by decide +kernel
theorem dX4_init_5 : decode cX4_init 5 = .ok (.bipush 40, 2) := by decide +kernel
theorem dX4_init_7 : decode cX4_init 7 = .ok (.newarray .int, 2) := by decide +kernel
theorem dX4_init_9 : decode cX4_init 9 = .ok (.putfield 11, 3) := by decide +kernel
theorem dX4_init_12 : decode cX4_init 12 = .ok (.aload_n 0, 1) := by decide +kernel
theorem dX4_init_13 : decode cX4_init 13 = .ok (.iconst 0, 1) := by decide +kernel
theorem dX4_init_14 : decode cX4_init 14 = .ok (.putfield 15, 3) := by decide +kernel
theorem dX4_init_17 : decode cX4_init 17 = .ok (.aload_n 0, 1) := by decide +kernel
theorem dX4_init_18 : decode cX4_init 18 = .ok (.bipush 40, 2) := by decide +kernel
theorem dX4_init_20 : decode cX4_init 20 = .ok (.newarray .int, 2) := by decide +kernel
theorem dX4_init_22 : decode cX4_init 22 = .ok (.putfield 19, 3) := by decide +kernel
theorem dX4_init_25 : decode cX4_init 25 = .ok (.aload_n 0, 1) := by decide +kernel
theorem dX4_init_26 : decode cX4_init 26 = .ok (.iconst 5, 1) := by decide +kernel
theorem dX4_init_27 : decode cX4_init 27 = .ok (.newarray .boolean, 2) := by decide +kernel
theorem dX4_init_29 : decode cX4_init 29 = .ok (.putfield 22, 3) := by decide +kernel
theorem dX4_init_32 : decode cX4_init 32 = .ok (.aload_n 0, 1) := by decide +kernel
theorem dX4_init_33 : decode cX4_init 33 = .ok (.bipush 40, 2) := by decide +kernel
theorem dX4_init_35 : decode cX4_init 35 = .ok (.newarray .int, 2) := by decide +kernel
theorem dX4_init_37 : decode cX4_init 37 = .ok (.putfield 26, 3) := by decide +kernel
theorem dX4_init_40 : decode cX4_init 40 = .ok (.aload_n 0, 1) := by decide +kernel
theorem dX4_init_41 : decode cX4_init 41 = .ok (.invokevirtual 29, 3) := by decide +kernel
theorem dX4_init_44 : decode cX4_init 44 = .ok (.return_, 1) := by decide +kernel
theorem dX4_become_0 : decode cX4_become 0 = .ok (.aload_n 0, 1) := by decide +kernel
theorem dX4_become_1 : decode cX4_become 1 = .ok (.aload_n 1, 1) := by decide +kernel
theorem dX4_become_2 : decode cX4_become 2 = .ok (.getfield 15, 3) := by decide +kernel
theorem dX4_become_5 : decode cX4_become 5 = .ok (.putfield 15, 3) := by decide +kernel
theorem dX4_become_8 : decode cX4_become 8 = .ok (.aload_n 1, 1) := by decide +kernel
theorem dX4_become_9 : decode cX4_become 9 = .ok (.getfield 11, 3) := by decide +kernel
theorem dX4_become_12 : decode cX4_become 12 = .ok (.iconst 0, 1) := by decide +kernel
theorem dX4_become_13 : decode cX4_become 13 = .ok (.aload_n 0, 1) := by decide +kernel
theorem dX4_become_14 : decode cX4_become 14 = .ok (.getfield 11, 3) := by decide +kernel
theorem dX4_become_17 : decode cX4_become 17 = .ok (.iconst 0, 1) := by decide +kernel
theorem dX4_become_18 : decode cX4_become 18 = .ok (.bipush 40, 2) := by decide +kernel
theorem dX4_become_20 : decode cX4_become 20 = .ok (.invokestatic 32, 3) := by decide +kernel
theorem dX4_become_23 : decode cX4_become 23 = .ok (.return_, 1) := by decide +kernel
theorem dX4_readFrom_0 : decode cX4_readFrom 0 = .ok (.aload_n 0, 1) := by decide +kernel
theorem dX4_readFrom_1 : decode cX4_readFrom 1 = .ok (.iconst 0, 1) := by decide +kernel
theorem dX4_readFrom_2 : decode cX4_readFrom 2 = .ok (.putfield 15, 3) := by decide +kernel
theorem dX4_readFrom_5 : decode cX4_readFrom 5 = .ok (.aload_n 0, 1) := by decide +kernel
theorem dX4_readFrom_6 : decode cX4_readFrom 6 = .ok (.iconst 0, 1) := by decide +kernel
theorem dX4_readFrom_7 : decode cX4_readFrom 7 = .ok (.putfield 38, 3) := by decide +kernel
theorem dX4_readFrom_10 : decode cX4_readFrom 10 = .ok (.aload_n 0, 1) := by decide +kernel
theorem dX4_readFrom_11 : decode cX4_readFrom 11 = .ok (.iconst 0, 1) := by decide +kernel
theorem dX4_readFrom_12 : decode cX4_readFrom 12 = .ok (.putfield 41, 3) := by decide +kernel
theorem dX4_readFrom_15 : decode cX4_readFrom 15 = .ok (.aload_n 0, 1) := by decide +kernel
theorem dX4_readFrom_16 : decode cX4_readFrom 16 = .ok (.getfield 22, 3) := by decide +kernel
theorem dX4_readFrom_19 : decode cX4_readFrom 19 = .ok (.iconst 0, 1) := by decide +kernel
theorem dX4_readFrom_20 : decode cX4_readFrom 20 = .ok (.iconst 0, 1) := by decide +kernel
theorem dX4_readFrom_21 : decode cX4_readFrom 21 = .ok (.bastore, 1) := by decide +kernel
theorem dX4_readFrom_22 : decode cX4_readFrom 22 = .ok (.aload_n 0, 1) := by decide +kernel
theorem dX4_readFrom_23 : decode cX4_readFrom 23 = .ok (.iconst 1, 1) := by decide +kernel
theorem dX4_readFrom_24 : decode cX4_readFrom 24 = .ok (.putfield 44, 3) := by decide +kernel
theorem dX4_readFrom_27 : decode cX4_readFrom 27 = .ok (.aload_n 1, 1) := by decide +kernel
theorem dX4_readFrom_28 : decode cX4_readFrom 28 = .ok (.getfield 48, 3) := by decide +kernel
theorem dX4_readFrom_31 : decode cX4_readFrom 31 = .ok (.ifCond .ne 9, 3) := by decide +kernel
theorem dX4_readFrom_34 : decode cX4_readFrom 34 = .ok (.aload_n 0, 1) := by decide +kernel
theorem dX4_readFrom_35 : decode cX4_readFrom 35 = .ok (.invokevirtual 29, 3) := by decide +kernel
theorem dX4_readFrom_38 : decode cX4_readFrom 38 = .ok (.iconst (-1), 1) := by decide +kernel
theorem dX4_readFrom_39 : decode cX4_readFrom 39 = .ok (.ireturn, 1) := by decide +kernel
theorem dX4_readFrom_40 : decode cX4_readFrom 40 = .ok (.aload_n 1, 1) := by decide +kernel
theorem dX4_readFrom_41 : decode cX4_readFrom 41 = .ok (.getfield 48, 3) := by decide +kernel
theorem dX4_readFrom_44 : decode cX4_readFrom 44 = .ok (.bipush 40, 2) := by decide +kernel
theorem dX4_readFrom_46 : decode cX4_readFrom 46 = .ok (.invokestatic 51, 3) := by decide +kernel
theorem dX4_readFrom_49 : decode cX4_readFrom 49 = .ok (.istore_n 2, 1) := by decide +kernel
theorem dX4_readFrom_50 : decode cX4_readFrom 50 = .ok (.iconst 0, 1) := by decide +kernel
theorem dX4_readFrom_51 : decode cX4_readFrom 51 = .ok (.istore_n 3, 1) := by decide +kernel
theorem dX4_readFrom_52 : decode cX4_readFrom 52 = .ok (.iload_n 3, 1) := by decide +kernel
theorem dX4_readFrom_53 : decode cX4_readFrom 53 = .ok (.iload_n 2, 1) := by decide +kernel
theorem dX4_readFrom_54 : decode cX4_readFrom 54 = .ok (.if_icmp .ge 46, 3) := by decide +kernel
theorem dX4_readFrom_57 : decode cX4_readFrom 57 = .ok (.aload_n 1, 1) := by decide +kernel
theorem dX4_readFrom_58 : decode cX4_readFrom 58 = .ok (.iload_n 3, 1) := by decide +kernel
theorem dX4_readFrom_59 : decode cX4_readFrom 59 = .ok (.invokevirtual 57, 3) := by decide +kernel
theorem dX4_readFrom_62 : decode cX4_readFrom 62 = .ok (.istore 4, 2) := by decide +kernel
theorem dX4_readFrom_64 : decode cX4_readFrom 64 = .ok (.aload_n 0, 1) := by decide +kernel
theorem dX4_readFrom_65 : decode cX4_readFrom 65 = .ok (.getfield 44, 3) := by decide +kernel
theorem dX4_readFrom_68 : decode cX4_readFrom 68 = .ok (.ifCond .eq 15, 3) := by decide +kernel
theorem dX4_readFrom_71 : decode cX4_readFrom 71 = .ok (.aload_n 0, 1) := by decide +kernel
theorem dX4_readFrom_72 : decode cX4_readFrom 72 = .ok (.iload 4, 2) := by decide +kernel
theorem dX4_readFrom_74 : decode cX4_readFrom 74 = .ok (.invokevirtual 61, 3) := by decide +kernel
theorem dX4_readFrom_77 : decode cX4_readFrom 77 = .ok (.ifCond .ne 17, 3) := by decide +kernel
theorem dX4_readFrom_80 : decode cX4_readFrom 80 = .ok (.goto 12, 3) := by decide +kernel
theorem dX4_readFrom_83 : decode cX4_readFrom 83 = .ok (.aload_n 0, 1) := by decide +kernel
theorem dX4_readFrom_84 : decode cX4_readFrom 84 = .ok (.iload 4, 2) := by decide +kernel
theorem dX4_readFrom_86 : decode cX4_readFrom 86 = .ok (.invokevirtual 65, 3) := by decide +kernel
theorem dX4_readFrom_89 : decode cX4_readFrom 89 = .ok (.ifCond .ne 5, 3) := by decide +kernel
theorem dX4_readFrom_92 : decode cX4_readFrom 92 = .ok (.iload_n 3, 1) := by decide +kernel
theorem dX4_readFrom_93 : decode cX4_readFrom 93 = .ok (.ireturn, 1) := by decide +kernel
theorem dX4_readFrom_94 : decode cX4_readFrom 94 = .ok (.iinc 3 1, 3) := by decide +kernel
theorem dX4_readFrom_97 : decode cX4_readFrom 97 = .ok (.goto (-45), 3) := by decide +kernel
theorem dX4_readFrom_100 : decode cX4_readFrom 100 = .ok (.aload_n 1, 1) := by decide +kernel
theorem dX4_readFrom_101 : decode cX4_readFrom 101 = .ok (.getfield 48, 3) := by decide +kernel
theorem dX4_readFrom_104 : decode cX4_readFrom 104 = .ok (.bipush 40, 2) := by decide +kernel
theorem dX4_readFrom_106 : decode cX4_readFrom 106 = .ok (.if_icmp .le 6, 3) := by decide +kernel
theorem dX4_readFrom_109 : decode cX4_readFrom 109 = .ok (.bipush 40, 2) := by decide +kernel
theorem dX4_readFrom_111 : decode cX4_readFrom 111 = .ok (.ireturn, 1) := by decide +kernel
theorem dX4_readFrom_112 : decode cX4_readFrom 112 = .ok (.aload_n 0, 1) := by decide +kernel
theorem dX4_readFrom_113 : decode cX4_readFrom 113 = .ok (.getfield 44, 3) := by decide +kernel
theorem dX4_readFrom_116 : decode cX4_readFrom 116 = .ok (.ifCond .ne 10, 3) := by decide +kernel
theorem dX4_readFrom_119 : decode cX4_readFrom 119 = .ok (.aload_n 0, 1) := by decide +kernel
theorem dX4_readFrom_120 : decode cX4_readFrom 120 = .ok (.getfield 41, 3) := by decide +kernel
theorem dX4_readFrom_123 : decode cX4_readFrom 123 = .ok (.ifCond .le 8, 3) := by decide +kernel
theorem dX4_readFrom_126 : decode cX4_readFrom 126 = .ok (.aload_n 1, 1) := by decide +kernel
theorem dX4_readFrom_127 : decode cX4_readFrom 127 = .ok (.getfield 48, 3) := by decide +kernel
theorem dX4_readFrom_130 : decode cX4_readFrom 130 = .ok (.ireturn, 1) := by decide +kernel
theorem dX4_readFrom_131 : decode cX4_readFrom 131 = .ok (.aload_n 0, 1) := by decide +kernel
theorem dX4_readFrom_132 : decode cX4_readFrom 132 = .ok (.iconst 1, 1) := by decide +kernel
theorem dX4_readFrom_133 : decode cX4_readFrom 133 = .ok (.invokevirtual 68, 3) := by decide +kernel
theorem dX4_readFrom_136 : decode cX4_readFrom 136 = .ok (.iconst (-1), 1) := by decide +kernel
theorem dX4_readFrom_137 : decode cX4_readFrom 137 = .ok (.ireturn, 1) := by decide +kernel
theorem dX4_putPlainRule_0 : decode cX4_putPlainRule 0 = .ok (.aload_n 0, 1) := by decide +kernel
theorem dX4_putPlainRule_1 : decode cX4_putPlainRule 1 = .ok (.sipush 1099, 3) := by decide +kernel
theorem dX4_putPlainRule_4 : decode cX4_putPlainRule 4 = .ok (.invokevirtual 72, 3) := by decide +kernel
theorem dX4_putPlainRule_7 : decode cX4_putPlainRule 7 = .ok (.aload_n 0, 1) := by decide +kernel
theorem dX4_putPlainRule_8 : decode cX4_putPlainRule 8 = .ok (.sipush 1105, 3) := by decide +kernel
theorem dX4_putPlainRule_11 : decode cX4_putPlainRule 11 = .ok (.invokevirtual 72, 3) := by decide +kernel
theorem dX4_putPlainRule_14 : decode cX4_putPlainRule 14 = .ok (.aload_n 0, 1) := by decide +kernel
theorem dX4_putPlainRule_15 : decode cX4_putPlainRule 15 = .ok (.sipush 1045, 3) := by decide +kernel
theorem dX4_putPlainRule_18 : decode cX4_putPlainRule 18 = .ok (.invokevirtual 72, 3) := by decide +kernel
theorem dX4_putPlainRule_21 : decode cX4_putPlainRule 21 = .ok (.return_, 1) := by decide +kernel
theorem dX4_takesThing_0 : decode cX4_takesThing 0 = .ok (.iload_n 1, 1) := by decide +kernel
theorem dX4_takesThing_1 : decode cX4_takesThing 1 = .ok (.bipush 45, 2) := by decide +kernel
theorem dX4_takesThing_3 : decode cX4_takesThing 3 = .ok (.if_icmp .ne 12, 3) := by decide +kernel
theorem dX4_takesThing_6 : decode cX4_takesThing 6 = .ok (.aload_n 0, 1) := by decide +kernel
theorem dX4_takesThing_7 : decode cX4_takesThing 7 = .ok (.sipush 1256, 3) := by decide +kernel
theorem dX4_takesThing_10 : decode cX4_takesThing 10 = .ok (.invokevirtual 75, 3) := by decide +kernel
theorem dX4_takesThing_13 : decode cX4_takesThing 13 = .ok (.iconst 1, 1) := by decide +kernel
theorem dX4_takesThing_14 : decode cX4_takesThing 14 = .ok (.ireturn, 1) := by decide +kernel
theorem dX4_takesThing_15 : decode cX4_takesThing 15 = .ok (.iload_n 1, 1) := by decide +kernel
theorem dX4_takesThing_16 : decode cX4_takesThing 16 = .ok (.bipush 40, 2) := by decide +kernel
theorem dX4_takesThing_18 : decode cX4_takesThing 18 = .ok (.if_icmp .ne 42, 3) := by decide +kernel
theorem dX4_takesThing_21 : decode cX4_takesThing 21 = .ok (.aload_n 0, 1) := by decide +kernel
theorem dX4_takesThing_22 : decode cX4_takesThing 22 = .ok (.getfield 41, 3) := by decide +kernel
theorem dX4_takesThing_25 : decode cX4_takesThing 25 = .ok (.iconst 4, 1) := by decide +kernel
theorem dX4_takesThing_26 : decode cX4_takesThing 26 = .ok (.if_icmp .lt 5, 3) := by decide +kernel
theorem dX4_takesThing_29 : decode cX4_takesThing 29 = .ok (.iconst 0, 1) := by decide +kernel
theorem dX4_takesThing_30 : decode cX4_takesThing 30 = .ok (.ireturn, 1) := by decide +kernel
theorem dX4_takesThing_31 : decode cX4_takesThing 31 = .ok (.aload_n 0, 1) := by decide +kernel
theorem dX4_takesThing_32 : decode cX4_takesThing 32 = .ok (.dup, 1) := by decide +kernel
theorem dX4_takesThing_33 : decode cX4_takesThing 33 = .ok (.getfield 41, 3) := by decide +kernel
theorem dX4_takesThing_36 : decode cX4_takesThing 36 = .ok (.iconst 1, 1) := by decide +kernel
theorem dX4_takesThing_37 : decode cX4_takesThing 37 = .ok (.iadd, 1) := by decide +kernel
theorem dX4_takesThing_38 : decode cX4_takesThing 38 = .ok (.putfield 41, 3) := by decide +kernel
theorem dX4_takesThing_41 : decode cX4_takesThing 41 = .ok (.aload_n 0, 1) := by decide +kernel
theorem dX4_takesThing_42 : decode cX4_takesThing 42 = .ok (.getfield 22, 3) := by decide +kernel
theorem dX4_takesThing_45 : decode cX4_takesThing 45 = .ok (.aload_n 0, 1) := by decide +kernel
theorem dX4_takesThing_46 : decode cX4_takesThing 46 = .ok (.getfield 41, 3) := by decide +kernel
theorem dX4_takesThing_49 : decode cX4_takesThing 49 = .ok (.iconst 0, 1) := by decide +kernel
theorem dX4_takesThing_50 : decode cX4_takesThing 50 = .ok (.bastore, 1) := by decide +kernel
theorem dX4_takesThing_51 : decode cX4_takesThing 51 = .ok (.aload_n 0, 1) := by decide +kernel
theorem dX4_takesThing_52 : decode cX4_takesThing 52 = .ok (.sipush 1040, 3) := by decide +kernel
theorem dX4_takesThing_55 : decode cX4_takesThing 55 = .ok (.invokevirtual 75, 3) := by decide +kernel
theorem dX4_takesThing_58 : decode cX4_takesThing 58 = .ok (.iconst 1, 1) := by decide +kernel
theorem dX4_takesThing_59 : decode cX4_takesThing 59 = .ok (.ireturn, 1) := by decide +kernel
theorem dX4_takesThing_60 : decode cX4_takesThing 60 = .ok (.iload_n 1, 1) := by decide +kernel
theorem dX4_takesThing_61 : decode cX4_takesThing 61 = .ok (.bipush 48, 2) := by decide +kernel
theorem dX4_takesThing_63 : decode cX4_takesThing 63 = .ok (.if_icmp .lt 13, 3) := by decide +kernel
theorem dX4_takesThing_66 : decode cX4_takesThing 66 = .ok (.iload_n 1, 1) := by decide +kernel
theorem dX4_takesThing_67 : decode cX4_takesThing 67 = .ok (.bipush 57, 2) := by decide +kernel
theorem dX4_takesThing_69 : decode cX4_takesThing 69 = .ok (.if_icmp .gt 7, 3) := by decide +kernel
theorem dX4_takesThing_72 : decode cX4_takesThing 72 = .ok (.iconst 1, 1) := by decide +kernel
theorem dX4_takesThing_73 : decode cX4_takesThing 73 = .ok (.goto 4, 3) := by decide +kernel
theorem dX4_takesThing_76 : decode cX4_takesThing 76 = .ok (.iconst 0, 1) := by decide +kernel
theorem dX4_takesThing_77 : decode cX4_takesThing 77 = .ok (.istore_n 2, 1) := by decide +kernel
theorem dX4_takesThing_78 : decode cX4_takesThing 78 = .ok (.iload_n 2, 1) := by decide +kernel
theorem dX4_takesThing_79 : decode cX4_takesThing 79 = .ok (.ifCond .ne 12, 3) := by decide +kernel
theorem dX4_takesThing_82 : decode cX4_takesThing 82 = .ok (.iload_n 1, 1) := by decide +kernel
theorem dX4_takesThing_83 : decode cX4_takesThing 83 = .ok (.invokestatic 78, 3) := by decide +kernel
theorem dX4_takesThing_86 : decode cX4_takesThing 86 = .ok (.ifCond .ne 5, 3) := by decide +kernel
theorem dX4_takesThing_89 : decode cX4_takesThing 89 = .ok (.iconst 0, 1) := by decide +kernel
theorem dX4_takesThing_90 : decode cX4_takesThing 90 = .ok (.ireturn, 1) := by decide +kernel
theorem dX4_takesThing_91 : decode cX4_takesThing 91 = .ok (.aload_n 0, 1) := by decide +kernel
theorem dX4_takesThing_92 : decode cX4_takesThing 92 = .ok (.iload_n 2, 1) := by decide +kernel
theorem dX4_takesThing_93 : decode cX4_takesThing 93 = .ok (.ifCond .eq 10, 3) := by decide +kernel
theorem dX4_takesThing_96 : decode cX4_takesThing 96 = .ok (.iload_n 1, 1) := by decide +kernel
theorem dX4_takesThing_97 : decode cX4_takesThing 97 = .ok (.bipush 48, 2) := by decide +kernel
theorem dX4_takesThing_99 : decode cX4_takesThing 99 = .ok (.isub, 1) := by decide +kernel
theorem dX4_takesThing_100 : decode cX4_takesThing 100 = .ok (.goto 8, 3) := by decide +kernel
theorem dX4_takesThing_103 : decode cX4_takesThing 103 = .ok (.sipush 1000, 3) := by decide +kernel
theorem dX4_takesThing_106 : decode cX4_takesThing 106 = .ok (.iload_n 1, 1) := by decide +kernel
theorem dX4_takesThing_107 : decode cX4_takesThing 107 = .ok (.iadd, 1) := by decide +kernel
theorem dX4_takesThing_108 : decode cX4_takesThing 108 = .ok (.invokevirtual 72, 3) := by decide +kernel
theorem dX4_takesThing_111 : decode cX4_takesThing 111 = .ok (.aload_n 0, 1) := by decide +kernel
theorem dX4_takesThing_112 : decode cX4_takesThing 112 = .ok (.iload_n 2, 1) := by decide +kernel
theorem dX4_takesThing_113 : decode cX4_takesThing 113 = .ok (.ifCond .eq 7, 3) := by decide +kernel
theorem dX4_takesThing_116 : decode cX4_takesThing 116 = .ok (.iconst 1, 1) := by decide +kernel
theorem dX4_takesThing_117 : decode cX4_takesThing 117 = .ok (.goto 4, 3) := by decide +kernel
theorem dX4_takesThing_120 : decode cX4_takesThing 120 = .ok (.iconst 3, 1) := by decide +kernel
theorem dX4_takesThing_121 : decode cX4_takesThing 121 = .ok (.putfield 81, 3) := by decide +kernel
theorem dX4_takesThing_124 : decode cX4_takesThing 124 = .ok (.aload_n 0, 1) := by decide +kernel
theorem dX4_takesThing_125 : decode cX4_takesThing 125 = .ok (.iconst 0, 1) := by decide +kernel
theorem dX4_takesThing_126 : decode cX4_takesThing 126 = .ok (.putfield 44, 3) := by decide +kernel
theorem dX4_takesThing_129 : decode cX4_takesThing 129 = .ok (.iconst 1, 1) := by decide +kernel
theorem dX4_takesThing_130 : decode cX4_takesThing 130 = .ok (.ireturn, 1) := by decide +kernel
theorem dX4_takesJoin_0 : decode cX4_takesJoin 0 = .ok (.iload_n 1, 1) := by decide +kernel
theorem dX4_takesJoin_1 : decode cX4_takesJoin 1 = .ok (.bipush 48, 2) := by decide +kernel
theorem dX4_takesJoin_3 : decode cX4_takesJoin 3 = .ok (.if_icmp .lt 69, 3) := by decide +kernel
theorem dX4_takesJoin_6 : decode cX4_takesJoin 6 = .ok (.iload_n 1, 1) := by decide +kernel
theorem dX4_takesJoin_7 : decode cX4_takesJoin 7 = .ok (.bipush 57, 2) := by decide +kernel
theorem dX4_takesJoin_9 : decode cX4_takesJoin 9 = .ok (.if_icmp .gt 63, 3) := by decide +kernel
theorem dX4_takesJoin_12 : decode cX4_takesJoin 12 = .ok (.aload_n 0, 1) := by decide +kernel
theorem dX4_takesJoin_13 : decode cX4_takesJoin 13 = .ok (.getfield 81, 3) := by decide +kernel
theorem dX4_takesJoin_16 : decode cX4_takesJoin 16 = .ok (.iconst 3, 1) := by decide +kernel
theorem dX4_takesJoin_17 : decode cX4_takesJoin 17 = .ok (.if_icmp .ge 11, 3) := by decide +kernel
theorem dX4_takesJoin_20 : decode cX4_takesJoin 20 = .ok (.aload_n 0, 1) := by decide +kernel
theorem dX4_takesJoin_21 : decode cX4_takesJoin 21 = .ok (.getfield 15, 3) := by decide +kernel
theorem dX4_takesJoin_24 : decode cX4_takesJoin 24 = .ok (.iconst 1, 1) := by decide +kernel
theorem dX4_takesJoin_25 : decode cX4_takesJoin 25 = .ok (.if_icmp .ge 5, 3) := by decide +kernel
theorem dX4_takesJoin_28 : decode cX4_takesJoin 28 = .ok (.iconst 0, 1) := by decide +kernel
theorem dX4_takesJoin_29 : decode cX4_takesJoin 29 = .ok (.ireturn, 1) := by decide +kernel
theorem dX4_takesJoin_30 : decode cX4_takesJoin 30 = .ok (.aload_n 0, 1) := by decide +kernel
theorem dX4_takesJoin_31 : decode cX4_takesJoin 31 = .ok (.getfield 11, 3) := by decide +kernel
theorem dX4_takesJoin_34 : decode cX4_takesJoin 34 = .ok (.aload_n 0, 1) := by decide +kernel
theorem dX4_takesJoin_35 : decode cX4_takesJoin 35 = .ok (.getfield 15, 3) := by decide +kernel
theorem dX4_takesJoin_38 : decode cX4_takesJoin 38 = .ok (.iconst 1, 1) := by decide +kernel
theorem dX4_takesJoin_39 : decode cX4_takesJoin 39 = .ok (.isub, 1) := by decide +kernel
theorem dX4_takesJoin_40 : decode cX4_takesJoin 40 = .ok (.bipush 10, 2) := by decide +kernel
theorem dX4_takesJoin_42 : decode cX4_takesJoin 42 = .ok (.aload_n 0, 1) := by decide +kernel
theorem dX4_takesJoin_43 : decode cX4_takesJoin 43 = .ok (.getfield 11, 3) := by decide +kernel
theorem dX4_takesJoin_46 : decode cX4_takesJoin 46 = .ok (.aload_n 0, 1) := by decide +kernel
theorem dX4_takesJoin_47 : decode cX4_takesJoin 47 = .ok (.getfield 15, 3) := by decide +kernel
theorem dX4_takesJoin_50 : decode cX4_takesJoin 50 = .ok (.iconst 1, 1) := by decide +kernel
theorem dX4_takesJoin_51 : decode cX4_takesJoin 51 = .ok (.isub, 1) := by decide +kernel
theorem dX4_takesJoin_52 : decode cX4_takesJoin 52 = .ok (.iaload, 1) := by decide +kernel
theorem dX4_takesJoin_53 : decode cX4_takesJoin 53 = .ok (.imul, 1) := by decide +kernel
theorem dX4_takesJoin_54 : decode cX4_takesJoin 54 = .ok (.iload_n 1, 1) := by decide +kernel
theorem dX4_takesJoin_55 : decode cX4_takesJoin 55 = .ok (.iadd, 1) := by decide +kernel
theorem dX4_takesJoin_56 : decode cX4_takesJoin 56 = .ok (.bipush 48, 2) := by decide +kernel
theorem dX4_takesJoin_58 : decode cX4_takesJoin 58 = .ok (.isub, 1) := by decide +kernel
theorem dX4_takesJoin_59 : decode cX4_takesJoin 59 = .ok (.iastore, 1) := by decide +kernel
theorem dX4_takesJoin_60 : decode cX4_takesJoin 60 = .ok (.aload_n 0, 1) := by decide +kernel
theorem dX4_takesJoin_61 : decode cX4_takesJoin 61 = .ok (.dup, 1) := by decide +kernel
theorem dX4_takesJoin_62 : decode cX4_takesJoin 62 = .ok (.getfield 81, 3) := by decide +kernel
theorem dX4_takesJoin_65 : decode cX4_takesJoin 65 = .ok (.iconst 1, 1) := by decide +kernel
theorem dX4_takesJoin_66 : decode cX4_takesJoin 66 = .ok (.iadd, 1) := by decide +kernel
theorem dX4_takesJoin_67 : decode cX4_takesJoin 67 = .ok (.putfield 81, 3) := by decide +kernel
theorem dX4_takesJoin_70 : decode cX4_takesJoin 70 = .ok (.iconst 1, 1) := by decide +kernel
theorem dX4_takesJoin_71 : decode cX4_takesJoin 71 = .ok (.ireturn, 1) := by decide +kernel
theorem dX4_takesJoin_72 : decode cX4_takesJoin 72 = .ok (.iload_n 1, 1) := by decide +kernel
theorem dX4_takesJoin_73 : decode cX4_takesJoin 73 = .ok (.bipush 41, 2) := by decide +kernel
theorem dX4_takesJoin_75 : decode cX4_takesJoin 75 = .ok (.if_icmp .ne 45, 3) := by decide +kernel
theorem dX4_takesJoin_78 : decode cX4_takesJoin 78 = .ok (.aload_n 0, 1) := by decide +kernel
theorem dX4_takesJoin_79 : decode cX4_takesJoin 79 = .ok (.getfield 41, 3) := by decide +kernel
theorem dX4_takesJoin_82 : decode cX4_takesJoin 82 = .ok (.iconst 1, 1) := by decide +kernel
theorem dX4_takesJoin_83 : decode cX4_takesJoin 83 = .ok (.if_icmp .ge 5, 3) := by decide +kernel
theorem dX4_takesJoin_86 : decode cX4_takesJoin 86 = .ok (.iconst 0, 1) := by decide +kernel
theorem dX4_takesJoin_87 : decode cX4_takesJoin 87 = .ok (.ireturn, 1) := by decide +kernel
theorem dX4_takesJoin_88 : decode cX4_takesJoin 88 = .ok (.aload_n 0, 1) := by decide +kernel
theorem dX4_takesJoin_89 : decode cX4_takesJoin 89 = .ok (.iconst 1, 1) := by decide +kernel
theorem dX4_takesJoin_90 : decode cX4_takesJoin 90 = .ok (.invokevirtual 68, 3) := by decide +kernel
theorem dX4_takesJoin_93 : decode cX4_takesJoin 93 = .ok (.aload_n 0, 1) := by decide +kernel
theorem dX4_takesJoin_94 : decode cX4_takesJoin 94 = .ok (.dup, 1) := by decide +kernel
theorem dX4_takesJoin_95 : decode cX4_takesJoin 95 = .ok (.getfield 38, 3) := by decide +kernel
theorem dX4_takesJoin_98 : decode cX4_takesJoin 98 = .ok (.iconst 1, 1) := by decide +kernel
theorem dX4_takesJoin_99 : decode cX4_takesJoin 99 = .ok (.isub, 1) := by decide +kernel
theorem dX4_takesJoin_100 : decode cX4_takesJoin 100 = .ok (.putfield 38, 3) := by decide +kernel
theorem dX4_takesJoin_103 : decode cX4_takesJoin 103 = .ok (.aload_n 0, 1) := by decide +kernel
theorem dX4_takesJoin_104 : decode cX4_takesJoin 104 = .ok (.dup, 1) := by decide +kernel
theorem dX4_takesJoin_105 : decode cX4_takesJoin 105 = .ok (.getfield 41, 3) := by decide +kernel
theorem dX4_takesJoin_108 : decode cX4_takesJoin 108 = .ok (.iconst 1, 1) := by decide +kernel
theorem dX4_takesJoin_109 : decode cX4_takesJoin 109 = .ok (.isub, 1) := by decide +kernel
theorem dX4_takesJoin_110 : decode cX4_takesJoin 110 = .ok (.putfield 41, 3) := by decide +kernel
theorem dX4_takesJoin_113 : decode cX4_takesJoin 113 = .ok (.aload_n 0, 1) := by decide +kernel
theorem dX4_takesJoin_114 : decode cX4_takesJoin 114 = .ok (.iconst 3, 1) := by decide +kernel
theorem dX4_takesJoin_115 : decode cX4_takesJoin 115 = .ok (.putfield 81, 3) := by decide +kernel
theorem dX4_takesJoin_118 : decode cX4_takesJoin 118 = .ok (.iconst 1, 1) := by decide +kernel
theorem dX4_takesJoin_119 : decode cX4_takesJoin 119 = .ok (.ireturn, 1) := by decide +kernel
theorem dX4_takesJoin_120 : decode cX4_takesJoin 120 = .ok (.sipush 1000, 3) := by decide +kernel
theorem dX4_takesJoin_123 : decode cX4_takesJoin 123 = .ok (.iload_n 1, 1) := by decide +kernel
theorem dX4_takesJoin_124 : decode cX4_takesJoin 124 = .ok (.iadd, 1) := by decide +kernel
theorem dX4_takesJoin_125 : decode cX4_takesJoin 125 = .ok (.invokestatic 84, 3) := by decide +kernel
theorem dX4_takesJoin_128 : decode cX4_takesJoin 128 = .ok (.istore_n 2, 1) := by decide +kernel
theorem dX4_takesJoin_129 : decode cX4_takesJoin 129 = .ok (.iload_n 2, 1) := by decide +kernel
theorem dX4_takesJoin_130 : decode cX4_takesJoin 130 = .ok (.ifCond .eq 20, 3) := by decide +kernel
theorem dX4_takesJoin_133 : decode cX4_takesJoin 133 = .ok (.iload_n 2, 1) := by decide +kernel
theorem dX4_takesJoin_134 : decode cX4_takesJoin 134 = .ok (.iconst 1, 1) := by decide +kernel
theorem dX4_takesJoin_135 : decode cX4_takesJoin 135 = .ok (.if_icmp .ne 17, 3) := by decide +kernel
theorem dX4_takesJoin_138 : decode cX4_takesJoin 138 = .ok (.aload_n 0, 1) := by decide +kernel
theorem dX4_takesJoin_139 : decode cX4_takesJoin 139 = .ok (.getfield 22, 3) := by decide +kernel
theorem dX4_takesJoin_142 : decode cX4_takesJoin 142 = .ok (.aload_n 0, 1) := by decide +kernel
theorem dX4_takesJoin_143 : decode cX4_takesJoin 143 = .ok (.getfield 41, 3) := by decide +kernel
theorem dX4_takesJoin_146 : decode cX4_takesJoin 146 = .ok (.baload, 1) := by decide +kernel
theorem dX4_takesJoin_147 : decode cX4_takesJoin 147 = .ok (.ifCond .eq 5, 3) := by decide +kernel
theorem dX4_takesJoin_150 : decode cX4_takesJoin 150 = .ok (.iconst 0, 1) := by decide +kernel
theorem dX4_takesJoin_151 : decode cX4_takesJoin 151 = .ok (.ireturn, 1) := by decide +kernel
theorem dX4_takesJoin_152 : decode cX4_takesJoin 152 = .ok (.aload_n 0, 1) := by decide +kernel
theorem dX4_takesJoin_153 : decode cX4_takesJoin 153 = .ok (.getfield 22, 3) := by decide +kernel
theorem dX4_takesJoin_156 : decode cX4_takesJoin 156 = .ok (.aload_n 0, 1) := by decide +kernel
theorem dX4_takesJoin_157 : decode cX4_takesJoin 157 = .ok (.getfield 41, 3) := by decide +kernel
theorem dX4_takesJoin_160 : decode cX4_takesJoin 160 = .ok (.aload_n 0, 1) := by decide +kernel
theorem dX4_takesJoin_161 : decode cX4_takesJoin 161 = .ok (.getfield 22, 3) := by decide +kernel
theorem dX4_takesJoin_164 : decode cX4_takesJoin 164 = .ok (.aload_n 0, 1) := by decide +kernel
theorem dX4_takesJoin_165 : decode cX4_takesJoin 165 = .ok (.getfield 41, 3) := by decide +kernel
theorem dX4_takesJoin_168 : decode cX4_takesJoin 168 = .ok (.baload, 1) := by decide +kernel
theorem dX4_takesJoin_169 : decode cX4_takesJoin 169 = .ok (.ifCond .ne 8, 3) := by decide +kernel
theorem dX4_takesJoin_172 : decode cX4_takesJoin 172 = .ok (.iload_n 2, 1) := by decide +kernel
theorem dX4_takesJoin_173 : decode cX4_takesJoin 173 = .ok (.iconst 1, 1) := by decide +kernel
theorem dX4_takesJoin_174 : decode cX4_takesJoin 174 = .ok (.if_icmp .ne 7, 3) := by decide +kernel
theorem dX4_takesJoin_177 : decode cX4_takesJoin 177 = .ok (.iconst 1, 1) := by decide +kernel
theorem dX4_takesJoin_178 : decode cX4_takesJoin 178 = .ok (.goto 4, 3) := by decide +kernel
theorem dX4_takesJoin_181 : decode cX4_takesJoin 181 = .ok (.iconst 0, 1) := by decide +kernel
theorem dX4_takesJoin_182 : decode cX4_takesJoin 182 = .ok (.bastore, 1) := by decide +kernel
theorem dX4_takesJoin_183 : decode cX4_takesJoin 183 = .ok (.aload_n 0, 1) := by decide +kernel
theorem dX4_takesJoin_184 : decode cX4_takesJoin 184 = .ok (.iload_n 2, 1) := by decide +kernel
theorem dX4_takesJoin_185 : decode cX4_takesJoin 185 = .ok (.invokevirtual 68, 3) := by decide +kernel
theorem dX4_takesJoin_188 : decode cX4_takesJoin 188 = .ok (.aload_n 0, 1) := by decide +kernel
theorem dX4_takesJoin_189 : decode cX4_takesJoin 189 = .ok (.sipush 1000, 3) := by decide +kernel
theorem dX4_takesJoin_192 : decode cX4_takesJoin 192 = .ok (.iload_n 1, 1) := by decide +kernel
theorem dX4_takesJoin_193 : decode cX4_takesJoin 193 = .ok (.iadd, 1) := by decide +kernel
theorem dX4_takesJoin_194 : decode cX4_takesJoin 194 = .ok (.invokevirtual 75, 3) := by decide +kernel
theorem dX4_takesJoin_197 : decode cX4_takesJoin 197 = .ok (.aload_n 0, 1) := by decide +kernel
theorem dX4_takesJoin_198 : decode cX4_takesJoin 198 = .ok (.iconst 1, 1) := by decide +kernel
theorem dX4_takesJoin_199 : decode cX4_takesJoin 199 = .ok (.putfield 44, 3) := by decide +kernel
theorem dX4_takesJoin_202 : decode cX4_takesJoin 202 = .ok (.iconst 1, 1) := by decide +kernel
theorem dX4_takesJoin_203 : decode cX4_takesJoin 203 = .ok (.ireturn, 1) := by decide +kernel
theorem dX4_isTrait_0 : decode cX4_isTrait 0 = .ok (.iload_n 0, 1) := by decide +kernel
theorem dX4_isTrait_1 : decode cX4_isTrait 1 = .ok (.tableswitch 85 99 115 #[83, 85, 83, 85, 85, 85, 83, 85, 83, 83, 85, 83, 83, 85, 85, 85, 83], 83) := by decide +kernel
theorem dX4_isTrait_84 : decode cX4_isTrait 84 = .ok (.iconst 1, 1) := by decide +kernel
theorem dX4_isTrait_85 : decode cX4_isTrait 85 = .ok (.ireturn, 1) := by decide +kernel
theorem dX4_isTrait_86 : decode cX4_isTrait 86 = .ok (.iconst 0, 1) := by decide +kernel
theorem dX4_isTrait_87 : decode cX4_isTrait 87 = .ok (.ireturn, 1) := by decide +kernel
theorem dX4_bindingOf_0 : decode cX4_bindingOf 0 = .ok (.iload_n 0, 1) := by decide +kernel
theorem dX4_bindingOf_1 : decode cX4_bindingOf 1 = .ok (.lookupswitch 83 #[(1042, 79), (1043, 77), (1045, 77), (1047, 79), (1060, 75), (1061, 75), (1062, 75), (1256, 81)], 75) := by decide +kernel
theorem dX4_bindingOf_76 : decode cX4_bindingOf 76 = .ok (.iconst 1, 1) := by decide +kernel
theorem dX4_bindingOf_77 : decode cX4_bindingOf 77 = .ok (.ireturn, 1) := by decide +kernel
theorem dX4_bindingOf_78 : decode cX4_bindingOf 78 = .ok (.iconst 2, 1) := by decide +kernel
theorem dX4_bindingOf_79 : decode cX4_bindingOf 79 = .ok (.ireturn, 1) := by decide +kernel
theorem dX4_bindingOf_80 : decode cX4_bindingOf 80 = .ok (.iconst 3, 1) := by decide +kernel
theorem dX4_bindingOf_81 : decode cX4_bindingOf 81 = .ok (.ireturn, 1) := by decide +kernel
theorem dX4_bindingOf_82 : decode cX4_bindingOf 82 = .ok (.iconst 4, 1) := by decide +kernel
theorem dX4_bindingOf_83 : decode cX4_bindingOf 83 = .ok (.ireturn, 1) := by decide +kernel
theorem dX4_bindingOf_84 : decode cX4_bindingOf 84 = .ok (.iconst 0, 1) := by decide +kernel
theorem dX4_bindingOf_85 : decode cX4_bindingOf 85 = .ok (.ireturn, 1) := by decide +kernel
theorem dX4_emit_0 : decode cX4_emit 0 = .ok (.aload_n 0, 1) := by decide +kernel
theorem dX4_emit_1 : decode cX4_emit 1 = .ok (.getfield 15, 3) := by decide +kernel
theorem dX4_emit_4 : decode cX4_emit 4 = .ok (.aload_n 0, 1) := by decide +kernel
theorem dX4_emit_5 : decode cX4_emit 5 = .ok (.getfield 11, 3) := by decide +kernel
theorem dX4_emit_8 : decode cX4_emit 8 = .ok (.arraylength, 1) := by decide +kernel
theorem dX4_emit_9 : decode cX4_emit 9 = .ok (.if_icmp .ge 23, 3) := by decide +kernel
theorem dX4_emit_12 : decode cX4_emit 12 = .ok (.aload_n 0, 1) := by decide +kernel
theorem dX4_emit_13 : decode cX4_emit 13 = .ok (.getfield 11, 3) := by decide +kernel
theorem dX4_emit_16 : decode cX4_emit 16 = .ok (.aload_n 0, 1) := by decide +kernel
theorem dX4_emit_17 : decode cX4_emit 17 = .ok (.getfield 15, 3) := by decide +kernel
theorem dX4_emit_20 : decode cX4_emit 20 = .ok (.iload_n 1, 1) := by decide +kernel
theorem dX4_emit_21 : decode cX4_emit 21 = .ok (.iastore, 1) := by decide +kernel
theorem dX4_emit_22 : decode cX4_emit 22 = .ok (.aload_n 0, 1) := by decide +kernel
theorem dX4_emit_23 : decode cX4_emit 23 = .ok (.dup, 1) := by decide +kernel
theorem dX4_emit_24 : decode cX4_emit 24 = .ok (.getfield 15, 3) := by decide +kernel
theorem dX4_emit_27 : decode cX4_emit 27 = .ok (.iconst 1, 1) := by decide +kernel
theorem dX4_emit_28 : decode cX4_emit 28 = .ok (.iadd, 1) := by decide +kernel
theorem dX4_emit_29 : decode cX4_emit 29 = .ok (.putfield 15, 3) := by decide +kernel
theorem dX4_emit_32 : decode cX4_emit 32 = .ok (.return_, 1) := by decide +kernel
theorem dX4_hold_0 : decode cX4_hold 0 = .ok (.aload_n 0, 1) := by decide +kernel
theorem dX4_hold_1 : decode cX4_hold 1 = .ok (.getfield 38, 3) := by decide +kernel
theorem dX4_hold_4 : decode cX4_hold 4 = .ok (.aload_n 0, 1) := by decide +kernel
theorem dX4_hold_5 : decode cX4_hold 5 = .ok (.getfield 19, 3) := by decide +kernel
theorem dX4_hold_8 : decode cX4_hold 8 = .ok (.arraylength, 1) := by decide +kernel
theorem dX4_hold_9 : decode cX4_hold 9 = .ok (.if_icmp .ge 23, 3) := by decide +kernel
theorem dX4_hold_12 : decode cX4_hold 12 = .ok (.aload_n 0, 1) := by decide +kernel
theorem dX4_hold_13 : decode cX4_hold 13 = .ok (.getfield 19, 3) := by decide +kernel
theorem dX4_hold_16 : decode cX4_hold 16 = .ok (.aload_n 0, 1) := by decide +kernel
theorem dX4_hold_17 : decode cX4_hold 17 = .ok (.getfield 38, 3) := by decide +kernel
theorem dX4_hold_20 : decode cX4_hold 20 = .ok (.iload_n 1, 1) := by decide +kernel
theorem dX4_hold_21 : decode cX4_hold 21 = .ok (.iastore, 1) := by decide +kernel
theorem dX4_hold_22 : decode cX4_hold 22 = .ok (.aload_n 0, 1) := by decide +kernel
theorem dX4_hold_23 : decode cX4_hold 23 = .ok (.dup, 1) := by decide +kernel
theorem dX4_hold_24 : decode cX4_hold 24 = .ok (.getfield 38, 3) := by decide +kernel
theorem dX4_hold_27 : decode cX4_hold 27 = .ok (.iconst 1, 1) := by decide +kernel
theorem dX4_hold_28 : decode cX4_hold 28 = .ok (.iadd, 1) := by decide +kernel
theorem dX4_hold_29 : decode cX4_hold 29 = .ok (.putfield 38, 3) := by decide +kernel
theorem dX4_hold_32 : decode cX4_hold 32 = .ok (.return_, 1) := by decide +kernel
theorem dX4_release_0 : decode cX4_release 0 = .ok (.aload_n 0, 1) := by decide +kernel
theorem dX4_release_1 : decode cX4_release 1 = .ok (.getfield 38, 3) := by decide +kernel
theorem dX4_release_4 : decode cX4_release 4 = .ok (.ifCond .le 47, 3) := by decide +kernel
theorem dX4_release_7 : decode cX4_release 7 = .ok (.aload_n 0, 1) := by decide +kernel
theorem dX4_release_8 : decode cX4_release 8 = .ok (.getfield 19, 3) := by decide +kernel
theorem dX4_release_11 : decode cX4_release 11 = .ok (.aload_n 0, 1) := by decide +kernel
theorem dX4_release_12 : decode cX4_release 12 = .ok (.getfield 38, 3) := by decide +kernel
theorem dX4_release_15 : decode cX4_release 15 = .ok (.iconst 1, 1) := by decide +kernel
theorem dX4_release_16 : decode cX4_release 16 = .ok (.isub, 1) := by decide +kernel
theorem dX4_release_17 : decode cX4_release 17 = .ok (.iaload, 1) := by decide +kernel
theorem dX4_release_18 : decode cX4_release 18 = .ok (.invokestatic 84, 3) := by decide +kernel
theorem dX4_release_21 : decode cX4_release 21 = .ok (.iload_n 1, 1) := by decide +kernel
theorem dX4_release_22 : decode cX4_release 22 = .ok (.if_icmp .lt 29, 3) := by decide +kernel
theorem dX4_release_25 : decode cX4_release 25 = .ok (.aload_n 0, 1) := by decide +kernel
theorem dX4_release_26 : decode cX4_release 26 = .ok (.dup, 1) := by decide +kernel
theorem dX4_release_27 : decode cX4_release 27 = .ok (.getfield 38, 3) := by decide +kernel
theorem dX4_release_30 : decode cX4_release 30 = .ok (.iconst 1, 1) := by decide +kernel
theorem dX4_release_31 : decode cX4_release 31 = .ok (.isub, 1) := by decide +kernel
theorem dX4_release_32 : decode cX4_release 32 = .ok (.putfield 38, 3) := by decide +kernel
theorem dX4_release_35 : decode cX4_release 35 = .ok (.aload_n 0, 1) := by decide +kernel
theorem dX4_release_36 : decode cX4_release 36 = .ok (.aload_n 0, 1) := by decide +kernel
theorem dX4_release_37 : decode cX4_release 37 = .ok (.getfield 19, 3) := by decide +kernel
theorem dX4_release_40 : decode cX4_release 40 = .ok (.aload_n 0, 1) := by decide +kernel
theorem dX4_release_41 : decode cX4_release 41 = .ok (.getfield 38, 3) := by decide +kernel
theorem dX4_release_44 : decode cX4_release 44 = .ok (.iaload, 1) := by decide +kernel
theorem dX4_release_45 : decode cX4_release 45 = .ok (.invokevirtual 72, 3) := by decide +kernel
theorem dX4_release_48 : decode cX4_release 48 = .ok (.goto (-48), 3) := by decide +kernel
theorem dX4_release_51 : decode cX4_release 51 = .ok (.return_, 1) := by decide +kernel
theorem dX4_pullOf_0 : decode cX4_pullOf 0 = .ok (.iconst 0, 1) := by decide +kernel
theorem dX4_pullOf_1 : decode cX4_pullOf 1 = .ok (.istore 4, 2) := by decide +kernel
theorem dX4_pullOf_3 : decode cX4_pullOf 3 = .ok (.iconst 0, 1) := by decide +kernel
theorem dX4_pullOf_4 : decode cX4_pullOf 4 = .ok (.istore 5, 2) := by decide +kernel
theorem dX4_pullOf_6 : decode cX4_pullOf 6 = .ok (.iload 5, 2) := by decide +kernel
theorem dX4_pullOf_8 : decode cX4_pullOf 8 = .ok (.aload_n 0, 1) := by decide +kernel
theorem dX4_pullOf_9 : decode cX4_pullOf 9 = .ok (.getfield 15, 3) := by decide +kernel
theorem dX4_pullOf_12 : decode cX4_pullOf 12 = .ok (.if_icmp .ge 157, 3) := by decide +kernel
theorem dX4_pullOf_15 : decode cX4_pullOf 15 = .ok (.aload_n 0, 1) := by decide +kernel
theorem dX4_pullOf_16 : decode cX4_pullOf 16 = .ok (.getfield 11, 3) := by decide +kernel
theorem dX4_pullOf_19 : decode cX4_pullOf 19 = .ok (.iload 5, 2) := by decide +kernel
theorem dX4_pullOf_21 : decode cX4_pullOf 21 = .ok (.iaload, 1) := by decide +kernel
theorem dX4_pullOf_22 : decode cX4_pullOf 22 = .ok (.istore 6, 2) := by decide +kernel
theorem dX4_pullOf_24 : decode cX4_pullOf 24 = .ok (.iload 6, 2) := by decide +kernel
theorem dX4_pullOf_26 : decode cX4_pullOf 26 = .ok (.invokestatic 84, 3) := by decide +kernel
theorem dX4_pullOf_29 : decode cX4_pullOf 29 = .ok (.istore 7, 2) := by decide +kernel
theorem dX4_pullOf_31 : decode cX4_pullOf 31 = .ok (.iload 7, 2) := by decide +kernel
theorem dX4_pullOf_33 : decode cX4_pullOf 33 = .ok (.ifCond .ne 51, 3) := by decide +kernel
theorem dX4_pullOf_36 : decode cX4_pullOf 36 = .ok (.iload 4, 2) := by decide +kernel
theorem dX4_pullOf_38 : decode cX4_pullOf 38 = .ok (.aload_n 0, 1) := by decide +kernel
theorem dX4_pullOf_39 : decode cX4_pullOf 39 = .ok (.getfield 26, 3) := by decide +kernel
theorem dX4_pullOf_42 : decode cX4_pullOf 42 = .ok (.arraylength, 1) := by decide +kernel
theorem dX4_pullOf_43 : decode cX4_pullOf 43 = .ok (.if_icmp .ge 41, 3) := by decide +kernel
theorem dX4_pullOf_46 : decode cX4_pullOf 46 = .ok (.aload_n 0, 1) := by decide +kernel
theorem dX4_pullOf_47 : decode cX4_pullOf 47 = .ok (.getfield 26, 3) := by decide +kernel
theorem dX4_pullOf_50 : decode cX4_pullOf 50 = .ok (.iload 4, 2) := by decide +kernel
theorem dX4_pullOf_52 : decode cX4_pullOf 52 = .ok (.iload 6, 2) := by decide +kernel
theorem dX4_pullOf_54 : decode cX4_pullOf 54 = .ok (.sipush 1000, 3) := by decide +kernel
theorem dX4_pullOf_57 : decode cX4_pullOf 57 = .ok (.if_icmp .ge 8, 3) := by decide +kernel
theorem dX4_pullOf_60 : decode cX4_pullOf 60 = .ok (.iload 6, 2) := by decide +kernel
theorem dX4_pullOf_62 : decode cX4_pullOf 62 = .ok (.goto 15, 3) := by decide +kernel
theorem dX4_pullOf_65 : decode cX4_pullOf 65 = .ok (.iload 6, 2) := by decide +kernel
theorem dX4_pullOf_67 : decode cX4_pullOf 67 = .ok (.sipush 1000, 3) := by decide +kernel
theorem dX4_pullOf_70 : decode cX4_pullOf 70 = .ok (.isub, 1) := by decide +kernel
theorem dX4_pullOf_71 : decode cX4_pullOf 71 = .ok (.aload_n 1, 1) := by decide +kernel
theorem dX4_pullOf_72 : decode cX4_pullOf 72 = .ok (.iload_n 2, 1) := by decide +kernel
theorem dX4_pullOf_73 : decode cX4_pullOf 73 = .ok (.iload_n 3, 1) := by decide +kernel
theorem dX4_pullOf_74 : decode cX4_pullOf 74 = .ok (.invokestatic 87, 3) := by decide +kernel
theorem dX4_pullOf_77 : decode cX4_pullOf 77 = .ok (.iastore, 1) := by decide +kernel
theorem dX4_pullOf_78 : decode cX4_pullOf 78 = .ok (.iinc 4 1, 3) := by decide +kernel
theorem dX4_pullOf_81 : decode cX4_pullOf 81 = .ok (.goto 82, 3) := by decide +kernel
theorem dX4_pullOf_84 : decode cX4_pullOf 84 = .ok (.iload 6, 2) := by decide +kernel
theorem dX4_pullOf_86 : decode cX4_pullOf 86 = .ok (.sipush 1256, 3) := by decide +kernel
theorem dX4_pullOf_89 : decode cX4_pullOf 89 = .ok (.if_icmp .ne 31, 3) := by decide +kernel
theorem dX4_pullOf_92 : decode cX4_pullOf 92 = .ok (.iload 4, 2) := by decide +kernel
theorem dX4_pullOf_94 : decode cX4_pullOf 94 = .ok (.iconst 1, 1) := by decide +kernel
theorem dX4_pullOf_95 : decode cX4_pullOf 95 = .ok (.if_icmp .lt 25, 3) := by decide +kernel
theorem dX4_pullOf_98 : decode cX4_pullOf 98 = .ok (.aload_n 0, 1) := by decide +kernel
theorem dX4_pullOf_99 : decode cX4_pullOf 99 = .ok (.getfield 26, 3) := by decide +kernel
theorem dX4_pullOf_102 : decode cX4_pullOf 102 = .ok (.iload 4, 2) := by decide +kernel
theorem dX4_pullOf_104 : decode cX4_pullOf 104 = .ok (.iconst 1, 1) := by decide +kernel
theorem dX4_pullOf_105 : decode cX4_pullOf 105 = .ok (.isub, 1) := by decide +kernel
theorem dX4_pullOf_106 : decode cX4_pullOf 106 = .ok (.aload_n 0, 1) := by decide +kernel
theorem dX4_pullOf_107 : decode cX4_pullOf 107 = .ok (.getfield 26, 3) := by decide +kernel
theorem dX4_pullOf_110 : decode cX4_pullOf 110 = .ok (.iload 4, 2) := by decide +kernel
theorem dX4_pullOf_112 : decode cX4_pullOf 112 = .ok (.iconst 1, 1) := by decide +kernel
theorem dX4_pullOf_113 : decode cX4_pullOf 113 = .ok (.isub, 1) := by decide +kernel
theorem dX4_pullOf_114 : decode cX4_pullOf 114 = .ok (.iaload, 1) := by decide +kernel
theorem dX4_pullOf_115 : decode cX4_pullOf 115 = .ok (.ineg, 1) := by decide +kernel
theorem dX4_pullOf_116 : decode cX4_pullOf 116 = .ok (.iastore, 1) := by decide +kernel
theorem dX4_pullOf_117 : decode cX4_pullOf 117 = .ok (.goto 46, 3) := by decide +kernel
theorem dX4_pullOf_120 : decode cX4_pullOf 120 = .ok (.iload 4, 2) := by decide +kernel
theorem dX4_pullOf_122 : decode cX4_pullOf 122 = .ok (.iconst 2, 1) := by decide +kernel
theorem dX4_pullOf_123 : decode cX4_pullOf 123 = .ok (.if_icmp .lt 40, 3) := by decide +kernel
theorem dX4_pullOf_126 : decode cX4_pullOf 126 = .ok (.iinc 4 (-1), 3) := by decide +kernel
theorem dX4_pullOf_129 : decode cX4_pullOf 129 = .ok (.aload_n 0, 1) := by decide +kernel
theorem dX4_pullOf_130 : decode cX4_pullOf 130 = .ok (.getfield 26, 3) := by decide +kernel
theorem dX4_pullOf_133 : decode cX4_pullOf 133 = .ok (.iload 4, 2) := by decide +kernel
theorem dX4_pullOf_135 : decode cX4_pullOf 135 = .ok (.iconst 1, 1) := by decide +kernel
theorem dX4_pullOf_136 : decode cX4_pullOf 136 = .ok (.isub, 1) := by decide +kernel
theorem dX4_pullOf_137 : decode cX4_pullOf 137 = .ok (.iload 6, 2) := by decide +kernel
theorem dX4_pullOf_139 : decode cX4_pullOf 139 = .ok (.sipush 1000, 3) := by decide +kernel
theorem dX4_pullOf_142 : decode cX4_pullOf 142 = .ok (.isub, 1) := by decide +kernel
theorem dX4_pullOf_143 : decode cX4_pullOf 143 = .ok (.aload_n 0, 1) := by decide +kernel
theorem dX4_pullOf_144 : decode cX4_pullOf 144 = .ok (.getfield 26, 3) := by decide +kernel
theorem dX4_pullOf_147 : decode cX4_pullOf 147 = .ok (.iload 4, 2) := by decide +kernel
theorem dX4_pullOf_149 : decode cX4_pullOf 149 = .ok (.iconst 1, 1) := by decide +kernel
theorem dX4_pullOf_150 : decode cX4_pullOf 150 = .ok (.isub, 1) := by decide +kernel
theorem dX4_pullOf_151 : decode cX4_pullOf 151 = .ok (.iaload, 1) := by decide +kernel
theorem dX4_pullOf_152 : decode cX4_pullOf 152 = .ok (.aload_n 0, 1) := by decide +kernel
theorem dX4_pullOf_153 : decode cX4_pullOf 153 = .ok (.getfield 26, 3) := by decide +kernel
theorem dX4_pullOf_156 : decode cX4_pullOf 156 = .ok (.iload 4, 2) := by decide +kernel
theorem dX4_pullOf_158 : decode cX4_pullOf 158 = .ok (.iaload, 1) := by decide +kernel
theorem dX4_pullOf_159 : decode cX4_pullOf 159 = .ok (.invokestatic 91, 3) := by decide +kernel
theorem dX4_pullOf_162 : decode cX4_pullOf 162 = .ok (.iastore, 1) := by decide +kernel
theorem dX4_pullOf_163 : decode cX4_pullOf 163 = .ok (.iinc 5 1, 3) := by decide +kernel
theorem dX4_pullOf_166 : decode cX4_pullOf 166 = .ok (.goto (-160), 3) := by decide +kernel
theorem dX4_pullOf_169 : decode cX4_pullOf 169 = .ok (.bipush (-99), 2) := by decide +kernel
theorem dX4_pullOf_171 : decode cX4_pullOf 171 = .ok (.bipush 99, 2) := by decide +kernel
theorem dX4_pullOf_173 : decode cX4_pullOf 173 = .ok (.aload_n 0, 1) := by decide +kernel
theorem dX4_pullOf_174 : decode cX4_pullOf 174 = .ok (.getfield 26, 3) := by decide +kernel
theorem dX4_pullOf_177 : decode cX4_pullOf 177 = .ok (.iconst 0, 1) := by decide +kernel
theorem dX4_pullOf_178 : decode cX4_pullOf 178 = .ok (.iaload, 1) := by decide +kernel
theorem dX4_pullOf_179 : decode cX4_pullOf 179 = .ok (.invokestatic 51, 3) := by decide +kernel
theorem dX4_pullOf_182 : decode cX4_pullOf 182 = .ok (.invokestatic 95, 3) := by decide +kernel
theorem dX4_pullOf_185 : decode cX4_pullOf 185 = .ok (.ireturn, 1) := by decide +kernel
theorem dX4_traitOf_0 : decode cX4_traitOf 0 = .ok (.iload_n 0, 1) := by decide +kernel
theorem dX4_traitOf_1 : decode cX4_traitOf 1 = .ok (.tableswitch 140 99 115 #[97, 140, 112, 140, 140, 140, 85, 140, 83, 104, 140, 140, 87, 140, 140, 140, 133], 83) := by decide +kernel
theorem dX4_traitOf_84 : decode cX4_traitOf 84 = .ok (.iload_n 2, 1) := by decide +kernel
theorem dX4_traitOf_85 : decode cX4_traitOf 85 = .ok (.ireturn, 1) := by decide +kernel
theorem dX4_traitOf_86 : decode cX4_traitOf 86 = .ok (.iload_n 3, 1) := by decide +kernel
theorem dX4_traitOf_87 : decode cX4_traitOf 87 = .ok (.ireturn, 1) := by decide +kernel
theorem dX4_traitOf_88 : decode cX4_traitOf 88 = .ok (.aload_n 1, 1) := by decide +kernel
theorem dX4_traitOf_89 : decode cX4_traitOf 89 = .ok (.iload_n 2, 1) := by decide +kernel
theorem dX4_traitOf_90 : decode cX4_traitOf 90 = .ok (.iload_n 3, 1) := by decide +kernel
theorem dX4_traitOf_91 : decode cX4_traitOf 91 = .ok (.invokevirtual 98, 3) := by decide +kernel
theorem dX4_traitOf_94 : decode cX4_traitOf 94 = .ok (.invokestatic 103, 3) := by decide +kernel
theorem dX4_traitOf_97 : decode cX4_traitOf 97 = .ok (.ireturn, 1) := by decide +kernel
theorem dX4_traitOf_98 : decode cX4_traitOf 98 = .ok (.aload_n 1, 1) := by decide +kernel
theorem dX4_traitOf_99 : decode cX4_traitOf 99 = .ok (.iload_n 2, 1) := by decide +kernel
theorem dX4_traitOf_100 : decode cX4_traitOf 100 = .ok (.iload_n 3, 1) := by decide +kernel
theorem dX4_traitOf_101 : decode cX4_traitOf 101 = .ok (.invokevirtual 108, 3) := by decide +kernel
theorem dX4_traitOf_104 : decode cX4_traitOf 104 = .ok (.ireturn, 1) := by decide +kernel
theorem dX4_traitOf_105 : decode cX4_traitOf 105 = .ok (.aload_n 1, 1) := by decide +kernel
theorem dX4_traitOf_106 : decode cX4_traitOf 106 = .ok (.iconst 1, 1) := by decide +kernel
theorem dX4_traitOf_107 : decode cX4_traitOf 107 = .ok (.iload_n 2, 1) := by decide +kernel
theorem dX4_traitOf_108 : decode cX4_traitOf 108 = .ok (.isub, 1) := by decide +kernel
theorem dX4_traitOf_109 : decode cX4_traitOf 109 = .ok (.invokevirtual 111, 3) := by decide +kernel
theorem dX4_traitOf_112 : decode cX4_traitOf 112 = .ok (.ireturn, 1) := by decide +kernel
theorem dX4_traitOf_113 : decode cX4_traitOf 113 = .ok (.iload_n 3, 1) := by decide +kernel
theorem dX4_traitOf_114 : decode cX4_traitOf 114 = .ok (.ifCond .eq 14, 3) := by decide +kernel
theorem dX4_traitOf_117 : decode cX4_traitOf 117 = .ok (.iload_n 3, 1) := by decide +kernel
theorem dX4_traitOf_118 : decode cX4_traitOf 118 = .ok (.aload_n 1, 1) := by decide +kernel
theorem dX4_traitOf_119 : decode cX4_traitOf 119 = .ok (.iload_n 2, 1) := by decide +kernel
theorem dX4_traitOf_120 : decode cX4_traitOf 120 = .ok (.invokevirtual 111, 3) := by decide +kernel
theorem dX4_traitOf_123 : decode cX4_traitOf 123 = .ok (.iconst 1, 1) := by decide +kernel
theorem dX4_traitOf_124 : decode cX4_traitOf 124 = .ok (.isub, 1) := by decide +kernel
theorem dX4_traitOf_125 : decode cX4_traitOf 125 = .ok (.if_icmp .ne 7, 3) := by decide +kernel
theorem dX4_traitOf_128 : decode cX4_traitOf 128 = .ok (.iconst 1, 1) := by decide +kernel
theorem dX4_traitOf_129 : decode cX4_traitOf 129 = .ok (.goto 4, 3) := by decide +kernel
theorem dX4_traitOf_132 : decode cX4_traitOf 132 = .ok (.iconst 0, 1) := by decide +kernel
theorem dX4_traitOf_133 : decode cX4_traitOf 133 = .ok (.ireturn, 1) := by decide +kernel
theorem dX4_traitOf_134 : decode cX4_traitOf 134 = .ok (.aload_n 1, 1) := by decide +kernel
theorem dX4_traitOf_135 : decode cX4_traitOf 135 = .ok (.iload_n 2, 1) := by decide +kernel
theorem dX4_traitOf_136 : decode cX4_traitOf 136 = .ok (.iload_n 3, 1) := by decide +kernel
theorem dX4_traitOf_137 : decode cX4_traitOf 137 = .ok (.invokevirtual 114, 3) := by decide +kernel
theorem dX4_traitOf_140 : decode cX4_traitOf 140 = .ok (.ireturn, 1) := by decide +kernel
theorem dX4_traitOf_141 : decode cX4_traitOf 141 = .ok (.aload_n 1, 1) := by decide +kernel
theorem dX4_traitOf_142 : decode cX4_traitOf 142 = .ok (.getfield 117, 3) := by decide +kernel
theorem dX4_traitOf_145 : decode cX4_traitOf 145 = .ok (.bipush 7, 2) := by decide +kernel
theorem dX4_traitOf_147 : decode cX4_traitOf 147 = .ok (.irem, 1) := by decide +kernel
theorem dX4_traitOf_148 : decode cX4_traitOf 148 = .ok (.ireturn, 1) := by decide +kernel
theorem dX4_joined_0 : decode cX4_joined 0 = .ok (.iload_n 0, 1) := by decide +kernel
theorem dX4_joined_1 : decode cX4_joined 1 = .ok (.lookupswitch 104 #[(42, 100), (43, 92), (45, 96), (60, 59), (61, 81), (62, 70)], 59) := by decide +kernel
theorem dX4_joined_60 : decode cX4_joined 60 = .ok (.iload_n 1, 1) := by decide +kernel
theorem dX4_joined_61 : decode cX4_joined 61 = .ok (.iload_n 2, 1) := by decide +kernel
theorem dX4_joined_62 : decode cX4_joined 62 = .ok (.if_icmp .ge 7, 3) := by decide +kernel
theorem dX4_joined_65 : decode cX4_joined 65 = .ok (.iconst 1, 1) := by decide +kernel
theorem dX4_joined_66 : decode cX4_joined 66 = .ok (.goto 4, 3) := by decide +kernel
theorem dX4_joined_69 : decode cX4_joined 69 = .ok (.iconst 0, 1) := by decide +kernel
theorem dX4_joined_70 : decode cX4_joined 70 = .ok (.ireturn, 1) := by decide +kernel
theorem dX4_joined_71 : decode cX4_joined 71 = .ok (.iload_n 1, 1) := by decide +kernel
theorem dX4_joined_72 : decode cX4_joined 72 = .ok (.iload_n 2, 1) := by decide +kernel
theorem dX4_joined_73 : decode cX4_joined 73 = .ok (.if_icmp .le 7, 3) := by decide +kernel
theorem dX4_joined_76 : decode cX4_joined 76 = .ok (.iconst 1, 1) := by decide +kernel
theorem dX4_joined_77 : decode cX4_joined 77 = .ok (.goto 4, 3) := by decide +kernel
theorem dX4_joined_80 : decode cX4_joined 80 = .ok (.iconst 0, 1) := by decide +kernel
theorem dX4_joined_81 : decode cX4_joined 81 = .ok (.ireturn, 1) := by decide +kernel
theorem dX4_joined_82 : decode cX4_joined 82 = .ok (.iload_n 1, 1) := by decide +kernel
theorem dX4_joined_83 : decode cX4_joined 83 = .ok (.iload_n 2, 1) := by decide +kernel
theorem dX4_joined_84 : decode cX4_joined 84 = .ok (.if_icmp .ne 7, 3) := by decide +kernel
theorem dX4_joined_87 : decode cX4_joined 87 = .ok (.iconst 1, 1) := by decide +kernel
theorem dX4_joined_88 : decode cX4_joined 88 = .ok (.goto 4, 3) := by decide +kernel
theorem dX4_joined_91 : decode cX4_joined 91 = .ok (.iconst 0, 1) := by decide +kernel
theorem dX4_joined_92 : decode cX4_joined 92 = .ok (.ireturn, 1) := by decide +kernel
theorem dX4_joined_93 : decode cX4_joined 93 = .ok (.iload_n 1, 1) := by decide +kernel
theorem dX4_joined_94 : decode cX4_joined 94 = .ok (.iload_n 2, 1) := by decide +kernel
theorem dX4_joined_95 : decode cX4_joined 95 = .ok (.iadd, 1) := by decide +kernel
theorem dX4_joined_96 : decode cX4_joined 96 = .ok (.ireturn, 1) := by decide +kernel
theorem dX4_joined_97 : decode cX4_joined 97 = .ok (.iload_n 1, 1) := by decide +kernel
theorem dX4_joined_98 : decode cX4_joined 98 = .ok (.iload_n 2, 1) := by decide +kernel
theorem dX4_joined_99 : decode cX4_joined 99 = .ok (.isub, 1) := by decide +kernel
theorem dX4_joined_100 : decode cX4_joined 100 = .ok (.ireturn, 1) := by decide +kernel
theorem dX4_joined_101 : decode cX4_joined 101 = .ok (.iload_n 1, 1) := by decide +kernel
theorem dX4_joined_102 : decode cX4_joined 102 = .ok (.iload_n 2, 1) := by decide +kernel
theorem dX4_joined_103 : decode cX4_joined 103 = .ok (.imul, 1) := by decide +kernel
theorem dX4_joined_104 : decode cX4_joined 104 = .ok (.ireturn, 1) := by decide +kernel
theorem dX4_joined_105 : decode cX4_joined 105 = .ok (.iload_n 2, 1) := by decide +kernel
theorem dX4_joined_106 : decode cX4_joined 106 = .ok (.ifCond .ne 7, 3) := by decide +kernel
theorem dX4_joined_109 : decode cX4_joined 109 = .ok (.iconst 0, 1) := by decide +kernel
theorem dX4_joined_110 : decode cX4_joined 110 = .ok (.goto 6, 3) := by decide +kernel
theorem dX4_joined_113 : decode cX4_joined 113 = .ok (.iload_n 1, 1) := by decide +kernel
theorem dX4_joined_114 : decode cX4_joined 114 = .ok (.iload_n 2, 1) := by decide +kernel
theorem dX4_joined_115 : decode cX4_joined 115 = .ok (.idiv, 1) := by decide +kernel
theorem dX4_joined_116 : decode cX4_joined 116 = .ok (.ireturn, 1) := by decide +kernel
theorem dX4_goesOf_0 : decode cX4_goesOf 0 = .ok (.bipush (-100), 2) := by decide +kernel
theorem dX4_goesOf_2 : decode cX4_goesOf 2 = .ok (.istore_n 2, 1) := by decide +kernel
theorem dX4_goesOf_3 : decode cX4_goesOf 3 = .ok (.iconst 0, 1) := by decide +kernel
theorem dX4_goesOf_4 : decode cX4_goesOf 4 = .ok (.istore_n 3, 1) := by decide +kernel
theorem dX4_goesOf_5 : decode cX4_goesOf 5 = .ok (.iconst 0, 1) := by decide +kernel
theorem dX4_goesOf_6 : decode cX4_goesOf 6 = .ok (.istore 4, 2) := by decide +kernel
theorem dX4_goesOf_8 : decode cX4_goesOf 8 = .ok (.iload 4, 2) := by decide +kernel
theorem dX4_goesOf_10 : decode cX4_goesOf 10 = .ok (.iconst 1, 1) := by decide +kernel
theorem dX4_goesOf_11 : decode cX4_goesOf 11 = .ok (.if_icmp .gt 58, 3) := by decide +kernel
theorem dX4_goesOf_14 : decode cX4_goesOf 14 = .ok (.iconst 0, 1) := by decide +kernel
theorem dX4_goesOf_15 : decode cX4_goesOf 15 = .ok (.istore 5, 2) := by decide +kernel
theorem dX4_goesOf_17 : decode cX4_goesOf 17 = .ok (.iload 5, 2) := by decide +kernel
theorem dX4_goesOf_19 : decode cX4_goesOf 19 = .ok (.aload_n 1, 1) := by decide +kernel
theorem dX4_goesOf_20 : decode cX4_goesOf 20 = .ok (.iload 4, 2) := by decide +kernel
theorem dX4_goesOf_22 : decode cX4_goesOf 22 = .ok (.invokevirtual 111, 3) := by decide +kernel
theorem dX4_goesOf_25 : decode cX4_goesOf 25 = .ok (.if_icmp .ge 38, 3) := by decide +kernel
theorem dX4_goesOf_28 : decode cX4_goesOf 28 = .ok (.aload_n 0, 1) := by decide +kernel
theorem dX4_goesOf_29 : decode cX4_goesOf 29 = .ok (.aload_n 1, 1) := by decide +kernel
theorem dX4_goesOf_30 : decode cX4_goesOf 30 = .ok (.iload 4, 2) := by decide +kernel
theorem dX4_goesOf_32 : decode cX4_goesOf 32 = .ok (.iload 5, 2) := by decide +kernel
theorem dX4_goesOf_34 : decode cX4_goesOf 34 = .ok (.invokevirtual 120, 3) := by decide +kernel
theorem dX4_goesOf_37 : decode cX4_goesOf 37 = .ok (.istore 6, 2) := by decide +kernel
theorem dX4_goesOf_39 : decode cX4_goesOf 39 = .ok (.iload 6, 2) := by decide +kernel
theorem dX4_goesOf_41 : decode cX4_goesOf 41 = .ok (.iload_n 2, 1) := by decide +kernel
theorem dX4_goesOf_42 : decode cX4_goesOf 42 = .ok (.if_icmp .le 15, 3) := by decide +kernel
theorem dX4_goesOf_45 : decode cX4_goesOf 45 = .ok (.iload 6, 2) := by decide +kernel
theorem dX4_goesOf_47 : decode cX4_goesOf 47 = .ok (.istore_n 2, 1) := by decide +kernel
theorem dX4_goesOf_48 : decode cX4_goesOf 48 = .ok (.bipush 6, 2) := by decide +kernel
theorem dX4_goesOf_50 : decode cX4_goesOf 50 = .ok (.iload 4, 2) := by decide +kernel
theorem dX4_goesOf_52 : decode cX4_goesOf 52 = .ok (.imul, 1) := by decide +kernel
theorem dX4_goesOf_53 : decode cX4_goesOf 53 = .ok (.iload 5, 2) := by decide +kernel
theorem dX4_goesOf_55 : decode cX4_goesOf 55 = .ok (.iadd, 1) := by decide +kernel
theorem dX4_goesOf_56 : decode cX4_goesOf 56 = .ok (.istore_n 3, 1) := by decide +kernel
theorem dX4_goesOf_57 : decode cX4_goesOf 57 = .ok (.iinc 5 1, 3) := by decide +kernel
theorem dX4_goesOf_60 : decode cX4_goesOf 60 = .ok (.goto (-43), 3) := by decide +kernel
theorem dX4_goesOf_63 : decode cX4_goesOf 63 = .ok (.iinc 4 1, 3) := by decide +kernel
theorem dX4_goesOf_66 : decode cX4_goesOf 66 = .ok (.goto (-58), 3) := by decide +kernel
theorem dX4_goesOf_69 : decode cX4_goesOf 69 = .ok (.aload_n 1, 1) := by decide +kernel
theorem dX4_goesOf_70 : decode cX4_goesOf 70 = .ok (.iload_n 3, 1) := by decide +kernel
theorem dX4_goesOf_71 : decode cX4_goesOf 71 = .ok (.bipush 6, 2) := by decide +kernel
theorem dX4_goesOf_73 : decode cX4_goesOf 73 = .ok (.idiv, 1) := by decide +kernel
theorem dX4_goesOf_74 : decode cX4_goesOf 74 = .ok (.invokevirtual 111, 3) := by decide +kernel
theorem dX4_goesOf_77 : decode cX4_goesOf 77 = .ok (.iconst 1, 1) := by decide +kernel
theorem dX4_goesOf_78 : decode cX4_goesOf 78 = .ok (.if_icmp .le 7, 3) := by decide +kernel
theorem dX4_goesOf_81 : decode cX4_goesOf 81 = .ok (.iload_n 3, 1) := by decide +kernel
theorem dX4_goesOf_82 : decode cX4_goesOf 82 = .ok (.goto 5, 3) := by decide +kernel
theorem dX4_goesOf_85 : decode cX4_goesOf 85 = .ok (.bipush (-2), 2) := by decide +kernel
theorem dX4_goesOf_87 : decode cX4_goesOf 87 = .ok (.ireturn, 1) := by decide +kernel
theorem dX5_init_0 : decode cX5_init 0 = .ok (.aload_n 0, 1) := by decide +kernel
theorem dX5_init_1 : decode cX5_init 1 = .ok (.invokespecial 3, 3) := by decide +kernel
theorem dX5_init_4 : decode cX5_init 4 = .ok (.aload_n 0, 1) := by decide +kernel
theorem dX5_init_5 : decode cX5_init 5 = .ok (.bipush 12, 2) := by decide +kernel
theorem dX5_init_7 : decode cX5_init 7 = .ok (.newarray .int, 2) := by decide +kernel
theorem dX5_init_9 : decode cX5_init 9 = .ok (.putfield 9, 3) := by decide +kernel
theorem dX5_init_12 : decode cX5_init 12 = .ok (.aload_n 0, 1) := by decide +kernel
theorem dX5_init_13 : decode cX5_init 13 = .ok (.bipush 12, 2) := by decide +kernel
theorem dX5_init_15 : decode cX5_init 15 = .ok (.newarray .int, 2) := by decide +kernel
theorem dX5_init_17 : decode cX5_init 17 = .ok (.putfield 15, 3) := by decide +kernel
theorem dX5_init_20 : decode cX5_init 20 = .ok (.aload_n 0, 1) := by decide +kernel
theorem dX5_init_21 : decode cX5_init 21 = .ok (.iconst 0, 1) := by decide +kernel
theorem dX5_init_22 : decode cX5_init 22 = .ok (.putfield 18, 3) := by decide +kernel
theorem dX5_init_25 : decode cX5_init 25 = .ok (.return_, 1) := by decide +kernel
theorem dX5_mostOf_0 : decode cX5_mostOf 0 = .ok (.iload_n 0, 1) := by decide +kernel
theorem dX5_mostOf_1 : decode cX5_mostOf 1 = .ok (.tableswitch 42 0 4 #[35, 37, 40, 35, 40], 35) := by decide +kernel
theorem dX5_mostOf_36 : decode cX5_mostOf 36 = .ok (.iconst 1, 1) := by decide +kernel
theorem dX5_mostOf_37 : decode cX5_mostOf 37 = .ok (.ireturn, 1) := by decide +kernel
theorem dX5_mostOf_38 : decode cX5_mostOf 38 = .ok (.bipush 6, 2) := by decide +kernel
theorem dX5_mostOf_40 : decode cX5_mostOf 40 = .ok (.ireturn, 1) := by decide +kernel
theorem dX5_mostOf_41 : decode cX5_mostOf 41 = .ok (.iconst 5, 1) := by decide +kernel
theorem dX5_mostOf_42 : decode cX5_mostOf 42 = .ok (.ireturn, 1) := by decide +kernel
theorem dX5_mostOf_43 : decode cX5_mostOf 43 = .ok (.iconst (-1), 1) := by decide +kernel
theorem dX5_mostOf_44 : decode cX5_mostOf 44 = .ok (.ireturn, 1) := by decide +kernel
theorem dX5_add_0 : decode cX5_add 0 = .ok (.aload_n 0, 1) := by decide +kernel
theorem dX5_add_1 : decode cX5_add 1 = .ok (.getfield 18, 3) := by decide +kernel
theorem dX5_add_4 : decode cX5_add 4 = .ok (.aload_n 0, 1) := by decide +kernel
theorem dX5_add_5 : decode cX5_add 5 = .ok (.getfield 9, 3) := by decide +kernel
theorem dX5_add_8 : decode cX5_add 8 = .ok (.arraylength, 1) := by decide +kernel
theorem dX5_add_9 : decode cX5_add 9 = .ok (.if_icmp .ge 33, 3) := by decide +kernel
theorem dX5_add_12 : decode cX5_add 12 = .ok (.aload_n 0, 1) := by decide +kernel
theorem dX5_add_13 : decode cX5_add 13 = .ok (.getfield 9, 3) := by decide +kernel
theorem dX5_add_16 : decode cX5_add 16 = .ok (.aload_n 0, 1) := by decide +kernel
theorem dX5_add_17 : decode cX5_add 17 = .ok (.getfield 18, 3) := by decide +kernel
theorem dX5_add_20 : decode cX5_add 20 = .ok (.iload_n 1, 1) := by decide +kernel
theorem dX5_add_21 : decode cX5_add 21 = .ok (.iastore, 1) := by decide +kernel
theorem dX5_add_22 : decode cX5_add 22 = .ok (.aload_n 0, 1) := by decide +kernel
theorem dX5_add_23 : decode cX5_add 23 = .ok (.getfield 15, 3) := by decide +kernel
theorem dX5_add_26 : decode cX5_add 26 = .ok (.aload_n 0, 1) := by decide +kernel
theorem dX5_add_27 : decode cX5_add 27 = .ok (.getfield 18, 3) := by decide +kernel
theorem dX5_add_30 : decode cX5_add 30 = .ok (.iload_n 2, 1) := by decide +kernel
theorem dX5_add_31 : decode cX5_add 31 = .ok (.iastore, 1) := by decide +kernel
theorem dX5_add_32 : decode cX5_add 32 = .ok (.aload_n 0, 1) := by decide +kernel
theorem dX5_add_33 : decode cX5_add 33 = .ok (.dup, 1) := by decide +kernel
theorem dX5_add_34 : decode cX5_add 34 = .ok (.getfield 18, 3) := by decide +kernel
theorem dX5_add_37 : decode cX5_add 37 = .ok (.iconst 1, 1) := by decide +kernel
theorem dX5_add_38 : decode cX5_add 38 = .ok (.iadd, 1) := by decide +kernel
theorem dX5_add_39 : decode cX5_add 39 = .ok (.putfield 18, 3) := by decide +kernel
theorem dX5_add_42 : decode cX5_add 42 = .ok (.return_, 1) := by decide +kernel
theorem dX5_those_0 : decode cX5_those 0 = .ok (.iconst 0, 1) := by decide +kernel
theorem dX5_those_1 : decode cX5_those 1 = .ok (.istore 4, 2) := by decide +kernel
theorem dX5_those_3 : decode cX5_those 3 = .ok (.iconst 0, 1) := by decide +kernel
theorem dX5_those_4 : decode cX5_those 4 = .ok (.istore 5, 2) := by decide +kernel
theorem dX5_those_6 : decode cX5_those 6 = .ok (.iload 5, 2) := by decide +kernel
theorem dX5_those_8 : decode cX5_those 8 = .ok (.bipush 12, 2) := by decide +kernel
theorem dX5_those_10 : decode cX5_those 10 = .ok (.if_icmp .ge 46, 3) := by decide +kernel
theorem dX5_those_13 : decode cX5_those 13 = .ok (.iload_n 0, 1) := by decide +kernel
theorem dX5_those_14 : decode cX5_those 14 = .ok (.iload 5, 2) := by decide +kernel
theorem dX5_those_16 : decode cX5_those 16 = .ok (.iushr, 1) := by decide +kernel
theorem dX5_those_17 : decode cX5_those 17 = .ok (.iconst 1, 1) := by decide +kernel
theorem dX5_those_18 : decode cX5_those 18 = .ok (.iand, 1) := by decide +kernel
theorem dX5_those_19 : decode cX5_those 19 = .ok (.ifCond .eq 31, 3) := by decide +kernel
theorem dX5_those_22 : decode cX5_those 22 = .ok (.iload_n 1, 1) := by decide +kernel
theorem dX5_those_23 : decode cX5_those 23 = .ok (.iload_n 2, 1) := by decide +kernel
theorem dX5_those_24 : decode cX5_those 24 = .ok (.aload_n 3, 1) := by decide +kernel
theorem dX5_those_25 : decode cX5_those 25 = .ok (.iload 5, 2) := by decide +kernel
theorem dX5_those_27 : decode cX5_those 27 = .ok (.bipush 6, 2) := by decide +kernel
theorem dX5_those_29 : decode cX5_those 29 = .ok (.idiv, 1) := by decide +kernel
theorem dX5_those_30 : decode cX5_those 30 = .ok (.iload 5, 2) := by decide +kernel
theorem dX5_those_32 : decode cX5_those 32 = .ok (.bipush 6, 2) := by decide +kernel
theorem dX5_those_34 : decode cX5_those 34 = .ok (.irem, 1) := by decide +kernel
theorem dX5_those_35 : decode cX5_those 35 = .ok (.invokestatic 22, 3) := by decide +kernel
theorem dX5_those_38 : decode cX5_those 38 = .ok (.ifCond .eq 12, 3) := by decide +kernel
theorem dX5_those_41 : decode cX5_those 41 = .ok (.iload 4, 2) := by decide +kernel
theorem dX5_those_43 : decode cX5_those 43 = .ok (.iconst 1, 1) := by decide +kernel
theorem dX5_those_44 : decode cX5_those 44 = .ok (.iload 5, 2) := by decide +kernel
theorem dX5_those_46 : decode cX5_those 46 = .ok (.ishl, 1) := by decide +kernel
theorem dX5_those_47 : decode cX5_those 47 = .ok (.ior, 1) := by decide +kernel
theorem dX5_those_48 : decode cX5_those 48 = .ok (.istore 4, 2) := by decide +kernel
theorem dX5_those_50 : decode cX5_those 50 = .ok (.iinc 5 1, 3) := by decide +kernel
theorem dX5_those_53 : decode cX5_those 53 = .ok (.goto (-47), 3) := by decide +kernel
theorem dX5_those_56 : decode cX5_those 56 = .ok (.iload 4, 2) := by decide +kernel
theorem dX5_those_58 : decode cX5_those 58 = .ok (.ireturn, 1) := by decide +kernel
theorem dX5_isSo_0 : decode cX5_isSo 0 = .ok (.iload_n 0, 1) := by decide +kernel
theorem dX5_isSo_1 : decode cX5_isSo 1 = .ok (.tableswitch 105 0 3 #[31, 42, 62, 79], 31) := by decide +kernel
theorem dX5_isSo_32 : decode cX5_isSo 32 = .ok (.iload_n 3, 1) := by decide +kernel
theorem dX5_isSo_33 : decode cX5_isSo 33 = .ok (.iload_n 1, 1) := by decide +kernel
theorem dX5_isSo_34 : decode cX5_isSo 34 = .ok (.if_icmp .ne 7, 3) := by decide +kernel
theorem dX5_isSo_37 : decode cX5_isSo 37 = .ok (.iconst 1, 1) := by decide +kernel
theorem dX5_isSo_38 : decode cX5_isSo 38 = .ok (.goto 4, 3) := by decide +kernel
theorem dX5_isSo_41 : decode cX5_isSo 41 = .ok (.iconst 0, 1) := by decide +kernel
theorem dX5_isSo_42 : decode cX5_isSo 42 = .ok (.ireturn, 1) := by decide +kernel
theorem dX5_isSo_43 : decode cX5_isSo 43 = .ok (.aload_n 2, 1) := by decide +kernel
theorem dX5_isSo_44 : decode cX5_isSo 44 = .ok (.iload_n 3, 1) := by decide +kernel
theorem dX5_isSo_45 : decode cX5_isSo 45 = .ok (.iload 4, 2) := by decide +kernel
theorem dX5_isSo_47 : decode cX5_isSo 47 = .ok (.invokevirtual 26, 3) := by decide +kernel
theorem dX5_isSo_50 : decode cX5_isSo 50 = .ok (.invokestatic 32, 3) := by decide +kernel
theorem dX5_isSo_53 : decode cX5_isSo 53 = .ok (.iload_n 1, 1) := by decide +kernel
theorem dX5_isSo_54 : decode cX5_isSo 54 = .ok (.if_icmp .lt 7, 3) := by decide +kernel
theorem dX5_isSo_57 : decode cX5_isSo 57 = .ok (.iconst 1, 1) := by decide +kernel
theorem dX5_isSo_58 : decode cX5_isSo 58 = .ok (.goto 4, 3) := by decide +kernel
theorem dX5_isSo_61 : decode cX5_isSo 61 = .ok (.iconst 0, 1) := by decide +kernel
theorem dX5_isSo_62 : decode cX5_isSo 62 = .ok (.ireturn, 1) := by decide +kernel
theorem dX5_isSo_63 : decode cX5_isSo 63 = .ok (.aload_n 2, 1) := by decide +kernel
theorem dX5_isSo_64 : decode cX5_isSo 64 = .ok (.iload_n 3, 1) := by decide +kernel
theorem dX5_isSo_65 : decode cX5_isSo 65 = .ok (.iload 4, 2) := by decide +kernel
theorem dX5_isSo_67 : decode cX5_isSo 67 = .ok (.invokevirtual 38, 3) := by decide +kernel
theorem dX5_isSo_70 : decode cX5_isSo 70 = .ok (.iload_n 1, 1) := by decide +kernel
theorem dX5_isSo_71 : decode cX5_isSo 71 = .ok (.if_icmp .lt 7, 3) := by decide +kernel
theorem dX5_isSo_74 : decode cX5_isSo 74 = .ok (.iconst 1, 1) := by decide +kernel
theorem dX5_isSo_75 : decode cX5_isSo 75 = .ok (.goto 4, 3) := by decide +kernel
theorem dX5_isSo_78 : decode cX5_isSo 78 = .ok (.iconst 0, 1) := by decide +kernel
theorem dX5_isSo_79 : decode cX5_isSo 79 = .ok (.ireturn, 1) := by decide +kernel
theorem dX5_isSo_80 : decode cX5_isSo 80 = .ok (.aload_n 2, 1) := by decide +kernel
theorem dX5_isSo_81 : decode cX5_isSo 81 = .ok (.iload_n 3, 1) := by decide +kernel
theorem dX5_isSo_82 : decode cX5_isSo 82 = .ok (.iload 4, 2) := by decide +kernel
theorem dX5_isSo_84 : decode cX5_isSo 84 = .ok (.invokevirtual 41, 3) := by decide +kernel
theorem dX5_isSo_87 : decode cX5_isSo 87 = .ok (.iload_n 1, 1) := by decide +kernel
theorem dX5_isSo_88 : decode cX5_isSo 88 = .ok (.iconst 1, 1) := by decide +kernel
theorem dX5_isSo_89 : decode cX5_isSo 89 = .ok (.if_icmp .ne 7, 3) := by decide +kernel
theorem dX5_isSo_92 : decode cX5_isSo 92 = .ok (.iconst 1, 1) := by decide +kernel
theorem dX5_isSo_93 : decode cX5_isSo 93 = .ok (.goto 4, 3) := by decide +kernel
theorem dX5_isSo_96 : decode cX5_isSo 96 = .ok (.iconst 0, 1) := by decide +kernel
theorem dX5_isSo_97 : decode cX5_isSo 97 = .ok (.if_icmp .ne 7, 3) := by decide +kernel
theorem dX5_isSo_100 : decode cX5_isSo 100 = .ok (.iconst 1, 1) := by decide +kernel
theorem dX5_isSo_101 : decode cX5_isSo 101 = .ok (.goto 4, 3) := by decide +kernel
theorem dX5_isSo_104 : decode cX5_isSo 104 = .ok (.iconst 0, 1) := by decide +kernel
theorem dX5_isSo_105 : decode cX5_isSo 105 = .ok (.ireturn, 1) := by decide +kernel
theorem dX5_isSo_106 : decode cX5_isSo 106 = .ok (.iload 4, 2) := by decide +kernel
theorem dX5_isSo_108 : decode cX5_isSo 108 = .ok (.iload_n 1, 1) := by decide +kernel
theorem dX5_isSo_109 : decode cX5_isSo 109 = .ok (.if_icmp .gt 7, 3) := by decide +kernel
theorem dX5_isSo_112 : decode cX5_isSo 112 = .ok (.iconst 1, 1) := by decide +kernel
theorem dX5_isSo_113 : decode cX5_isSo 113 = .ok (.goto 4, 3) := by decide +kernel
theorem dX5_isSo_116 : decode cX5_isSo 116 = .ok (.iconst 0, 1) := by decide +kernel
theorem dX5_isSo_117 : decode cX5_isSo 117 = .ok (.ireturn, 1) := by decide +kernel
theorem dX5_fitting_0 : decode cX5_fitting 0 = .ok (.aload_n 1, 1) := by decide +kernel
theorem dX5_fitting_1 : decode cX5_fitting 1 = .ok (.invokevirtual 45, 3) := by decide +kernel
theorem dX5_fitting_4 : decode cX5_fitting 4 = .ok (.istore_n 2, 1) := by decide +kernel
theorem dX5_fitting_5 : decode cX5_fitting 5 = .ok (.iconst 0, 1) := by decide +kernel
theorem dX5_fitting_6 : decode cX5_fitting 6 = .ok (.istore_n 3, 1) := by decide +kernel
theorem dX5_fitting_7 : decode cX5_fitting 7 = .ok (.iload_n 3, 1) := by decide +kernel
theorem dX5_fitting_8 : decode cX5_fitting 8 = .ok (.aload_n 0, 1) := by decide +kernel
theorem dX5_fitting_9 : decode cX5_fitting 9 = .ok (.getfield 18, 3) := by decide +kernel
theorem dX5_fitting_12 : decode cX5_fitting 12 = .ok (.if_icmp .ge 27, 3) := by decide +kernel
theorem dX5_fitting_15 : decode cX5_fitting 15 = .ok (.iload_n 2, 1) := by decide +kernel
theorem dX5_fitting_16 : decode cX5_fitting 16 = .ok (.aload_n 0, 1) := by decide +kernel
theorem dX5_fitting_17 : decode cX5_fitting 17 = .ok (.getfield 9, 3) := by decide +kernel
theorem dX5_fitting_20 : decode cX5_fitting 20 = .ok (.iload_n 3, 1) := by decide +kernel
theorem dX5_fitting_21 : decode cX5_fitting 21 = .ok (.iaload, 1) := by decide +kernel
theorem dX5_fitting_22 : decode cX5_fitting 22 = .ok (.aload_n 0, 1) := by decide +kernel
theorem dX5_fitting_23 : decode cX5_fitting 23 = .ok (.getfield 15, 3) := by decide +kernel
theorem dX5_fitting_26 : decode cX5_fitting 26 = .ok (.iload_n 3, 1) := by decide +kernel
theorem dX5_fitting_27 : decode cX5_fitting 27 = .ok (.iaload, 1) := by decide +kernel
theorem dX5_fitting_28 : decode cX5_fitting 28 = .ok (.aload_n 1, 1) := by decide +kernel
theorem dX5_fitting_29 : decode cX5_fitting 29 = .ok (.invokestatic 49, 3) := by decide +kernel
theorem dX5_fitting_32 : decode cX5_fitting 32 = .ok (.istore_n 2, 1) := by decide +kernel
theorem dX5_fitting_33 : decode cX5_fitting 33 = .ok (.iinc 3 1, 3) := by decide +kernel
theorem dX5_fitting_36 : decode cX5_fitting 36 = .ok (.goto (-29), 3) := by decide +kernel
theorem dX5_fitting_39 : decode cX5_fitting 39 = .ok (.iload_n 2, 1) := by decide +kernel
theorem dX5_fitting_40 : decode cX5_fitting 40 = .ok (.ireturn, 1) := by decide +kernel
theorem dX6_init_0 : decode cX6_init 0 = .ok (.aload_n 0, 1) := by decide +kernel
theorem dX6_init_1 : decode cX6_init 1 = .ok (.invokespecial 3, 3) := by decide +kernel
theorem dX6_init_4 : decode cX6_init 4 = .ok (.aload_n 0, 1) := by decide +kernel
theorem dX6_init_5 : decode cX6_init 5 = .ok (.bipush 80, 2) := by decide +kernel
theorem dX6_init_7 : decode cX6_init 7 = .ok (.newarray .int, 2) := by decide +kernel
theorem dX6_init_9 : decode cX6_init 9 = .ok (.putfield 9, 3) := by decide +kernel
theorem dX6_init_12 : decode cX6_init 12 = .ok (.aload_n 0, 1) := by decide +kernel
theorem dX6_init_13 : decode cX6_init 13 = .ok (.iconst 0, 1) := by decide +kernel
theorem dX6_init_14 : decode cX6_init 14 = .ok (.putfield 15, 3) := by decide +kernel
theorem dX6_init_17 : decode cX6_init 17 = .ok (.return_, 1) := by decide +kernel
theorem dX6_add_0 : decode cX6_add 0 = .ok (.aload_n 0, 1) := by decide +kernel
theorem dX6_add_1 : decode cX6_add 1 = .ok (.getfield 15, 3) := by decide +kernel
theorem dX6_add_4 : decode cX6_add 4 = .ok (.aload_n 0, 1) := by decide +kernel
theorem dX6_add_5 : decode cX6_add 5 = .ok (.getfield 9, 3) := by decide +kernel
theorem dX6_add_8 : decode cX6_add 8 = .ok (.arraylength, 1) := by decide +kernel
theorem dX6_add_9 : decode cX6_add 9 = .ok (.if_icmp .ge 23, 3) := by decide +kernel
theorem dX6_add_12 : decode cX6_add 12 = .ok (.aload_n 0, 1) := by decide +kernel
theorem dX6_add_13 : decode cX6_add 13 = .ok (.getfield 9, 3) := by decide +kernel
theorem dX6_add_16 : decode cX6_add 16 = .ok (.aload_n 0, 1) := by decide +kernel
theorem dX6_add_17 : decode cX6_add 17 = .ok (.getfield 15, 3) := by decide +kernel
theorem dX6_add_20 : decode cX6_add 20 = .ok (.iload_n 1, 1) := by decide +kernel
theorem dX6_add_21 : decode cX6_add 21 = .ok (.iastore, 1) := by decide +kernel
theorem dX6_add_22 : decode cX6_add 22 = .ok (.aload_n 0, 1) := by decide +kernel
theorem dX6_add_23 : decode cX6_add 23 = .ok (.dup, 1) := by decide +kernel
theorem dX6_add_24 : decode cX6_add 24 = .ok (.getfield 15, 3) := by decide +kernel
theorem dX6_add_27 : decode cX6_add 27 = .ok (.iconst 1, 1) := by decide +kernel
theorem dX6_add_28 : decode cX6_add 28 = .ok (.iadd, 1) := by decide +kernel
theorem dX6_add_29 : decode cX6_add 29 = .ok (.putfield 15, 3) := by decide +kernel
theorem dX6_add_32 : decode cX6_add 32 = .ok (.return_, 1) := by decide +kernel
theorem dX6_at_0 : decode cX6_at 0 = .ok (.iload_n 1, 1) := by decide +kernel
theorem dX6_at_1 : decode cX6_at 1 = .ok (.ifCond .lt 20, 3) := by decide +kernel
theorem dX6_at_4 : decode cX6_at 4 = .ok (.iload_n 1, 1) := by decide +kernel
theorem dX6_at_5 : decode cX6_at 5 = .ok (.aload_n 0, 1) := by decide +kernel
theorem dX6_at_6 : decode cX6_at 6 = .ok (.getfield 15, 3) := by decide +kernel
theorem dX6_at_9 : decode cX6_at 9 = .ok (.if_icmp .ge 12, 3) := by decide +kernel
theorem dX6_at_12 : decode cX6_at 12 = .ok (.aload_n 0, 1) := by decide +kernel
theorem dX6_at_13 : decode cX6_at 13 = .ok (.getfield 9, 3) := by decide +kernel
theorem dX6_at_16 : decode cX6_at 16 = .ok (.iload_n 1, 1) := by decide +kernel
theorem dX6_at_17 : decode cX6_at 17 = .ok (.iaload, 1) := by decide +kernel
theorem dX6_at_18 : decode cX6_at 18 = .ok (.goto 4, 3) := by decide +kernel
theorem dX6_at_21 : decode cX6_at 21 = .ok (.iconst (-1), 1) := by decide +kernel
theorem dX6_at_22 : decode cX6_at 22 = .ok (.ireturn, 1) := by decide +kernel
theorem dX6_digit_0 : decode cX6_digit 0 = .ok (.aload_n 0, 1) := by decide +kernel
theorem dX6_digit_1 : decode cX6_digit 1 = .ok (.iload_n 1, 1) := by decide +kernel
theorem dX6_digit_2 : decode cX6_digit 2 = .ok (.invokevirtual 19, 3) := by decide +kernel
theorem dX6_digit_5 : decode cX6_digit 5 = .ok (.istore_n 2, 1) := by decide +kernel
theorem dX6_digit_6 : decode cX6_digit 6 = .ok (.iload_n 2, 1) := by decide +kernel
theorem dX6_digit_7 : decode cX6_digit 7 = .ok (.bipush 48, 2) := by decide +kernel
theorem dX6_digit_9 : decode cX6_digit 9 = .ok (.if_icmp .lt 16, 3) := by decide +kernel
theorem dX6_digit_12 : decode cX6_digit 12 = .ok (.iload_n 2, 1) := by decide +kernel
theorem dX6_digit_13 : decode cX6_digit 13 = .ok (.bipush 57, 2) := by decide +kernel
theorem dX6_digit_15 : decode cX6_digit 15 = .ok (.if_icmp .gt 10, 3) := by decide +kernel
theorem dX6_digit_18 : decode cX6_digit 18 = .ok (.iload_n 2, 1) := by decide +kernel
theorem dX6_digit_19 : decode cX6_digit 19 = .ok (.bipush 48, 2) := by decide +kernel
theorem dX6_digit_21 : decode cX6_digit 21 = .ok (.isub, 1) := by decide +kernel
theorem dX6_digit_22 : decode cX6_digit 22 = .ok (.goto 4, 3) := by decide +kernel
theorem dX6_digit_25 : decode cX6_digit 25 = .ok (.iconst (-1), 1) := by decide +kernel
theorem dX6_digit_26 : decode cX6_digit 26 = .ok (.ireturn, 1) := by decide +kernel
theorem dX7_init_0 : decode cX7_init 0 = .ok (.aload_n 0, 1) := by decide +kernel
theorem dX7_init_1 : decode cX7_init 1 = .ok (.invokespecial 3, 3) := by decide +kernel
theorem dX7_init_4 : decode cX7_init 4 = .ok (.aload_n 0, 1) := by decide +kernel
theorem dX7_init_5 : decode cX7_init 5 = .ok (.iconst 1, 1) := by decide +kernel
theorem dX7_init_6 : decode cX7_init 6 = .ok (.putfield 9, 3) := by decide +kernel
theorem dX7_init_9 : decode cX7_init 9 = .ok (.aload_n 0, 1) := by decide +kernel
theorem dX7_init_10 : decode cX7_init 10 = .ok (.iconst 1, 1) := by decide +kernel
theorem dX7_init_11 : decode cX7_init 11 = .ok (.putfield 15, 3) := by decide +kernel
theorem dX7_init_14 : decode cX7_init 14 = .ok (.aload_n 0, 1) := by decide +kernel
theorem dX7_init_15 : decode cX7_init 15 = .ok (.iconst 0, 1) := by decide +kernel
theorem dX7_init_16 : decode cX7_init 16 = .ok (.putfield 18, 3) := by decide +kernel
theorem dX7_init_19 : decode cX7_init 19 = .ok (.aload_n 0, 1) := by decide +kernel
theorem dX7_init_20 : decode cX7_init 20 = .ok (.bipush 12, 2) := by decide +kernel
theorem dX7_init_22 : decode cX7_init 22 = .ok (.newarray .int, 2) := by decide +kernel
theorem dX7_init_24 : decode cX7_init 24 = .ok (.dup, 1) := by decide +kernel
theorem dX7_init_25 : decode cX7_init 25 = .ok (.iconst 0, 1) := by decide +kernel
theorem dX7_init_26 : decode cX7_init 26 = .ok (.iconst 1, 1) := by decide +kernel
theorem dX7_init_27 : decode cX7_init 27 = .ok (.iastore, 1) := by decide +kernel
theorem dX7_init_28 : decode cX7_init 28 = .ok (.dup, 1) := by decide +kernel
theorem dX7_init_29 : decode cX7_init 29 = .ok (.iconst 1, 1) := by decide +kernel
theorem dX7_init_30 : decode cX7_init 30 = .ok (.iconst 0, 1) := by decide +kernel
theorem dX7_init_31 : decode cX7_init 31 = .ok (.iastore, 1) := by decide +kernel
theorem dX7_init_32 : decode cX7_init 32 = .ok (.dup, 1) := by decide +kernel
theorem dX7_init_33 : decode cX7_init 33 = .ok (.iconst 2, 1) := by decide +kernel
theorem dX7_init_34 : decode cX7_init 34 = .ok (.iconst 0, 1) := by decide +kernel
theorem dX7_init_35 : decode cX7_init 35 = .ok (.iastore, 1) := by decide +kernel
theorem dX7_init_36 : decode cX7_init 36 = .ok (.dup, 1) := by decide +kernel
theorem dX7_init_37 : decode cX7_init 37 = .ok (.iconst 3, 1) := by decide +kernel
theorem dX7_init_38 : decode cX7_init 38 = .ok (.iconst 0, 1) := by decide +kernel
theorem dX7_init_39 : decode cX7_init 39 = .ok (.iastore, 1) := by decide +kernel
theorem dX7_init_40 : decode cX7_init 40 = .ok (.dup, 1) := by decide +kernel
theorem dX7_init_41 : decode cX7_init 41 = .ok (.iconst 4, 1) := by decide +kernel
theorem dX7_init_42 : decode cX7_init 42 = .ok (.iconst 0, 1) := by decide +kernel
theorem dX7_init_43 : decode cX7_init 43 = .ok (.iastore, 1) := by decide +kernel
theorem dX7_init_44 : decode cX7_init 44 = .ok (.dup, 1) := by decide +kernel
theorem dX7_init_45 : decode cX7_init 45 = .ok (.iconst 5, 1) := by decide +kernel
theorem dX7_init_46 : decode cX7_init 46 = .ok (.iconst 0, 1) := by decide +kernel
theorem dX7_init_47 : decode cX7_init 47 = .ok (.iastore, 1) := by decide +kernel
theorem dX7_init_48 : decode cX7_init 48 = .ok (.dup, 1) := by decide +kernel
theorem dX7_init_49 : decode cX7_init 49 = .ok (.bipush 6, 2) := by decide +kernel
theorem dX7_init_51 : decode cX7_init 51 = .ok (.iconst 0, 1) := by decide +kernel
theorem dX7_init_52 : decode cX7_init 52 = .ok (.iastore, 1) := by decide +kernel
theorem dX7_init_53 : decode cX7_init 53 = .ok (.dup, 1) := by decide +kernel
theorem dX7_init_54 : decode cX7_init 54 = .ok (.bipush 7, 2) := by decide +kernel
theorem dX7_init_56 : decode cX7_init 56 = .ok (.iconst 0, 1) := by decide +kernel
theorem dX7_init_57 : decode cX7_init 57 = .ok (.iastore, 1) := by decide +kernel
theorem dX7_init_58 : decode cX7_init 58 = .ok (.dup, 1) := by decide +kernel
theorem dX7_init_59 : decode cX7_init 59 = .ok (.bipush 8, 2) := by decide +kernel
theorem dX7_init_61 : decode cX7_init 61 = .ok (.iconst 0, 1) := by decide +kernel
theorem dX7_init_62 : decode cX7_init 62 = .ok (.iastore, 1) := by decide +kernel
theorem dX7_init_63 : decode cX7_init 63 = .ok (.dup, 1) := by decide +kernel
theorem dX7_init_64 : decode cX7_init 64 = .ok (.bipush 9, 2) := by decide +kernel
theorem dX7_init_66 : decode cX7_init 66 = .ok (.iconst 0, 1) := by decide +kernel
theorem dX7_init_67 : decode cX7_init 67 = .ok (.iastore, 1) := by decide +kernel
theorem dX7_init_68 : decode cX7_init 68 = .ok (.dup, 1) := by decide +kernel
theorem dX7_init_69 : decode cX7_init 69 = .ok (.bipush 10, 2) := by decide +kernel
theorem dX7_init_71 : decode cX7_init 71 = .ok (.iconst 0, 1) := by decide +kernel
theorem dX7_init_72 : decode cX7_init 72 = .ok (.iastore, 1) := by decide +kernel
theorem dX7_init_73 : decode cX7_init 73 = .ok (.dup, 1) := by decide +kernel
theorem dX7_init_74 : decode cX7_init 74 = .ok (.bipush 11, 2) := by decide +kernel
theorem dX7_init_76 : decode cX7_init 76 = .ok (.iconst 0, 1) := by decide +kernel
theorem dX7_init_77 : decode cX7_init 77 = .ok (.iastore, 1) := by decide +kernel
theorem dX7_init_78 : decode cX7_init 78 = .ok (.putfield 21, 3) := by decide +kernel
theorem dX7_init_81 : decode cX7_init 81 = .ok (.return_, 1) := by decide +kernel
theorem dX7_sizeOf_0 : decode cX7_sizeOf 0 = .ok (.iload_n 1, 1) := by decide +kernel
theorem dX7_sizeOf_1 : decode cX7_sizeOf 1 = .ok (.ifCond .ne 10, 3) := by decide +kernel
theorem dX7_sizeOf_4 : decode cX7_sizeOf 4 = .ok (.aload_n 0, 1) := by decide +kernel
theorem dX7_sizeOf_5 : decode cX7_sizeOf 5 = .ok (.getfield 9, 3) := by decide +kernel
theorem dX7_sizeOf_8 : decode cX7_sizeOf 8 = .ok (.goto 7, 3) := by decide +kernel
theorem dX7_sizeOf_11 : decode cX7_sizeOf 11 = .ok (.aload_n 0, 1) := by decide +kernel
theorem dX7_sizeOf_12 : decode cX7_sizeOf 12 = .ok (.getfield 15, 3) := by decide +kernel
theorem dX7_sizeOf_15 : decode cX7_sizeOf 15 = .ok (.ireturn, 1) := by decide +kernel
theorem dX7_threads_0 : decode cX7_threads 0 = .ok (.aload_n 0, 1) := by decide +kernel
theorem dX7_threads_1 : decode cX7_threads 1 = .ok (.getfield 9, 3) := by decide +kernel
theorem dX7_threads_4 : decode cX7_threads 4 = .ok (.aload_n 0, 1) := by decide +kernel
theorem dX7_threads_5 : decode cX7_threads 5 = .ok (.getfield 15, 3) := by decide +kernel
theorem dX7_threads_8 : decode cX7_threads 8 = .ok (.iadd, 1) := by decide +kernel
theorem dX7_threads_9 : decode cX7_threads 9 = .ok (.ireturn, 1) := by decide +kernel
theorem dX7_fullOf_0 : decode cX7_fullOf 0 = .ok (.iconst 1, 1) := by decide +kernel
theorem dX7_fullOf_1 : decode cX7_fullOf 1 = .ok (.iload_n 1, 1) := by decide +kernel
theorem dX7_fullOf_2 : decode cX7_fullOf 2 = .ok (.ifCond .ne 10, 3) := by decide +kernel
theorem dX7_fullOf_5 : decode cX7_fullOf 5 = .ok (.aload_n 0, 1) := by decide +kernel
theorem dX7_fullOf_6 : decode cX7_fullOf 6 = .ok (.getfield 15, 3) := by decide +kernel
theorem dX7_fullOf_9 : decode cX7_fullOf 9 = .ok (.goto 7, 3) := by decide +kernel
theorem dX7_fullOf_12 : decode cX7_fullOf 12 = .ok (.aload_n 0, 1) := by decide +kernel
theorem dX7_fullOf_13 : decode cX7_fullOf 13 = .ok (.getfield 9, 3) := by decide +kernel
theorem dX7_fullOf_16 : decode cX7_fullOf 16 = .ok (.ishl, 1) := by decide +kernel
theorem dX7_fullOf_17 : decode cX7_fullOf 17 = .ok (.iconst 1, 1) := by decide +kernel
theorem dX7_fullOf_18 : decode cX7_fullOf 18 = .ok (.isub, 1) := by decide +kernel
theorem dX7_fullOf_19 : decode cX7_fullOf 19 = .ok (.ireturn, 1) := by decide +kernel
theorem dX7_all_0 : decode cX7_all 0 = .ok (.aload_n 0, 1) := by decide +kernel
theorem dX7_all_1 : decode cX7_all 1 = .ok (.iconst 1, 1) := by decide +kernel
theorem dX7_all_2 : decode cX7_all 2 = .ok (.invokevirtual 25, 3) := by decide +kernel
theorem dX7_all_5 : decode cX7_all 5 = .ok (.aload_n 0, 1) := by decide +kernel
theorem dX7_all_6 : decode cX7_all 6 = .ok (.iconst 0, 1) := by decide +kernel
theorem dX7_all_7 : decode cX7_all 7 = .ok (.invokevirtual 25, 3) := by decide +kernel
theorem dX7_all_10 : decode cX7_all 10 = .ok (.bipush 6, 2) := by decide +kernel
theorem dX7_all_12 : decode cX7_all 12 = .ok (.ishl, 1) := by decide +kernel
theorem dX7_all_13 : decode cX7_all 13 = .ok (.ior, 1) := by decide +kernel
theorem dX7_all_14 : decode cX7_all 14 = .ok (.ireturn, 1) := by decide +kernel
theorem dX7_has_0 : decode cX7_has 0 = .ok (.iload_n 1, 1) := by decide +kernel
theorem dX7_has_1 : decode cX7_has 1 = .ok (.ifCond .eq 8, 3) := by decide +kernel
theorem dX7_has_4 : decode cX7_has 4 = .ok (.iload_n 1, 1) := by decide +kernel
theorem dX7_has_5 : decode cX7_has 5 = .ok (.iconst 1, 1) := by decide +kernel
theorem dX7_has_6 : decode cX7_has 6 = .ok (.if_icmp .ne 20, 3) := by decide +kernel
theorem dX7_has_9 : decode cX7_has 9 = .ok (.iload_n 2, 1) := by decide +kernel
theorem dX7_has_10 : decode cX7_has 10 = .ok (.ifCond .lt 16, 3) := by decide +kernel
theorem dX7_has_13 : decode cX7_has 13 = .ok (.iload_n 2, 1) := by decide +kernel
theorem dX7_has_14 : decode cX7_has 14 = .ok (.aload_n 0, 1) := by decide +kernel
theorem dX7_has_15 : decode cX7_has 15 = .ok (.iload_n 1, 1) := by decide +kernel
theorem dX7_has_16 : decode cX7_has 16 = .ok (.invokevirtual 29, 3) := by decide +kernel
theorem dX7_has_19 : decode cX7_has 19 = .ok (.if_icmp .ge 7, 3) := by decide +kernel
theorem dX7_has_22 : decode cX7_has 22 = .ok (.iconst 1, 1) := by decide +kernel
theorem dX7_has_23 : decode cX7_has 23 = .ok (.goto 4, 3) := by decide +kernel
theorem dX7_has_26 : decode cX7_has 26 = .ok (.iconst 0, 1) := by decide +kernel
theorem dX7_has_27 : decode cX7_has 27 = .ok (.ireturn, 1) := by decide +kernel
theorem dX7_crosses_0 : decode cX7_crosses 0 = .ok (.aload_n 0, 1) := by decide +kernel
theorem dX7_crosses_1 : decode cX7_crosses 1 = .ok (.iconst 0, 1) := by decide +kernel
theorem dX7_crosses_2 : decode cX7_crosses 2 = .ok (.iload_n 1, 1) := by decide +kernel
theorem dX7_crosses_3 : decode cX7_crosses 3 = .ok (.invokevirtual 32, 3) := by decide +kernel
theorem dX7_crosses_6 : decode cX7_crosses 6 = .ok (.ifCond .eq 16, 3) := by decide +kernel
theorem dX7_crosses_9 : decode cX7_crosses 9 = .ok (.aload_n 0, 1) := by decide +kernel
theorem dX7_crosses_10 : decode cX7_crosses 10 = .ok (.iconst 1, 1) := by decide +kernel
theorem dX7_crosses_11 : decode cX7_crosses 11 = .ok (.iload_n 2, 1) := by decide +kernel
theorem dX7_crosses_12 : decode cX7_crosses 12 = .ok (.invokevirtual 32, 3) := by decide +kernel
theorem dX7_crosses_15 : decode cX7_crosses 15 = .ok (.ifCond .eq 7, 3) := by decide +kernel
theorem dX7_crosses_18 : decode cX7_crosses 18 = .ok (.iconst 1, 1) := by decide +kernel
theorem dX7_crosses_19 : decode cX7_crosses 19 = .ok (.goto 4, 3) := by decide +kernel
theorem dX7_crosses_22 : decode cX7_crosses 22 = .ok (.iconst 0, 1) := by decide +kernel
theorem dX7_crosses_23 : decode cX7_crosses 23 = .ok (.ireturn, 1) := by decide +kernel
theorem dX7_cellsOf_0 : decode cX7_cellsOf 0 = .ok (.bipush 6, 2) := by decide +kernel
theorem dX7_cellsOf_2 : decode cX7_cellsOf 2 = .ok (.iload_n 1, 1) := by decide +kernel
theorem dX7_cellsOf_3 : decode cX7_cellsOf 3 = .ok (.imul, 1) := by decide +kernel
theorem dX7_cellsOf_4 : decode cX7_cellsOf 4 = .ok (.iload_n 2, 1) := by decide +kernel
theorem dX7_cellsOf_5 : decode cX7_cellsOf 5 = .ok (.iadd, 1) := by decide +kernel
theorem dX7_cellsOf_6 : decode cX7_cellsOf 6 = .ok (.istore_n 3, 1) := by decide +kernel
theorem dX7_cellsOf_7 : decode cX7_cellsOf 7 = .ok (.iload_n 3, 1) := by decide +kernel
theorem dX7_cellsOf_8 : decode cX7_cellsOf 8 = .ok (.ifCond .lt 18, 3) := by decide +kernel
theorem dX7_cellsOf_11 : decode cX7_cellsOf 11 = .ok (.iload_n 3, 1) := by decide +kernel
theorem dX7_cellsOf_12 : decode cX7_cellsOf 12 = .ok (.bipush 12, 2) := by decide +kernel
theorem dX7_cellsOf_14 : decode cX7_cellsOf 14 = .ok (.if_icmp .ge 12, 3) := by decide +kernel
theorem dX7_cellsOf_17 : decode cX7_cellsOf 17 = .ok (.aload_n 0, 1) := by decide +kernel
theorem dX7_cellsOf_18 : decode cX7_cellsOf 18 = .ok (.getfield 21, 3) := by decide +kernel
theorem dX7_cellsOf_21 : decode cX7_cellsOf 21 = .ok (.iload_n 3, 1) := by decide +kernel
theorem dX7_cellsOf_22 : decode cX7_cellsOf 22 = .ok (.iaload, 1) := by decide +kernel
theorem dX7_cellsOf_23 : decode cX7_cellsOf 23 = .ok (.goto 4, 3) := by decide +kernel
theorem dX7_cellsOf_26 : decode cX7_cellsOf 26 = .ok (.iconst 0, 1) := by decide +kernel
theorem dX7_cellsOf_27 : decode cX7_cellsOf 27 = .ok (.ireturn, 1) := by decide +kernel
theorem dX7_overAt_0 : decode cX7_overAt 0 = .ok (.aload_n 0, 1) := by decide +kernel
theorem dX7_overAt_1 : decode cX7_overAt 1 = .ok (.iload_n 1, 1) := by decide +kernel
theorem dX7_overAt_2 : decode cX7_overAt 2 = .ok (.iload_n 2, 1) := by decide +kernel
theorem dX7_overAt_3 : decode cX7_overAt 3 = .ok (.invokevirtual 36, 3) := by decide +kernel
theorem dX7_overAt_6 : decode cX7_overAt 6 = .ok (.ifCond .eq 16, 3) := by decide +kernel
theorem dX7_overAt_9 : decode cX7_overAt 9 = .ok (.aload_n 0, 1) := by decide +kernel
theorem dX7_overAt_10 : decode cX7_overAt 10 = .ok (.getfield 21, 3) := by decide +kernel
theorem dX7_overAt_13 : decode cX7_overAt 13 = .ok (.iload_n 1, 1) := by decide +kernel
theorem dX7_overAt_14 : decode cX7_overAt 14 = .ok (.iaload, 1) := by decide +kernel
theorem dX7_overAt_15 : decode cX7_overAt 15 = .ok (.iload_n 2, 1) := by decide +kernel
theorem dX7_overAt_16 : decode cX7_overAt 16 = .ok (.iushr, 1) := by decide +kernel
theorem dX7_overAt_17 : decode cX7_overAt 17 = .ok (.iconst 1, 1) := by decide +kernel
theorem dX7_overAt_18 : decode cX7_overAt 18 = .ok (.iand, 1) := by decide +kernel
theorem dX7_overAt_19 : decode cX7_overAt 19 = .ok (.goto 4, 3) := by decide +kernel
theorem dX7_overAt_22 : decode cX7_overAt 22 = .ok (.iconst 0, 1) := by decide +kernel
theorem dX7_overAt_23 : decode cX7_overAt 23 = .ok (.ireturn, 1) := by decide +kernel
theorem dX7_overs_0 : decode cX7_overs 0 = .ok (.iconst 0, 1) := by decide +kernel
theorem dX7_overs_1 : decode cX7_overs 1 = .ok (.istore_n 1, 1) := by decide +kernel
theorem dX7_overs_2 : decode cX7_overs 2 = .ok (.iconst 0, 1) := by decide +kernel
theorem dX7_overs_3 : decode cX7_overs 3 = .ok (.istore_n 2, 1) := by decide +kernel
theorem dX7_overs_4 : decode cX7_overs 4 = .ok (.iload_n 2, 1) := by decide +kernel
theorem dX7_overs_5 : decode cX7_overs 5 = .ok (.aload_n 0, 1) := by decide +kernel
theorem dX7_overs_6 : decode cX7_overs 6 = .ok (.getfield 9, 3) := by decide +kernel
theorem dX7_overs_9 : decode cX7_overs 9 = .ok (.if_icmp .ge 21, 3) := by decide +kernel
theorem dX7_overs_12 : decode cX7_overs 12 = .ok (.iload_n 1, 1) := by decide +kernel
theorem dX7_overs_13 : decode cX7_overs 13 = .ok (.aload_n 0, 1) := by decide +kernel
theorem dX7_overs_14 : decode cX7_overs 14 = .ok (.getfield 21, 3) := by decide +kernel
theorem dX7_overs_17 : decode cX7_overs 17 = .ok (.iload_n 2, 1) := by decide +kernel
theorem dX7_overs_18 : decode cX7_overs 18 = .ok (.iaload, 1) := by decide +kernel
theorem dX7_overs_19 : decode cX7_overs 19 = .ok (.invokestatic 39, 3) := by decide +kernel
theorem dX7_overs_22 : decode cX7_overs 22 = .ok (.iadd, 1) := by decide +kernel
theorem dX7_overs_23 : decode cX7_overs 23 = .ok (.istore_n 1, 1) := by decide +kernel
theorem dX7_overs_24 : decode cX7_overs 24 = .ok (.iinc 2 1, 3) := by decide +kernel
theorem dX7_overs_27 : decode cX7_overs 27 = .ok (.goto (-23), 3) := by decide +kernel
theorem dX7_overs_30 : decode cX7_overs 30 = .ok (.iload_n 1, 1) := by decide +kernel
theorem dX7_overs_31 : decode cX7_overs 31 = .ok (.ireturn, 1) := by decide +kernel
theorem dX7_changesOf_0 : decode cX7_changesOf 0 = .ok (.aload_n 0, 1) := by decide +kernel
theorem dX7_changesOf_1 : decode cX7_changesOf 1 = .ok (.iload_n 1, 1) := by decide +kernel
theorem dX7_changesOf_2 : decode cX7_changesOf 2 = .ok (.iload_n 2, 1) := by decide +kernel
theorem dX7_changesOf_3 : decode cX7_changesOf 3 = .ok (.invokevirtual 44, 3) := by decide +kernel
theorem dX7_changesOf_6 : decode cX7_changesOf 6 = .ok (.istore_n 3, 1) := by decide +kernel
theorem dX7_changesOf_7 : decode cX7_changesOf 7 = .ok (.aload_n 0, 1) := by decide +kernel
theorem dX7_changesOf_8 : decode cX7_changesOf 8 = .ok (.iload_n 1, 1) := by decide +kernel
theorem dX7_changesOf_9 : decode cX7_changesOf 9 = .ok (.invokevirtual 25, 3) := by decide +kernel
theorem dX7_changesOf_12 : decode cX7_changesOf 12 = .ok (.iconst 1, 1) := by decide +kernel
theorem dX7_changesOf_13 : decode cX7_changesOf 13 = .ok (.iushr, 1) := by decide +kernel
theorem dX7_changesOf_14 : decode cX7_changesOf 14 = .ok (.istore 4, 2) := by decide +kernel
theorem dX7_changesOf_16 : decode cX7_changesOf 16 = .ok (.iload_n 3, 1) := by decide +kernel
theorem dX7_changesOf_17 : decode cX7_changesOf 17 = .ok (.iload_n 3, 1) := by decide +kernel
theorem dX7_changesOf_18 : decode cX7_changesOf 18 = .ok (.iconst 1, 1) := by decide +kernel
theorem dX7_changesOf_19 : decode cX7_changesOf 19 = .ok (.iushr, 1) := by decide +kernel
theorem dX7_changesOf_20 : decode cX7_changesOf 20 = .ok (.ixor, 1) := by decide +kernel
theorem dX7_changesOf_21 : decode cX7_changesOf 21 = .ok (.iload 4, 2) := by decide +kernel
theorem dX7_changesOf_23 : decode cX7_changesOf 23 = .ok (.iand, 1) := by decide +kernel
theorem dX7_changesOf_24 : decode cX7_changesOf 24 = .ok (.invokestatic 39, 3) := by decide +kernel
theorem dX7_changesOf_27 : decode cX7_changesOf 27 = .ok (.ireturn, 1) := by decide +kernel
theorem dX7_likesOf_0 : decode cX7_likesOf 0 = .ok (.iconst 0, 1) := by decide +kernel
theorem dX7_likesOf_1 : decode cX7_likesOf 1 = .ok (.istore_n 3, 1) := by decide +kernel
theorem dX7_likesOf_2 : decode cX7_likesOf 2 = .ok (.iconst 0, 1) := by decide +kernel
theorem dX7_likesOf_3 : decode cX7_likesOf 3 = .ok (.istore 4, 2) := by decide +kernel
theorem dX7_likesOf_5 : decode cX7_likesOf 5 = .ok (.iload 4, 2) := by decide +kernel
theorem dX7_likesOf_7 : decode cX7_likesOf 7 = .ok (.aload_n 0, 1) := by decide +kernel
theorem dX7_likesOf_8 : decode cX7_likesOf 8 = .ok (.iload_n 1, 1) := by decide +kernel
theorem dX7_likesOf_9 : decode cX7_likesOf 9 = .ok (.invokevirtual 29, 3) := by decide +kernel
theorem dX7_likesOf_12 : decode cX7_likesOf 12 = .ok (.if_icmp .ge 39, 3) := by decide +kernel
theorem dX7_likesOf_15 : decode cX7_likesOf 15 = .ok (.iload_n 3, 1) := by decide +kernel
theorem dX7_likesOf_16 : decode cX7_likesOf 16 = .ok (.iload 4, 2) := by decide +kernel
theorem dX7_likesOf_18 : decode cX7_likesOf 18 = .ok (.iload_n 2, 1) := by decide +kernel
theorem dX7_likesOf_19 : decode cX7_likesOf 19 = .ok (.if_icmp .eq 23, 3) := by decide +kernel
theorem dX7_likesOf_22 : decode cX7_likesOf 22 = .ok (.aload_n 0, 1) := by decide +kernel
theorem dX7_likesOf_23 : decode cX7_likesOf 23 = .ok (.iload_n 1, 1) := by decide +kernel
theorem dX7_likesOf_24 : decode cX7_likesOf 24 = .ok (.iload 4, 2) := by decide +kernel
theorem dX7_likesOf_26 : decode cX7_likesOf 26 = .ok (.invokevirtual 44, 3) := by decide +kernel
theorem dX7_likesOf_29 : decode cX7_likesOf 29 = .ok (.aload_n 0, 1) := by decide +kernel
theorem dX7_likesOf_30 : decode cX7_likesOf 30 = .ok (.iload_n 1, 1) := by decide +kernel
theorem dX7_likesOf_31 : decode cX7_likesOf 31 = .ok (.iload_n 2, 1) := by decide +kernel
theorem dX7_likesOf_32 : decode cX7_likesOf 32 = .ok (.invokevirtual 44, 3) := by decide +kernel
theorem dX7_likesOf_35 : decode cX7_likesOf 35 = .ok (.if_icmp .ne 7, 3) := by decide +kernel
theorem dX7_likesOf_38 : decode cX7_likesOf 38 = .ok (.iconst 1, 1) := by decide +kernel
theorem dX7_likesOf_39 : decode cX7_likesOf 39 = .ok (.goto 4, 3) := by decide +kernel
theorem dX7_likesOf_42 : decode cX7_likesOf 42 = .ok (.iconst 0, 1) := by decide +kernel
theorem dX7_likesOf_43 : decode cX7_likesOf 43 = .ok (.iadd, 1) := by decide +kernel
theorem dX7_likesOf_44 : decode cX7_likesOf 44 = .ok (.istore_n 3, 1) := by decide +kernel
theorem dX7_likesOf_45 : decode cX7_likesOf 45 = .ok (.iinc 4 1, 3) := by decide +kernel
theorem dX7_likesOf_48 : decode cX7_likesOf 48 = .ok (.goto (-43), 3) := by decide +kernel
theorem dX7_likesOf_51 : decode cX7_likesOf 51 = .ok (.iload_n 3, 1) := by decide +kernel
theorem dX7_likesOf_52 : decode cX7_likesOf 52 = .ok (.ireturn, 1) := by decide +kernel
theorem dX7_areTwins_0 : decode cX7_areTwins 0 = .ok (.iload_n 1, 1) := by decide +kernel
theorem dX7_areTwins_1 : decode cX7_areTwins 1 = .ok (.bipush 6, 2) := by decide +kernel
theorem dX7_areTwins_3 : decode cX7_areTwins 3 = .ok (.idiv, 1) := by decide +kernel
theorem dX7_areTwins_4 : decode cX7_areTwins 4 = .ok (.istore_n 3, 1) := by decide +kernel
theorem dX7_areTwins_5 : decode cX7_areTwins 5 = .ok (.iload_n 3, 1) := by decide +kernel
theorem dX7_areTwins_6 : decode cX7_areTwins 6 = .ok (.iload_n 2, 1) := by decide +kernel
theorem dX7_areTwins_7 : decode cX7_areTwins 7 = .ok (.bipush 6, 2) := by decide +kernel
theorem dX7_areTwins_9 : decode cX7_areTwins 9 = .ok (.idiv, 1) := by decide +kernel
theorem dX7_areTwins_10 : decode cX7_areTwins 10 = .ok (.if_icmp .ne 46, 3) := by decide +kernel
theorem dX7_areTwins_13 : decode cX7_areTwins 13 = .ok (.aload_n 0, 1) := by decide +kernel
theorem dX7_areTwins_14 : decode cX7_areTwins 14 = .ok (.iload_n 3, 1) := by decide +kernel
theorem dX7_areTwins_15 : decode cX7_areTwins 15 = .ok (.iload_n 1, 1) := by decide +kernel
theorem dX7_areTwins_16 : decode cX7_areTwins 16 = .ok (.bipush 6, 2) := by decide +kernel
theorem dX7_areTwins_18 : decode cX7_areTwins 18 = .ok (.irem, 1) := by decide +kernel
theorem dX7_areTwins_19 : decode cX7_areTwins 19 = .ok (.invokevirtual 32, 3) := by decide +kernel
theorem dX7_areTwins_22 : decode cX7_areTwins 22 = .ok (.ifCond .eq 34, 3) := by decide +kernel
theorem dX7_areTwins_25 : decode cX7_areTwins 25 = .ok (.aload_n 0, 1) := by decide +kernel
theorem dX7_areTwins_26 : decode cX7_areTwins 26 = .ok (.iload_n 3, 1) := by decide +kernel
theorem dX7_areTwins_27 : decode cX7_areTwins 27 = .ok (.iload_n 2, 1) := by decide +kernel
theorem dX7_areTwins_28 : decode cX7_areTwins 28 = .ok (.bipush 6, 2) := by decide +kernel
theorem dX7_areTwins_30 : decode cX7_areTwins 30 = .ok (.irem, 1) := by decide +kernel
theorem dX7_areTwins_31 : decode cX7_areTwins 31 = .ok (.invokevirtual 32, 3) := by decide +kernel
theorem dX7_areTwins_34 : decode cX7_areTwins 34 = .ok (.ifCond .eq 22, 3) := by decide +kernel
theorem dX7_areTwins_37 : decode cX7_areTwins 37 = .ok (.aload_n 0, 1) := by decide +kernel
theorem dX7_areTwins_38 : decode cX7_areTwins 38 = .ok (.getfield 21, 3) := by decide +kernel
theorem dX7_areTwins_41 : decode cX7_areTwins 41 = .ok (.iload_n 1, 1) := by decide +kernel
theorem dX7_areTwins_42 : decode cX7_areTwins 42 = .ok (.iaload, 1) := by decide +kernel
theorem dX7_areTwins_43 : decode cX7_areTwins 43 = .ok (.aload_n 0, 1) := by decide +kernel
theorem dX7_areTwins_44 : decode cX7_areTwins 44 = .ok (.getfield 21, 3) := by decide +kernel
theorem dX7_areTwins_47 : decode cX7_areTwins 47 = .ok (.iload_n 2, 1) := by decide +kernel
theorem dX7_areTwins_48 : decode cX7_areTwins 48 = .ok (.iaload, 1) := by decide +kernel
theorem dX7_areTwins_49 : decode cX7_areTwins 49 = .ok (.if_icmp .ne 7, 3) := by decide +kernel
theorem dX7_areTwins_52 : decode cX7_areTwins 52 = .ok (.iconst 1, 1) := by decide +kernel
theorem dX7_areTwins_53 : decode cX7_areTwins 53 = .ok (.goto 4, 3) := by decide +kernel
theorem dX7_areTwins_56 : decode cX7_areTwins 56 = .ok (.iconst 0, 1) := by decide +kernel
theorem dX7_areTwins_57 : decode cX7_areTwins 57 = .ok (.ireturn, 1) := by decide +kernel
theorem dX7_isLoose_0 : decode cX7_isLoose 0 = .ok (.aload_n 0, 1) := by decide +kernel
theorem dX7_isLoose_1 : decode cX7_isLoose 1 = .ok (.iload_n 1, 1) := by decide +kernel
theorem dX7_isLoose_2 : decode cX7_isLoose 2 = .ok (.iload_n 2, 1) := by decide +kernel
theorem dX7_isLoose_3 : decode cX7_isLoose 3 = .ok (.invokevirtual 44, 3) := by decide +kernel
theorem dX7_isLoose_6 : decode cX7_isLoose 6 = .ok (.istore_n 3, 1) := by decide +kernel
theorem dX7_isLoose_7 : decode cX7_isLoose 7 = .ok (.iload_n 3, 1) := by decide +kernel
theorem dX7_isLoose_8 : decode cX7_isLoose 8 = .ok (.ifCond .eq 12, 3) := by decide +kernel
theorem dX7_isLoose_11 : decode cX7_isLoose 11 = .ok (.iload_n 3, 1) := by decide +kernel
theorem dX7_isLoose_12 : decode cX7_isLoose 12 = .ok (.aload_n 0, 1) := by decide +kernel
theorem dX7_isLoose_13 : decode cX7_isLoose 13 = .ok (.iload_n 1, 1) := by decide +kernel
theorem dX7_isLoose_14 : decode cX7_isLoose 14 = .ok (.invokevirtual 25, 3) := by decide +kernel
theorem dX7_isLoose_17 : decode cX7_isLoose 17 = .ok (.if_icmp .ne 7, 3) := by decide +kernel
theorem dX7_isLoose_20 : decode cX7_isLoose 20 = .ok (.iconst 1, 1) := by decide +kernel
theorem dX7_isLoose_21 : decode cX7_isLoose 21 = .ok (.goto 4, 3) := by decide +kernel
theorem dX7_isLoose_24 : decode cX7_isLoose 24 = .ok (.iconst 0, 1) := by decide +kernel
theorem dX7_isLoose_25 : decode cX7_isLoose 25 = .ok (.ireturn, 1) := by decide +kernel
theorem dX7_looseIn_0 : decode cX7_looseIn 0 = .ok (.iconst 0, 1) := by decide +kernel
theorem dX7_looseIn_1 : decode cX7_looseIn 1 = .ok (.istore_n 2, 1) := by decide +kernel
theorem dX7_looseIn_2 : decode cX7_looseIn 2 = .ok (.iload_n 1, 1) := by decide +kernel
theorem dX7_looseIn_3 : decode cX7_looseIn 3 = .ok (.bipush 63, 2) := by decide +kernel
theorem dX7_looseIn_5 : decode cX7_looseIn 5 = .ok (.iand, 1) := by decide +kernel
theorem dX7_looseIn_6 : decode cX7_looseIn 6 = .ok (.istore_n 3, 1) := by decide +kernel
theorem dX7_looseIn_7 : decode cX7_looseIn 7 = .ok (.iload_n 1, 1) := by decide +kernel
theorem dX7_looseIn_8 : decode cX7_looseIn 8 = .ok (.bipush 6, 2) := by decide +kernel
theorem dX7_looseIn_10 : decode cX7_looseIn 10 = .ok (.iushr, 1) := by decide +kernel
theorem dX7_looseIn_11 : decode cX7_looseIn 11 = .ok (.istore 4, 2) := by decide +kernel
theorem dX7_looseIn_13 : decode cX7_looseIn 13 = .ok (.iload_n 3, 1) := by decide +kernel
theorem dX7_looseIn_14 : decode cX7_looseIn 14 = .ok (.ifCond .eq 8, 3) := by decide +kernel
theorem dX7_looseIn_17 : decode cX7_looseIn 17 = .ok (.iload 4, 2) := by decide +kernel
theorem dX7_looseIn_19 : decode cX7_looseIn 19 = .ok (.ifCond .ne 5, 3) := by decide +kernel
theorem dX7_looseIn_22 : decode cX7_looseIn 22 = .ok (.iconst 0, 1) := by decide +kernel
theorem dX7_looseIn_23 : decode cX7_looseIn 23 = .ok (.ireturn, 1) := by decide +kernel
theorem dX7_looseIn_24 : decode cX7_looseIn 24 = .ok (.iconst 0, 1) := by decide +kernel
theorem dX7_looseIn_25 : decode cX7_looseIn 25 = .ok (.istore 5, 2) := by decide +kernel
theorem dX7_looseIn_27 : decode cX7_looseIn 27 = .ok (.iload 5, 2) := by decide +kernel
theorem dX7_looseIn_29 : decode cX7_looseIn 29 = .ok (.bipush 12, 2) := by decide +kernel
theorem dX7_looseIn_31 : decode cX7_looseIn 31 = .ok (.if_icmp .ge 64, 3) := by decide +kernel
theorem dX7_looseIn_34 : decode cX7_looseIn 34 = .ok (.iload 5, 2) := by decide +kernel
theorem dX7_looseIn_36 : decode cX7_looseIn 36 = .ok (.bipush 6, 2) := by decide +kernel
theorem dX7_looseIn_38 : decode cX7_looseIn 38 = .ok (.if_icmp .ge 8, 3) := by decide +kernel
theorem dX7_looseIn_41 : decode cX7_looseIn 41 = .ok (.iload 4, 2) := by decide +kernel
theorem dX7_looseIn_43 : decode cX7_looseIn 43 = .ok (.goto 4, 3) := by decide +kernel
theorem dX7_looseIn_46 : decode cX7_looseIn 46 = .ok (.iload_n 3, 1) := by decide +kernel
theorem dX7_looseIn_47 : decode cX7_looseIn 47 = .ok (.istore 6, 2) := by decide +kernel
theorem dX7_looseIn_49 : decode cX7_looseIn 49 = .ok (.aload_n 0, 1) := by decide +kernel
theorem dX7_looseIn_50 : decode cX7_looseIn 50 = .ok (.getfield 21, 3) := by decide +kernel
theorem dX7_looseIn_53 : decode cX7_looseIn 53 = .ok (.iload 5, 2) := by decide +kernel
theorem dX7_looseIn_55 : decode cX7_looseIn 55 = .ok (.iaload, 1) := by decide +kernel
theorem dX7_looseIn_56 : decode cX7_looseIn 56 = .ok (.iload 6, 2) := by decide +kernel
theorem dX7_looseIn_58 : decode cX7_looseIn 58 = .ok (.iand, 1) := by decide +kernel
theorem dX7_looseIn_59 : decode cX7_looseIn 59 = .ok (.istore 7, 2) := by decide +kernel
theorem dX7_looseIn_61 : decode cX7_looseIn 61 = .ok (.iload_n 1, 1) := by decide +kernel
theorem dX7_looseIn_62 : decode cX7_looseIn 62 = .ok (.iload 5, 2) := by decide +kernel
theorem dX7_looseIn_64 : decode cX7_looseIn 64 = .ok (.iushr, 1) := by decide +kernel
theorem dX7_looseIn_65 : decode cX7_looseIn 65 = .ok (.iconst 1, 1) := by decide +kernel
theorem dX7_looseIn_66 : decode cX7_looseIn 66 = .ok (.iand, 1) := by decide +kernel
theorem dX7_looseIn_67 : decode cX7_looseIn 67 = .ok (.ifCond .eq 22, 3) := by decide +kernel
theorem dX7_looseIn_70 : decode cX7_looseIn 70 = .ok (.iload 7, 2) := by decide +kernel
theorem dX7_looseIn_72 : decode cX7_looseIn 72 = .ok (.ifCond .eq 10, 3) := by decide +kernel
theorem dX7_looseIn_75 : decode cX7_looseIn 75 = .ok (.iload 7, 2) := by decide +kernel
theorem dX7_looseIn_77 : decode cX7_looseIn 77 = .ok (.iload 6, 2) := by decide +kernel
theorem dX7_looseIn_79 : decode cX7_looseIn 79 = .ok (.if_icmp .ne 10, 3) := by decide +kernel
theorem dX7_looseIn_82 : decode cX7_looseIn 82 = .ok (.iload_n 2, 1) := by decide +kernel
theorem dX7_looseIn_83 : decode cX7_looseIn 83 = .ok (.iconst 1, 1) := by decide +kernel
theorem dX7_looseIn_84 : decode cX7_looseIn 84 = .ok (.iload 5, 2) := by decide +kernel
theorem dX7_looseIn_86 : decode cX7_looseIn 86 = .ok (.ishl, 1) := by decide +kernel
theorem dX7_looseIn_87 : decode cX7_looseIn 87 = .ok (.ior, 1) := by decide +kernel
theorem dX7_looseIn_88 : decode cX7_looseIn 88 = .ok (.istore_n 2, 1) := by decide +kernel
theorem dX7_looseIn_89 : decode cX7_looseIn 89 = .ok (.iinc 5 1, 3) := by decide +kernel
theorem dX7_looseIn_92 : decode cX7_looseIn 92 = .ok (.goto (-65), 3) := by decide +kernel
theorem dX7_looseIn_95 : decode cX7_looseIn 95 = .ok (.iload_n 2, 1) := by decide +kernel
theorem dX7_looseIn_96 : decode cX7_looseIn 96 = .ok (.ireturn, 1) := by decide +kernel
theorem dX7_repeatOf_0 : decode cX7_repeatOf 0 = .ok (.iconst 1, 1) := by decide +kernel
theorem dX7_repeatOf_1 : decode cX7_repeatOf 1 = .ok (.istore_n 2, 1) := by decide +kernel
theorem dX7_repeatOf_2 : decode cX7_repeatOf 2 = .ok (.iload_n 2, 1) := by decide +kernel
theorem dX7_repeatOf_3 : decode cX7_repeatOf 3 = .ok (.aload_n 0, 1) := by decide +kernel
theorem dX7_repeatOf_4 : decode cX7_repeatOf 4 = .ok (.iload_n 1, 1) := by decide +kernel
theorem dX7_repeatOf_5 : decode cX7_repeatOf 5 = .ok (.invokevirtual 29, 3) := by decide +kernel
theorem dX7_repeatOf_8 : decode cX7_repeatOf 8 = .ok (.if_icmp .ge 65, 3) := by decide +kernel
theorem dX7_repeatOf_11 : decode cX7_repeatOf 11 = .ok (.iconst 1, 1) := by decide +kernel
theorem dX7_repeatOf_12 : decode cX7_repeatOf 12 = .ok (.istore_n 3, 1) := by decide +kernel
theorem dX7_repeatOf_13 : decode cX7_repeatOf 13 = .ok (.iload_n 2, 1) := by decide +kernel
theorem dX7_repeatOf_14 : decode cX7_repeatOf 14 = .ok (.istore 4, 2) := by decide +kernel
theorem dX7_repeatOf_16 : decode cX7_repeatOf 16 = .ok (.iload 4, 2) := by decide +kernel
theorem dX7_repeatOf_18 : decode cX7_repeatOf 18 = .ok (.aload_n 0, 1) := by decide +kernel
theorem dX7_repeatOf_19 : decode cX7_repeatOf 19 = .ok (.iload_n 1, 1) := by decide +kernel
theorem dX7_repeatOf_20 : decode cX7_repeatOf 20 = .ok (.invokevirtual 29, 3) := by decide +kernel
theorem dX7_repeatOf_23 : decode cX7_repeatOf 23 = .ok (.if_icmp .ge 38, 3) := by decide +kernel
theorem dX7_repeatOf_26 : decode cX7_repeatOf 26 = .ok (.iload_n 3, 1) := by decide +kernel
theorem dX7_repeatOf_27 : decode cX7_repeatOf 27 = .ok (.ifCond .eq 26, 3) := by decide +kernel
theorem dX7_repeatOf_30 : decode cX7_repeatOf 30 = .ok (.aload_n 0, 1) := by decide +kernel
theorem dX7_repeatOf_31 : decode cX7_repeatOf 31 = .ok (.iload_n 1, 1) := by decide +kernel
theorem dX7_repeatOf_32 : decode cX7_repeatOf 32 = .ok (.iload 4, 2) := by decide +kernel
theorem dX7_repeatOf_34 : decode cX7_repeatOf 34 = .ok (.invokevirtual 44, 3) := by decide +kernel
theorem dX7_repeatOf_37 : decode cX7_repeatOf 37 = .ok (.aload_n 0, 1) := by decide +kernel
theorem dX7_repeatOf_38 : decode cX7_repeatOf 38 = .ok (.iload_n 1, 1) := by decide +kernel
theorem dX7_repeatOf_39 : decode cX7_repeatOf 39 = .ok (.iload 4, 2) := by decide +kernel
theorem dX7_repeatOf_41 : decode cX7_repeatOf 41 = .ok (.iload_n 2, 1) := by decide +kernel
theorem dX7_repeatOf_42 : decode cX7_repeatOf 42 = .ok (.isub, 1) := by decide +kernel
theorem dX7_repeatOf_43 : decode cX7_repeatOf 43 = .ok (.invokevirtual 44, 3) := by decide +kernel
theorem dX7_repeatOf_46 : decode cX7_repeatOf 46 = .ok (.if_icmp .ne 7, 3) := by decide +kernel
theorem dX7_repeatOf_49 : decode cX7_repeatOf 49 = .ok (.iconst 1, 1) := by decide +kernel
theorem dX7_repeatOf_50 : decode cX7_repeatOf 50 = .ok (.goto 4, 3) := by decide +kernel
theorem dX7_repeatOf_53 : decode cX7_repeatOf 53 = .ok (.iconst 0, 1) := by decide +kernel
theorem dX7_repeatOf_54 : decode cX7_repeatOf 54 = .ok (.istore_n 3, 1) := by decide +kernel
theorem dX7_repeatOf_55 : decode cX7_repeatOf 55 = .ok (.iinc 4 1, 3) := by decide +kernel
theorem dX7_repeatOf_58 : decode cX7_repeatOf 58 = .ok (.goto (-42), 3) := by decide +kernel
theorem dX7_repeatOf_61 : decode cX7_repeatOf 61 = .ok (.iload_n 3, 1) := by decide +kernel
theorem dX7_repeatOf_62 : decode cX7_repeatOf 62 = .ok (.ifCond .eq 5, 3) := by decide +kernel
theorem dX7_repeatOf_65 : decode cX7_repeatOf 65 = .ok (.iload_n 2, 1) := by decide +kernel
theorem dX7_repeatOf_66 : decode cX7_repeatOf 66 = .ok (.ireturn, 1) := by decide +kernel
theorem dX7_repeatOf_67 : decode cX7_repeatOf 67 = .ok (.iinc 2 1, 3) := by decide +kernel
theorem dX7_repeatOf_70 : decode cX7_repeatOf 70 = .ok (.goto (-68), 3) := by decide +kernel
theorem dX7_repeatOf_73 : decode cX7_repeatOf 73 = .ok (.aload_n 0, 1) := by decide +kernel
theorem dX7_repeatOf_74 : decode cX7_repeatOf 74 = .ok (.iload_n 1, 1) := by decide +kernel
theorem dX7_repeatOf_75 : decode cX7_repeatOf 75 = .ok (.invokevirtual 29, 3) := by decide +kernel
theorem dX7_repeatOf_78 : decode cX7_repeatOf 78 = .ok (.ireturn, 1) := by decide +kernel
theorem dX7_runsAlong_0 : decode cX7_runsAlong 0 = .ok (.iconst 0, 1) := by decide +kernel
theorem dX7_runsAlong_1 : decode cX7_runsAlong 1 = .ok (.istore_n 2, 1) := by decide +kernel
theorem dX7_runsAlong_2 : decode cX7_runsAlong 2 = .ok (.iconst 0, 1) := by decide +kernel
theorem dX7_runsAlong_3 : decode cX7_runsAlong 3 = .ok (.istore_n 3, 1) := by decide +kernel
theorem dX7_runsAlong_4 : decode cX7_runsAlong 4 = .ok (.iload_n 3, 1) := by decide +kernel
theorem dX7_runsAlong_5 : decode cX7_runsAlong 5 = .ok (.aload_n 0, 1) := by decide +kernel
theorem dX7_runsAlong_6 : decode cX7_runsAlong 6 = .ok (.iload_n 1, 1) := by decide +kernel
theorem dX7_runsAlong_7 : decode cX7_runsAlong 7 = .ok (.invokevirtual 29, 3) := by decide +kernel
theorem dX7_runsAlong_10 : decode cX7_runsAlong 10 = .ok (.if_icmp .ge 20, 3) := by decide +kernel
theorem dX7_runsAlong_13 : decode cX7_runsAlong 13 = .ok (.iload_n 2, 1) := by decide +kernel
theorem dX7_runsAlong_14 : decode cX7_runsAlong 14 = .ok (.iconst 1, 1) := by decide +kernel
theorem dX7_runsAlong_15 : decode cX7_runsAlong 15 = .ok (.aload_n 0, 1) := by decide +kernel
theorem dX7_runsAlong_16 : decode cX7_runsAlong 16 = .ok (.iload_n 1, 1) := by decide +kernel
theorem dX7_runsAlong_17 : decode cX7_runsAlong 17 = .ok (.iload_n 3, 1) := by decide +kernel
theorem dX7_runsAlong_18 : decode cX7_runsAlong 18 = .ok (.invokevirtual 48, 3) := by decide +kernel
theorem dX7_runsAlong_21 : decode cX7_runsAlong 21 = .ok (.iadd, 1) := by decide +kernel
theorem dX7_runsAlong_22 : decode cX7_runsAlong 22 = .ok (.iadd, 1) := by decide +kernel
theorem dX7_runsAlong_23 : decode cX7_runsAlong 23 = .ok (.istore_n 2, 1) := by decide +kernel
theorem dX7_runsAlong_24 : decode cX7_runsAlong 24 = .ok (.iinc 3 1, 3) := by decide +kernel
theorem dX7_runsAlong_27 : decode cX7_runsAlong 27 = .ok (.goto (-23), 3) := by decide +kernel
theorem dX7_runsAlong_30 : decode cX7_runsAlong 30 = .ok (.iload_n 2, 1) := by decide +kernel
theorem dX7_runsAlong_31 : decode cX7_runsAlong 31 = .ok (.ireturn, 1) := by decide +kernel
theorem dX7_longestRun_0 : decode cX7_longestRun 0 = .ok (.iconst 1, 1) := by decide +kernel
theorem dX7_longestRun_1 : decode cX7_longestRun 1 = .ok (.istore_n 2, 1) := by decide +kernel
theorem dX7_longestRun_2 : decode cX7_longestRun 2 = .ok (.iconst 0, 1) := by decide +kernel
theorem dX7_longestRun_3 : decode cX7_longestRun 3 = .ok (.istore_n 3, 1) := by decide +kernel
theorem dX7_longestRun_4 : decode cX7_longestRun 4 = .ok (.iload_n 3, 1) := by decide +kernel
theorem dX7_longestRun_5 : decode cX7_longestRun 5 = .ok (.aload_n 0, 1) := by decide +kernel
theorem dX7_longestRun_6 : decode cX7_longestRun 6 = .ok (.iload_n 1, 1) := by decide +kernel
theorem dX7_longestRun_7 : decode cX7_longestRun 7 = .ok (.invokevirtual 29, 3) := by decide +kernel
theorem dX7_longestRun_10 : decode cX7_longestRun 10 = .ok (.if_icmp .ge 77, 3) := by decide +kernel
theorem dX7_longestRun_13 : decode cX7_longestRun 13 = .ok (.aload_n 0, 1) := by decide +kernel
theorem dX7_longestRun_14 : decode cX7_longestRun 14 = .ok (.iload_n 1, 1) := by decide +kernel
theorem dX7_longestRun_15 : decode cX7_longestRun 15 = .ok (.iload_n 3, 1) := by decide +kernel
theorem dX7_longestRun_16 : decode cX7_longestRun 16 = .ok (.invokevirtual 44, 3) := by decide +kernel
theorem dX7_longestRun_19 : decode cX7_longestRun 19 = .ok (.istore 4, 2) := by decide +kernel
theorem dX7_longestRun_21 : decode cX7_longestRun 21 = .ok (.iconst 1, 1) := by decide +kernel
theorem dX7_longestRun_22 : decode cX7_longestRun 22 = .ok (.istore 5, 2) := by decide +kernel
theorem dX7_longestRun_24 : decode cX7_longestRun 24 = .ok (.iconst 1, 1) := by decide +kernel
theorem dX7_longestRun_25 : decode cX7_longestRun 25 = .ok (.istore 6, 2) := by decide +kernel
theorem dX7_longestRun_27 : decode cX7_longestRun 27 = .ok (.iload 6, 2) := by decide +kernel
theorem dX7_longestRun_29 : decode cX7_longestRun 29 = .ok (.aload_n 0, 1) := by decide +kernel
theorem dX7_longestRun_30 : decode cX7_longestRun 30 = .ok (.iconst 1, 1) := by decide +kernel
theorem dX7_longestRun_31 : decode cX7_longestRun 31 = .ok (.iload_n 1, 1) := by decide +kernel
theorem dX7_longestRun_32 : decode cX7_longestRun 32 = .ok (.isub, 1) := by decide +kernel
theorem dX7_longestRun_33 : decode cX7_longestRun 33 = .ok (.invokevirtual 29, 3) := by decide +kernel
theorem dX7_longestRun_36 : decode cX7_longestRun 36 = .ok (.if_icmp .ge 45, 3) := by decide +kernel
theorem dX7_longestRun_39 : decode cX7_longestRun 39 = .ok (.iload 4, 2) := by decide +kernel
theorem dX7_longestRun_41 : decode cX7_longestRun 41 = .ok (.iload 6, 2) := by decide +kernel
theorem dX7_longestRun_43 : decode cX7_longestRun 43 = .ok (.iushr, 1) := by decide +kernel
theorem dX7_longestRun_44 : decode cX7_longestRun 44 = .ok (.iconst 1, 1) := by decide +kernel
theorem dX7_longestRun_45 : decode cX7_longestRun 45 = .ok (.iand, 1) := by decide +kernel
theorem dX7_longestRun_46 : decode cX7_longestRun 46 = .ok (.iload 4, 2) := by decide +kernel
theorem dX7_longestRun_48 : decode cX7_longestRun 48 = .ok (.iload 6, 2) := by decide +kernel
theorem dX7_longestRun_50 : decode cX7_longestRun 50 = .ok (.iconst 1, 1) := by decide +kernel
theorem dX7_longestRun_51 : decode cX7_longestRun 51 = .ok (.isub, 1) := by decide +kernel
theorem dX7_longestRun_52 : decode cX7_longestRun 52 = .ok (.iushr, 1) := by decide +kernel
theorem dX7_longestRun_53 : decode cX7_longestRun 53 = .ok (.iconst 1, 1) := by decide +kernel
theorem dX7_longestRun_54 : decode cX7_longestRun 54 = .ok (.iand, 1) := by decide +kernel
theorem dX7_longestRun_55 : decode cX7_longestRun 55 = .ok (.if_icmp .ne 10, 3) := by decide +kernel
theorem dX7_longestRun_58 : decode cX7_longestRun 58 = .ok (.iload 5, 2) := by decide +kernel
theorem dX7_longestRun_60 : decode cX7_longestRun 60 = .ok (.iconst 1, 1) := by decide +kernel
theorem dX7_longestRun_61 : decode cX7_longestRun 61 = .ok (.iadd, 1) := by decide +kernel
theorem dX7_longestRun_62 : decode cX7_longestRun 62 = .ok (.goto 4, 3) := by decide +kernel
theorem dX7_longestRun_65 : decode cX7_longestRun 65 = .ok (.iconst 1, 1) := by decide +kernel
theorem dX7_longestRun_66 : decode cX7_longestRun 66 = .ok (.istore 5, 2) := by decide +kernel
theorem dX7_longestRun_68 : decode cX7_longestRun 68 = .ok (.iload_n 2, 1) := by decide +kernel
theorem dX7_longestRun_69 : decode cX7_longestRun 69 = .ok (.iload 5, 2) := by decide +kernel
theorem dX7_longestRun_71 : decode cX7_longestRun 71 = .ok (.invokestatic 51, 3) := by decide +kernel
theorem dX7_longestRun_74 : decode cX7_longestRun 74 = .ok (.istore_n 2, 1) := by decide +kernel
theorem dX7_longestRun_75 : decode cX7_longestRun 75 = .ok (.iinc 6 1, 3) := by decide +kernel
theorem dX7_longestRun_78 : decode cX7_longestRun 78 = .ok (.goto (-51), 3) := by decide +kernel
theorem dX7_longestRun_81 : decode cX7_longestRun 81 = .ok (.iinc 3 1, 3) := by decide +kernel
theorem dX7_longestRun_84 : decode cX7_longestRun 84 = .ok (.goto (-80), 3) := by decide +kernel
theorem dX7_longestRun_87 : decode cX7_longestRun 87 = .ok (.iload_n 2, 1) := by decide +kernel
theorem dX7_longestRun_88 : decode cX7_longestRun 88 = .ok (.ireturn, 1) := by decide +kernel
theorem dX7_settle_0 : decode cX7_settle 0 = .ok (.iconst 0, 1) := by decide +kernel
theorem dX7_settle_1 : decode cX7_settle 1 = .ok (.istore_n 1, 1) := by decide +kernel
theorem dX7_settle_2 : decode cX7_settle 2 = .ok (.iload_n 1, 1) := by decide +kernel
theorem dX7_settle_3 : decode cX7_settle 3 = .ok (.bipush 6, 2) := by decide +kernel
theorem dX7_settle_5 : decode cX7_settle 5 = .ok (.if_icmp .ge 62, 3) := by decide +kernel
theorem dX7_settle_8 : decode cX7_settle 8 = .ok (.iconst 0, 1) := by decide +kernel
theorem dX7_settle_9 : decode cX7_settle 9 = .ok (.istore_n 2, 1) := by decide +kernel
theorem dX7_settle_10 : decode cX7_settle 10 = .ok (.iconst 0, 1) := by decide +kernel
theorem dX7_settle_11 : decode cX7_settle 11 = .ok (.istore_n 3, 1) := by decide +kernel
theorem dX7_settle_12 : decode cX7_settle 12 = .ok (.iload_n 3, 1) := by decide +kernel
theorem dX7_settle_13 : decode cX7_settle 13 = .ok (.aload_n 0, 1) := by decide +kernel
theorem dX7_settle_14 : decode cX7_settle 14 = .ok (.getfield 9, 3) := by decide +kernel
theorem dX7_settle_17 : decode cX7_settle 17 = .ok (.if_icmp .ge 34, 3) := by decide +kernel
theorem dX7_settle_20 : decode cX7_settle 20 = .ok (.iload_n 1, 1) := by decide +kernel
theorem dX7_settle_21 : decode cX7_settle 21 = .ok (.aload_n 0, 1) := by decide +kernel
theorem dX7_settle_22 : decode cX7_settle 22 = .ok (.getfield 15, 3) := by decide +kernel
theorem dX7_settle_25 : decode cX7_settle 25 = .ok (.if_icmp .ge 26, 3) := by decide +kernel
theorem dX7_settle_28 : decode cX7_settle 28 = .ok (.iload_n 2, 1) := by decide +kernel
theorem dX7_settle_29 : decode cX7_settle 29 = .ok (.aload_n 0, 1) := by decide +kernel
theorem dX7_settle_30 : decode cX7_settle 30 = .ok (.getfield 21, 3) := by decide +kernel
theorem dX7_settle_33 : decode cX7_settle 33 = .ok (.iload_n 3, 1) := by decide +kernel
theorem dX7_settle_34 : decode cX7_settle 34 = .ok (.iaload, 1) := by decide +kernel
theorem dX7_settle_35 : decode cX7_settle 35 = .ok (.iload_n 1, 1) := by decide +kernel
theorem dX7_settle_36 : decode cX7_settle 36 = .ok (.iushr, 1) := by decide +kernel
theorem dX7_settle_37 : decode cX7_settle 37 = .ok (.iconst 1, 1) := by decide +kernel
theorem dX7_settle_38 : decode cX7_settle 38 = .ok (.iand, 1) := by decide +kernel
theorem dX7_settle_39 : decode cX7_settle 39 = .ok (.iconst 1, 1) := by decide +kernel
theorem dX7_settle_40 : decode cX7_settle 40 = .ok (.ixor, 1) := by decide +kernel
theorem dX7_settle_41 : decode cX7_settle 41 = .ok (.iload_n 3, 1) := by decide +kernel
theorem dX7_settle_42 : decode cX7_settle 42 = .ok (.ishl, 1) := by decide +kernel
theorem dX7_settle_43 : decode cX7_settle 43 = .ok (.ior, 1) := by decide +kernel
theorem dX7_settle_44 : decode cX7_settle 44 = .ok (.istore_n 2, 1) := by decide +kernel
theorem dX7_settle_45 : decode cX7_settle 45 = .ok (.iinc 3 1, 3) := by decide +kernel
theorem dX7_settle_48 : decode cX7_settle 48 = .ok (.goto (-36), 3) := by decide +kernel
theorem dX7_settle_51 : decode cX7_settle 51 = .ok (.aload_n 0, 1) := by decide +kernel
theorem dX7_settle_52 : decode cX7_settle 52 = .ok (.getfield 21, 3) := by decide +kernel
theorem dX7_settle_55 : decode cX7_settle 55 = .ok (.bipush 6, 2) := by decide +kernel
theorem dX7_settle_57 : decode cX7_settle 57 = .ok (.iload_n 1, 1) := by decide +kernel
theorem dX7_settle_58 : decode cX7_settle 58 = .ok (.iadd, 1) := by decide +kernel
theorem dX7_settle_59 : decode cX7_settle 59 = .ok (.iload_n 2, 1) := by decide +kernel
theorem dX7_settle_60 : decode cX7_settle 60 = .ok (.iastore, 1) := by decide +kernel
theorem dX7_settle_61 : decode cX7_settle 61 = .ok (.iinc 1 1, 3) := by decide +kernel
theorem dX7_settle_64 : decode cX7_settle 64 = .ok (.goto (-62), 3) := by decide +kernel
theorem dX7_settle_67 : decode cX7_settle 67 = .ok (.return_, 1) := by decide +kernel
theorem dX7_become_0 : decode cX7_become 0 = .ok (.aload_n 0, 1) := by decide +kernel
theorem dX7_become_1 : decode cX7_become 1 = .ok (.aload_n 1, 1) := by decide +kernel
theorem dX7_become_2 : decode cX7_become 2 = .ok (.getfield 9, 3) := by decide +kernel
theorem dX7_become_5 : decode cX7_become 5 = .ok (.putfield 9, 3) := by decide +kernel
theorem dX7_become_8 : decode cX7_become 8 = .ok (.aload_n 0, 1) := by decide +kernel
theorem dX7_become_9 : decode cX7_become 9 = .ok (.aload_n 1, 1) := by decide +kernel
theorem dX7_become_10 : decode cX7_become 10 = .ok (.getfield 15, 3) := by decide +kernel
theorem dX7_become_13 : decode cX7_become 13 = .ok (.putfield 15, 3) := by decide +kernel
theorem dX7_become_16 : decode cX7_become 16 = .ok (.aload_n 0, 1) := by decide +kernel
theorem dX7_become_17 : decode cX7_become 17 = .ok (.aload_n 1, 1) := by decide +kernel
theorem dX7_become_18 : decode cX7_become 18 = .ok (.getfield 18, 3) := by decide +kernel
theorem dX7_become_21 : decode cX7_become 21 = .ok (.putfield 18, 3) := by decide +kernel
theorem dX7_become_24 : decode cX7_become 24 = .ok (.aload_n 1, 1) := by decide +kernel
theorem dX7_become_25 : decode cX7_become 25 = .ok (.getfield 21, 3) := by decide +kernel
theorem dX7_become_28 : decode cX7_become 28 = .ok (.iconst 0, 1) := by decide +kernel
theorem dX7_become_29 : decode cX7_become 29 = .ok (.aload_n 0, 1) := by decide +kernel
theorem dX7_become_30 : decode cX7_become 30 = .ok (.getfield 21, 3) := by decide +kernel
theorem dX7_become_33 : decode cX7_become 33 = .ok (.iconst 0, 1) := by decide +kernel
theorem dX7_become_34 : decode cX7_become 34 = .ok (.bipush 12, 2) := by decide +kernel
theorem dX7_become_36 : decode cX7_become 36 = .ok (.invokestatic 56, 3) := by decide +kernel
theorem dX7_become_39 : decode cX7_become 39 = .ok (.return_, 1) := by decide +kernel
theorem dX7_shape_0 : decode cX7_shape 0 = .ok (.lconst 0, 1) := by decide +kernel
theorem dX7_shape_1 : decode cX7_shape 1 = .ok (.lstore_n 1, 1) := by decide +kernel
theorem dX7_shape_2 : decode cX7_shape 2 = .ok (.iconst 5, 1) := by decide +kernel
theorem dX7_shape_3 : decode cX7_shape 3 = .ok (.istore_n 3, 1) := by decide +kernel
theorem dX7_shape_4 : decode cX7_shape 4 = .ok (.iload_n 3, 1) := by decide +kernel
theorem dX7_shape_5 : decode cX7_shape 5 = .ok (.ifCond .lt 22, 3) := by decide +kernel
theorem dX7_shape_8 : decode cX7_shape 8 = .ok (.lload_n 1, 1) := by decide +kernel
theorem dX7_shape_9 : decode cX7_shape 9 = .ok (.bipush 6, 2) := by decide +kernel
theorem dX7_shape_11 : decode cX7_shape 11 = .ok (.lshl, 1) := by decide +kernel
theorem dX7_shape_12 : decode cX7_shape 12 = .ok (.aload_n 0, 1) := by decide +kernel
theorem dX7_shape_13 : decode cX7_shape 13 = .ok (.getfield 21, 3) := by decide +kernel
theorem dX7_shape_16 : decode cX7_shape 16 = .ok (.iload_n 3, 1) := by decide +kernel
theorem dX7_shape_17 : decode cX7_shape 17 = .ok (.iaload, 1) := by decide +kernel
theorem dX7_shape_18 : decode cX7_shape 18 = .ok (.i2l, 1) := by decide +kernel
theorem dX7_shape_19 : decode cX7_shape 19 = .ok (.lor, 1) := by decide +kernel
theorem dX7_shape_20 : decode cX7_shape 20 = .ok (.lstore_n 1, 1) := by decide +kernel
theorem dX7_shape_21 : decode cX7_shape 21 = .ok (.iinc 3 (-1), 3) := by decide +kernel
theorem dX7_shape_24 : decode cX7_shape 24 = .ok (.goto (-20), 3) := by decide +kernel
theorem dX7_shape_27 : decode cX7_shape 27 = .ok (.lload_n 1, 1) := by decide +kernel
theorem dX7_shape_28 : decode cX7_shape 28 = .ok (.bipush 6, 2) := by decide +kernel
theorem dX7_shape_30 : decode cX7_shape 30 = .ok (.lshl, 1) := by decide +kernel
theorem dX7_shape_31 : decode cX7_shape 31 = .ok (.aload_n 0, 1) := by decide +kernel
theorem dX7_shape_32 : decode cX7_shape 32 = .ok (.getfield 15, 3) := by decide +kernel
theorem dX7_shape_35 : decode cX7_shape 35 = .ok (.iconst 3, 1) := by decide +kernel
theorem dX7_shape_36 : decode cX7_shape 36 = .ok (.ishl, 1) := by decide +kernel
theorem dX7_shape_37 : decode cX7_shape 37 = .ok (.i2l, 1) := by decide +kernel
theorem dX7_shape_38 : decode cX7_shape 38 = .ok (.lor, 1) := by decide +kernel
theorem dX7_shape_39 : decode cX7_shape 39 = .ok (.aload_n 0, 1) := by decide +kernel
theorem dX7_shape_40 : decode cX7_shape 40 = .ok (.getfield 9, 3) := by decide +kernel
theorem dX7_shape_43 : decode cX7_shape 43 = .ok (.i2l, 1) := by decide +kernel
theorem dX7_shape_44 : decode cX7_shape 44 = .ok (.lor, 1) := by decide +kernel
theorem dX7_shape_45 : decode cX7_shape 45 = .ok (.lreturn, 1) := by decide +kernel
theorem dX7_takeShape_0 : decode cX7_takeShape 0 = .ok (.aload_n 0, 1) := by decide +kernel
theorem dX7_takeShape_1 : decode cX7_takeShape 1 = .ok (.lload_n 1, 1) := by decide +kernel
theorem dX7_takeShape_2 : decode cX7_takeShape 2 = .ok (.ldc2_w 62, 3) := by decide +kernel
theorem dX7_takeShape_5 : decode cX7_takeShape 5 = .ok (.land, 1) := by decide +kernel
theorem dX7_takeShape_6 : decode cX7_takeShape 6 = .ok (.l2i, 1) := by decide +kernel
theorem dX7_takeShape_7 : decode cX7_takeShape 7 = .ok (.putfield 9, 3) := by decide +kernel
theorem dX7_takeShape_10 : decode cX7_takeShape 10 = .ok (.aload_n 0, 1) := by decide +kernel
theorem dX7_takeShape_11 : decode cX7_takeShape 11 = .ok (.lload_n 1, 1) := by decide +kernel
theorem dX7_takeShape_12 : decode cX7_takeShape 12 = .ok (.iconst 3, 1) := by decide +kernel
theorem dX7_takeShape_13 : decode cX7_takeShape 13 = .ok (.lushr, 1) := by decide +kernel
theorem dX7_takeShape_14 : decode cX7_takeShape 14 = .ok (.ldc2_w 62, 3) := by decide +kernel
theorem dX7_takeShape_17 : decode cX7_takeShape 17 = .ok (.land, 1) := by decide +kernel
theorem dX7_takeShape_18 : decode cX7_takeShape 18 = .ok (.l2i, 1) := by decide +kernel
theorem dX7_takeShape_19 : decode cX7_takeShape 19 = .ok (.putfield 15, 3) := by decide +kernel
theorem dX7_takeShape_22 : decode cX7_takeShape 22 = .ok (.iconst 0, 1) := by decide +kernel
theorem dX7_takeShape_23 : decode cX7_takeShape 23 = .ok (.istore_n 3, 1) := by decide +kernel
theorem dX7_takeShape_24 : decode cX7_takeShape 24 = .ok (.iload_n 3, 1) := by decide +kernel
theorem dX7_takeShape_25 : decode cX7_takeShape 25 = .ok (.bipush 6, 2) := by decide +kernel
theorem dX7_takeShape_27 : decode cX7_takeShape 27 = .ok (.if_icmp .ge 29, 3) := by decide +kernel
theorem dX7_takeShape_30 : decode cX7_takeShape 30 = .ok (.aload_n 0, 1) := by decide +kernel
theorem dX7_takeShape_31 : decode cX7_takeShape 31 = .ok (.getfield 21, 3) := by decide +kernel
theorem dX7_takeShape_34 : decode cX7_takeShape 34 = .ok (.iload_n 3, 1) := by decide +kernel
theorem dX7_takeShape_35 : decode cX7_takeShape 35 = .ok (.lload_n 1, 1) := by decide +kernel
theorem dX7_takeShape_36 : decode cX7_takeShape 36 = .ok (.bipush 6, 2) := by decide +kernel
theorem dX7_takeShape_38 : decode cX7_takeShape 38 = .ok (.bipush 6, 2) := by decide +kernel
theorem dX7_takeShape_40 : decode cX7_takeShape 40 = .ok (.iload_n 3, 1) := by decide +kernel
theorem dX7_takeShape_41 : decode cX7_takeShape 41 = .ok (.imul, 1) := by decide +kernel
theorem dX7_takeShape_42 : decode cX7_takeShape 42 = .ok (.iadd, 1) := by decide +kernel
theorem dX7_takeShape_43 : decode cX7_takeShape 43 = .ok (.lushr, 1) := by decide +kernel
theorem dX7_takeShape_44 : decode cX7_takeShape 44 = .ok (.ldc2_w 64, 3) := by decide +kernel
theorem dX7_takeShape_47 : decode cX7_takeShape 47 = .ok (.land, 1) := by decide +kernel
theorem dX7_takeShape_48 : decode cX7_takeShape 48 = .ok (.l2i, 1) := by decide +kernel
theorem dX7_takeShape_49 : decode cX7_takeShape 49 = .ok (.iastore, 1) := by decide +kernel
theorem dX7_takeShape_50 : decode cX7_takeShape 50 = .ok (.iinc 3 1, 3) := by decide +kernel
theorem dX7_takeShape_53 : decode cX7_takeShape 53 = .ok (.goto (-29), 3) := by decide +kernel
theorem dX7_takeShape_56 : decode cX7_takeShape 56 = .ok (.aload_n 0, 1) := by decide +kernel
theorem dX7_takeShape_57 : decode cX7_takeShape 57 = .ok (.invokevirtual 66, 3) := by decide +kernel
theorem dX7_takeShape_60 : decode cX7_takeShape 60 = .ok (.return_, 1) := by decide +kernel
theorem dX7_readFrom_0 : decode cX7_readFrom 0 = .ok (.aload_n 1, 1) := by decide +kernel
theorem dX7_readFrom_1 : decode cX7_readFrom 1 = .ok (.iconst 0, 1) := by decide +kernel
theorem dX7_readFrom_2 : decode cX7_readFrom 2 = .ok (.invokevirtual 69, 3) := by decide +kernel
theorem dX7_readFrom_5 : decode cX7_readFrom 5 = .ok (.istore_n 2, 1) := by decide +kernel
theorem dX7_readFrom_6 : decode cX7_readFrom 6 = .ok (.iload_n 2, 1) := by decide +kernel
theorem dX7_readFrom_7 : decode cX7_readFrom 7 = .ok (.iconst 1, 1) := by decide +kernel
theorem dX7_readFrom_8 : decode cX7_readFrom 8 = .ok (.if_icmp .lt 9, 3) := by decide +kernel
theorem dX7_readFrom_11 : decode cX7_readFrom 11 = .ok (.iload_n 2, 1) := by decide +kernel
theorem dX7_readFrom_12 : decode cX7_readFrom 12 = .ok (.bipush 6, 2) := by decide +kernel
theorem dX7_readFrom_14 : decode cX7_readFrom 14 = .ok (.if_icmp .le 5, 3) := by decide +kernel
theorem dX7_readFrom_17 : decode cX7_readFrom 17 = .ok (.iconst 0, 1) := by decide +kernel
theorem dX7_readFrom_18 : decode cX7_readFrom 18 = .ok (.ireturn, 1) := by decide +kernel
theorem dX7_readFrom_19 : decode cX7_readFrom 19 = .ok (.aload_n 0, 1) := by decide +kernel
theorem dX7_readFrom_20 : decode cX7_readFrom 20 = .ok (.getfield 21, 3) := by decide +kernel
theorem dX7_readFrom_23 : decode cX7_readFrom 23 = .ok (.iconst 0, 1) := by decide +kernel
theorem dX7_readFrom_24 : decode cX7_readFrom 24 = .ok (.invokestatic 74, 3) := by decide +kernel
theorem dX7_readFrom_27 : decode cX7_readFrom 27 = .ok (.iconst 1, 1) := by decide +kernel
theorem dX7_readFrom_28 : decode cX7_readFrom 28 = .ok (.istore_n 3, 1) := by decide +kernel
theorem dX7_readFrom_29 : decode cX7_readFrom 29 = .ok (.iload_n 3, 1) := by decide +kernel
theorem dX7_readFrom_30 : decode cX7_readFrom 30 = .ok (.aload_n 1, 1) := by decide +kernel
theorem dX7_readFrom_31 : decode cX7_readFrom 31 = .ok (.getfield 80, 3) := by decide +kernel
theorem dX7_readFrom_34 : decode cX7_readFrom 34 = .ok (.if_icmp .ge 71, 3) := by decide +kernel
theorem dX7_readFrom_37 : decode cX7_readFrom 37 = .ok (.aload_n 1, 1) := by decide +kernel
theorem dX7_readFrom_38 : decode cX7_readFrom 38 = .ok (.iload_n 3, 1) := by decide +kernel
theorem dX7_readFrom_39 : decode cX7_readFrom 39 = .ok (.invokevirtual 83, 3) := by decide +kernel
theorem dX7_readFrom_42 : decode cX7_readFrom 42 = .ok (.istore 4, 2) := by decide +kernel
theorem dX7_readFrom_44 : decode cX7_readFrom 44 = .ok (.iload_n 3, 1) := by decide +kernel
theorem dX7_readFrom_45 : decode cX7_readFrom 45 = .ok (.bipush 6, 2) := by decide +kernel
theorem dX7_readFrom_47 : decode cX7_readFrom 47 = .ok (.iload_n 2, 1) := by decide +kernel
theorem dX7_readFrom_48 : decode cX7_readFrom 48 = .ok (.imul, 1) := by decide +kernel
theorem dX7_readFrom_49 : decode cX7_readFrom 49 = .ok (.if_icmp .gt 17, 3) := by decide +kernel
theorem dX7_readFrom_52 : decode cX7_readFrom 52 = .ok (.iload 4, 2) := by decide +kernel
theorem dX7_readFrom_54 : decode cX7_readFrom 54 = .ok (.bipush 35, 2) := by decide +kernel
theorem dX7_readFrom_56 : decode cX7_readFrom 56 = .ok (.if_icmp .eq 12, 3) := by decide +kernel
theorem dX7_readFrom_59 : decode cX7_readFrom 59 = .ok (.iload 4, 2) := by decide +kernel
theorem dX7_readFrom_61 : decode cX7_readFrom 61 = .ok (.bipush 46, 2) := by decide +kernel
theorem dX7_readFrom_63 : decode cX7_readFrom 63 = .ok (.if_icmp .eq 5, 3) := by decide +kernel
theorem dX7_readFrom_66 : decode cX7_readFrom 66 = .ok (.iload_n 3, 1) := by decide +kernel
theorem dX7_readFrom_67 : decode cX7_readFrom 67 = .ok (.ireturn, 1) := by decide +kernel
theorem dX7_readFrom_68 : decode cX7_readFrom 68 = .ok (.aload_n 0, 1) := by decide +kernel
theorem dX7_readFrom_69 : decode cX7_readFrom 69 = .ok (.getfield 21, 3) := by decide +kernel
theorem dX7_readFrom_72 : decode cX7_readFrom 72 = .ok (.iload_n 3, 1) := by decide +kernel
theorem dX7_readFrom_73 : decode cX7_readFrom 73 = .ok (.iconst 1, 1) := by decide +kernel
theorem dX7_readFrom_74 : decode cX7_readFrom 74 = .ok (.isub, 1) := by decide +kernel
theorem dX7_readFrom_75 : decode cX7_readFrom 75 = .ok (.iload_n 2, 1) := by decide +kernel
theorem dX7_readFrom_76 : decode cX7_readFrom 76 = .ok (.idiv, 1) := by decide +kernel
theorem dX7_readFrom_77 : decode cX7_readFrom 77 = .ok (.dup2, 1) := by decide +kernel
theorem dX7_readFrom_78 : decode cX7_readFrom 78 = .ok (.iaload, 1) := by decide +kernel
theorem dX7_readFrom_79 : decode cX7_readFrom 79 = .ok (.iload 4, 2) := by decide +kernel
theorem dX7_readFrom_81 : decode cX7_readFrom 81 = .ok (.bipush 35, 2) := by decide +kernel
theorem dX7_readFrom_83 : decode cX7_readFrom 83 = .ok (.if_icmp .ne 13, 3) := by decide +kernel
theorem dX7_readFrom_86 : decode cX7_readFrom 86 = .ok (.iconst 1, 1) := by decide +kernel
theorem dX7_readFrom_87 : decode cX7_readFrom 87 = .ok (.iload_n 3, 1) := by decide +kernel
theorem dX7_readFrom_88 : decode cX7_readFrom 88 = .ok (.iconst 1, 1) := by decide +kernel
theorem dX7_readFrom_89 : decode cX7_readFrom 89 = .ok (.isub, 1) := by decide +kernel
theorem dX7_readFrom_90 : decode cX7_readFrom 90 = .ok (.iload_n 2, 1) := by decide +kernel
theorem dX7_readFrom_91 : decode cX7_readFrom 91 = .ok (.irem, 1) := by decide +kernel
theorem dX7_readFrom_92 : decode cX7_readFrom 92 = .ok (.ishl, 1) := by decide +kernel
theorem dX7_readFrom_93 : decode cX7_readFrom 93 = .ok (.goto 4, 3) := by decide +kernel
theorem dX7_readFrom_96 : decode cX7_readFrom 96 = .ok (.iconst 0, 1) := by decide +kernel
theorem dX7_readFrom_97 : decode cX7_readFrom 97 = .ok (.ior, 1) := by decide +kernel
theorem dX7_readFrom_98 : decode cX7_readFrom 98 = .ok (.iastore, 1) := by decide +kernel
theorem dX7_readFrom_99 : decode cX7_readFrom 99 = .ok (.iinc 3 1, 3) := by decide +kernel
theorem dX7_readFrom_102 : decode cX7_readFrom 102 = .ok (.goto (-73), 3) := by decide +kernel
theorem dX7_readFrom_105 : decode cX7_readFrom 105 = .ok (.aload_n 1, 1) := by decide +kernel
theorem dX7_readFrom_106 : decode cX7_readFrom 106 = .ok (.getfield 80, 3) := by decide +kernel
theorem dX7_readFrom_109 : decode cX7_readFrom 109 = .ok (.iconst 1, 1) := by decide +kernel
theorem dX7_readFrom_110 : decode cX7_readFrom 110 = .ok (.isub, 1) := by decide +kernel
theorem dX7_readFrom_111 : decode cX7_readFrom 111 = .ok (.istore_n 3, 1) := by decide +kernel
theorem dX7_readFrom_112 : decode cX7_readFrom 112 = .ok (.iload_n 3, 1) := by decide +kernel
theorem dX7_readFrom_113 : decode cX7_readFrom 113 = .ok (.iload_n 2, 1) := by decide +kernel
theorem dX7_readFrom_114 : decode cX7_readFrom 114 = .ok (.if_icmp .lt 9, 3) := by decide +kernel
theorem dX7_readFrom_117 : decode cX7_readFrom 117 = .ok (.iload_n 3, 1) := by decide +kernel
theorem dX7_readFrom_118 : decode cX7_readFrom 118 = .ok (.iload_n 2, 1) := by decide +kernel
theorem dX7_readFrom_119 : decode cX7_readFrom 119 = .ok (.irem, 1) := by decide +kernel
theorem dX7_readFrom_120 : decode cX7_readFrom 120 = .ok (.ifCond .eq 8, 3) := by decide +kernel
theorem dX7_readFrom_123 : decode cX7_readFrom 123 = .ok (.aload_n 1, 1) := by decide +kernel
theorem dX7_readFrom_124 : decode cX7_readFrom 124 = .ok (.getfield 80, 3) := by decide +kernel
theorem dX7_readFrom_127 : decode cX7_readFrom 127 = .ok (.ireturn, 1) := by decide +kernel
theorem dX7_readFrom_128 : decode cX7_readFrom 128 = .ok (.aload_n 0, 1) := by decide +kernel
theorem dX7_readFrom_129 : decode cX7_readFrom 129 = .ok (.iload_n 3, 1) := by decide +kernel
theorem dX7_readFrom_130 : decode cX7_readFrom 130 = .ok (.iload_n 2, 1) := by decide +kernel
theorem dX7_readFrom_131 : decode cX7_readFrom 131 = .ok (.idiv, 1) := by decide +kernel
theorem dX7_readFrom_132 : decode cX7_readFrom 132 = .ok (.putfield 9, 3) := by decide +kernel
theorem dX7_readFrom_135 : decode cX7_readFrom 135 = .ok (.aload_n 0, 1) := by decide +kernel
theorem dX7_readFrom_136 : decode cX7_readFrom 136 = .ok (.iload_n 2, 1) := by decide +kernel
theorem dX7_readFrom_137 : decode cX7_readFrom 137 = .ok (.putfield 15, 3) := by decide +kernel
theorem dX7_readFrom_140 : decode cX7_readFrom 140 = .ok (.aload_n 0, 1) := by decide +kernel
theorem dX7_readFrom_141 : decode cX7_readFrom 141 = .ok (.iconst 0, 1) := by decide +kernel
theorem dX7_readFrom_142 : decode cX7_readFrom 142 = .ok (.putfield 18, 3) := by decide +kernel
theorem dX7_readFrom_145 : decode cX7_readFrom 145 = .ok (.aload_n 0, 1) := by decide +kernel
theorem dX7_readFrom_146 : decode cX7_readFrom 146 = .ok (.invokevirtual 66, 3) := by decide +kernel
theorem dX7_readFrom_149 : decode cX7_readFrom 149 = .ok (.iconst (-1), 1) := by decide +kernel
theorem dX7_readFrom_150 : decode cX7_readFrom 150 = .ok (.ireturn, 1) := by decide +kernel
theorem dX7_fillPicks_0 : decode cX7_fillPicks 0 = .ok (.iconst 0, 1) := by decide +kernel
theorem dX7_fillPicks_1 : decode cX7_fillPicks 1 = .ok (.istore 4, 2) := by decide +kernel
theorem dX7_fillPicks_3 : decode cX7_fillPicks 3 = .ok (.iconst 0, 1) := by decide +kernel
theorem dX7_fillPicks_4 : decode cX7_fillPicks 4 = .ok (.istore 5, 2) := by decide +kernel
theorem dX7_fillPicks_6 : decode cX7_fillPicks 6 = .ok (.iload 5, 2) := by decide +kernel
theorem dX7_fillPicks_8 : decode cX7_fillPicks 8 = .ok (.aload_n 0, 1) := by decide +kernel
theorem dX7_fillPicks_9 : decode cX7_fillPicks 9 = .ok (.getfield 9, 3) := by decide +kernel
theorem dX7_fillPicks_12 : decode cX7_fillPicks 12 = .ok (.if_icmp .ge 50, 3) := by decide +kernel
theorem dX7_fillPicks_15 : decode cX7_fillPicks 15 = .ok (.aload_n 0, 1) := by decide +kernel
theorem dX7_fillPicks_16 : decode cX7_fillPicks 16 = .ok (.getfield 21, 3) := by decide +kernel
theorem dX7_fillPicks_19 : decode cX7_fillPicks 19 = .ok (.iload 5, 2) := by decide +kernel
theorem dX7_fillPicks_21 : decode cX7_fillPicks 21 = .ok (.iload 5, 2) := by decide +kernel
theorem dX7_fillPicks_23 : decode cX7_fillPicks 23 = .ok (.iload_n 1, 1) := by decide +kernel
theorem dX7_fillPicks_24 : decode cX7_fillPicks 24 = .ok (.if_icmp .ge 18, 3) := by decide +kernel
theorem dX7_fillPicks_27 : decode cX7_fillPicks 27 = .ok (.iload_n 2, 1) := by decide +kernel
theorem dX7_fillPicks_28 : decode cX7_fillPicks 28 = .ok (.iload 5, 2) := by decide +kernel
theorem dX7_fillPicks_30 : decode cX7_fillPicks 30 = .ok (.iload_n 3, 1) := by decide +kernel
theorem dX7_fillPicks_31 : decode cX7_fillPicks 31 = .ok (.imul, 1) := by decide +kernel
theorem dX7_fillPicks_32 : decode cX7_fillPicks 32 = .ok (.iadd, 1) := by decide +kernel
theorem dX7_fillPicks_33 : decode cX7_fillPicks 33 = .ok (.aload_n 0, 1) := by decide +kernel
theorem dX7_fillPicks_34 : decode cX7_fillPicks 34 = .ok (.iconst 0, 1) := by decide +kernel
theorem dX7_fillPicks_35 : decode cX7_fillPicks 35 = .ok (.invokevirtual 25, 3) := by decide +kernel
theorem dX7_fillPicks_38 : decode cX7_fillPicks 38 = .ok (.iand, 1) := by decide +kernel
theorem dX7_fillPicks_39 : decode cX7_fillPicks 39 = .ok (.goto 4, 3) := by decide +kernel
theorem dX7_fillPicks_42 : decode cX7_fillPicks 42 = .ok (.iconst 0, 1) := by decide +kernel
theorem dX7_fillPicks_43 : decode cX7_fillPicks 43 = .ok (.iastore, 1) := by decide +kernel
theorem dX7_fillPicks_44 : decode cX7_fillPicks 44 = .ok (.iload 4, 2) := by decide +kernel
theorem dX7_fillPicks_46 : decode cX7_fillPicks 46 = .ok (.aload_n 0, 1) := by decide +kernel
theorem dX7_fillPicks_47 : decode cX7_fillPicks 47 = .ok (.getfield 21, 3) := by decide +kernel
theorem dX7_fillPicks_50 : decode cX7_fillPicks 50 = .ok (.iload 5, 2) := by decide +kernel
theorem dX7_fillPicks_52 : decode cX7_fillPicks 52 = .ok (.iaload, 1) := by decide +kernel
theorem dX7_fillPicks_53 : decode cX7_fillPicks 53 = .ok (.iadd, 1) := by decide +kernel
theorem dX7_fillPicks_54 : decode cX7_fillPicks 54 = .ok (.istore 4, 2) := by decide +kernel
theorem dX7_fillPicks_56 : decode cX7_fillPicks 56 = .ok (.iinc 5 1, 3) := by decide +kernel
theorem dX7_fillPicks_59 : decode cX7_fillPicks 59 = .ok (.goto (-53), 3) := by decide +kernel
theorem dX7_fillPicks_62 : decode cX7_fillPicks 62 = .ok (.aload_n 0, 1) := by decide +kernel
theorem dX7_fillPicks_63 : decode cX7_fillPicks 63 = .ok (.invokevirtual 66, 3) := by decide +kernel
theorem dX7_fillPicks_66 : decode cX7_fillPicks 66 = .ok (.iload 4, 2) := by decide +kernel
theorem dX7_fillPicks_68 : decode cX7_fillPicks 68 = .ok (.ireturn, 1) := by decide +kernel
theorem dX7_weaveIn_0 : decode cX7_weaveIn 0 = .ok (.iload_n 1, 1) := by decide +kernel
theorem dX7_weaveIn_1 : decode cX7_weaveIn 1 = .ok (.ifCond .eq 8, 3) := by decide +kernel
theorem dX7_weaveIn_4 : decode cX7_weaveIn 4 = .ok (.iload_n 1, 1) := by decide +kernel
theorem dX7_weaveIn_5 : decode cX7_weaveIn 5 = .ok (.iconst 1, 1) := by decide +kernel
theorem dX7_weaveIn_6 : decode cX7_weaveIn 6 = .ok (.if_icmp .ne 16, 3) := by decide +kernel
theorem dX7_weaveIn_9 : decode cX7_weaveIn 9 = .ok (.iload_n 2, 1) := by decide +kernel
theorem dX7_weaveIn_10 : decode cX7_weaveIn 10 = .ok (.ifCond .lt 12, 3) := by decide +kernel
theorem dX7_weaveIn_13 : decode cX7_weaveIn 13 = .ok (.iload_n 2, 1) := by decide +kernel
theorem dX7_weaveIn_14 : decode cX7_weaveIn 14 = .ok (.aload_n 0, 1) := by decide +kernel
theorem dX7_weaveIn_15 : decode cX7_weaveIn 15 = .ok (.iload_n 1, 1) := by decide +kernel
theorem dX7_weaveIn_16 : decode cX7_weaveIn 16 = .ok (.invokevirtual 29, 3) := by decide +kernel
theorem dX7_weaveIn_19 : decode cX7_weaveIn 19 = .ok (.if_icmp .le 5, 3) := by decide +kernel
theorem dX7_weaveIn_22 : decode cX7_weaveIn 22 = .ok (.iconst (-1), 1) := by decide +kernel
theorem dX7_weaveIn_23 : decode cX7_weaveIn 23 = .ok (.ireturn, 1) := by decide +kernel
theorem dX7_weaveIn_24 : decode cX7_weaveIn 24 = .ok (.iload_n 3, 1) := by decide +kernel
theorem dX7_weaveIn_25 : decode cX7_weaveIn 25 = .ok (.ifCond .lt 12, 3) := by decide +kernel
theorem dX7_weaveIn_28 : decode cX7_weaveIn 28 = .ok (.iload_n 3, 1) := by decide +kernel
theorem dX7_weaveIn_29 : decode cX7_weaveIn 29 = .ok (.aload_n 0, 1) := by decide +kernel
theorem dX7_weaveIn_30 : decode cX7_weaveIn 30 = .ok (.iload_n 1, 1) := by decide +kernel
theorem dX7_weaveIn_31 : decode cX7_weaveIn 31 = .ok (.invokevirtual 25, 3) := by decide +kernel
theorem dX7_weaveIn_34 : decode cX7_weaveIn 34 = .ok (.if_icmp .le 5, 3) := by decide +kernel
theorem dX7_weaveIn_37 : decode cX7_weaveIn 37 = .ok (.iconst (-1), 1) := by decide +kernel
theorem dX7_weaveIn_38 : decode cX7_weaveIn 38 = .ok (.ireturn, 1) := by decide +kernel
theorem dX7_weaveIn_39 : decode cX7_weaveIn 39 = .ok (.aload_n 0, 1) := by decide +kernel
theorem dX7_weaveIn_40 : decode cX7_weaveIn 40 = .ok (.iload_n 1, 1) := by decide +kernel
theorem dX7_weaveIn_41 : decode cX7_weaveIn 41 = .ok (.invokevirtual 29, 3) := by decide +kernel
theorem dX7_weaveIn_44 : decode cX7_weaveIn 44 = .ok (.bipush 6, 2) := by decide +kernel
theorem dX7_weaveIn_46 : decode cX7_weaveIn 46 = .ok (.if_icmp .lt 6, 3) := by decide +kernel
theorem dX7_weaveIn_49 : decode cX7_weaveIn 49 = .ok (.bipush (-2), 2) := by decide +kernel
theorem dX7_weaveIn_51 : decode cX7_weaveIn 51 = .ok (.ireturn, 1) := by decide +kernel
theorem dX7_weaveIn_52 : decode cX7_weaveIn 52 = .ok (.iload_n 1, 1) := by decide +kernel
theorem dX7_weaveIn_53 : decode cX7_weaveIn 53 = .ok (.ifCond .ne 57, 3) := by decide +kernel
theorem dX7_weaveIn_56 : decode cX7_weaveIn 56 = .ok (.aload_n 0, 1) := by decide +kernel
theorem dX7_weaveIn_57 : decode cX7_weaveIn 57 = .ok (.getfield 9, 3) := by decide +kernel
theorem dX7_weaveIn_60 : decode cX7_weaveIn 60 = .ok (.istore 4, 2) := by decide +kernel
theorem dX7_weaveIn_62 : decode cX7_weaveIn 62 = .ok (.iload 4, 2) := by decide +kernel
theorem dX7_weaveIn_64 : decode cX7_weaveIn 64 = .ok (.iload_n 2, 1) := by decide +kernel
theorem dX7_weaveIn_65 : decode cX7_weaveIn 65 = .ok (.if_icmp .le 25, 3) := by decide +kernel
theorem dX7_weaveIn_68 : decode cX7_weaveIn 68 = .ok (.aload_n 0, 1) := by decide +kernel
theorem dX7_weaveIn_69 : decode cX7_weaveIn 69 = .ok (.getfield 21, 3) := by decide +kernel
theorem dX7_weaveIn_72 : decode cX7_weaveIn 72 = .ok (.iload 4, 2) := by decide +kernel
theorem dX7_weaveIn_74 : decode cX7_weaveIn 74 = .ok (.aload_n 0, 1) := by decide +kernel
theorem dX7_weaveIn_75 : decode cX7_weaveIn 75 = .ok (.getfield 21, 3) := by decide +kernel
theorem dX7_weaveIn_78 : decode cX7_weaveIn 78 = .ok (.iload 4, 2) := by decide +kernel
theorem dX7_weaveIn_80 : decode cX7_weaveIn 80 = .ok (.iconst 1, 1) := by decide +kernel
theorem dX7_weaveIn_81 : decode cX7_weaveIn 81 = .ok (.isub, 1) := by decide +kernel
theorem dX7_weaveIn_82 : decode cX7_weaveIn 82 = .ok (.iaload, 1) := by decide +kernel
theorem dX7_weaveIn_83 : decode cX7_weaveIn 83 = .ok (.iastore, 1) := by decide +kernel
theorem dX7_weaveIn_84 : decode cX7_weaveIn 84 = .ok (.iinc 4 (-1), 3) := by decide +kernel
theorem dX7_weaveIn_87 : decode cX7_weaveIn 87 = .ok (.goto (-25), 3) := by decide +kernel
theorem dX7_weaveIn_90 : decode cX7_weaveIn 90 = .ok (.aload_n 0, 1) := by decide +kernel
theorem dX7_weaveIn_91 : decode cX7_weaveIn 91 = .ok (.getfield 21, 3) := by decide +kernel
theorem dX7_weaveIn_94 : decode cX7_weaveIn 94 = .ok (.iload_n 2, 1) := by decide +kernel
theorem dX7_weaveIn_95 : decode cX7_weaveIn 95 = .ok (.iload_n 3, 1) := by decide +kernel
theorem dX7_weaveIn_96 : decode cX7_weaveIn 96 = .ok (.iastore, 1) := by decide +kernel
theorem dX7_weaveIn_97 : decode cX7_weaveIn 97 = .ok (.aload_n 0, 1) := by decide +kernel
theorem dX7_weaveIn_98 : decode cX7_weaveIn 98 = .ok (.dup, 1) := by decide +kernel
theorem dX7_weaveIn_99 : decode cX7_weaveIn 99 = .ok (.getfield 9, 3) := by decide +kernel
theorem dX7_weaveIn_102 : decode cX7_weaveIn 102 = .ok (.iconst 1, 1) := by decide +kernel
theorem dX7_weaveIn_103 : decode cX7_weaveIn 103 = .ok (.iadd, 1) := by decide +kernel
theorem dX7_weaveIn_104 : decode cX7_weaveIn 104 = .ok (.putfield 9, 3) := by decide +kernel
theorem dX7_weaveIn_107 : decode cX7_weaveIn 107 = .ok (.goto 57, 3) := by decide +kernel
theorem dX7_weaveIn_110 : decode cX7_weaveIn 110 = .ok (.iconst 0, 1) := by decide +kernel
theorem dX7_weaveIn_111 : decode cX7_weaveIn 111 = .ok (.istore 4, 2) := by decide +kernel
theorem dX7_weaveIn_113 : decode cX7_weaveIn 113 = .ok (.iload 4, 2) := by decide +kernel
theorem dX7_weaveIn_115 : decode cX7_weaveIn 115 = .ok (.aload_n 0, 1) := by decide +kernel
theorem dX7_weaveIn_116 : decode cX7_weaveIn 116 = .ok (.getfield 9, 3) := by decide +kernel
theorem dX7_weaveIn_119 : decode cX7_weaveIn 119 = .ok (.if_icmp .ge 35, 3) := by decide +kernel
theorem dX7_weaveIn_122 : decode cX7_weaveIn 122 = .ok (.aload_n 0, 1) := by decide +kernel
theorem dX7_weaveIn_123 : decode cX7_weaveIn 123 = .ok (.getfield 21, 3) := by decide +kernel
theorem dX7_weaveIn_126 : decode cX7_weaveIn 126 = .ok (.iload 4, 2) := by decide +kernel
theorem dX7_weaveIn_128 : decode cX7_weaveIn 128 = .ok (.aload_n 0, 1) := by decide +kernel
theorem dX7_weaveIn_129 : decode cX7_weaveIn 129 = .ok (.getfield 21, 3) := by decide +kernel
theorem dX7_weaveIn_132 : decode cX7_weaveIn 132 = .ok (.iload 4, 2) := by decide +kernel
theorem dX7_weaveIn_134 : decode cX7_weaveIn 134 = .ok (.iaload, 1) := by decide +kernel
theorem dX7_weaveIn_135 : decode cX7_weaveIn 135 = .ok (.iload_n 2, 1) := by decide +kernel
theorem dX7_weaveIn_136 : decode cX7_weaveIn 136 = .ok (.iload_n 3, 1) := by decide +kernel
theorem dX7_weaveIn_137 : decode cX7_weaveIn 137 = .ok (.iload 4, 2) := by decide +kernel
theorem dX7_weaveIn_139 : decode cX7_weaveIn 139 = .ok (.iushr, 1) := by decide +kernel
theorem dX7_weaveIn_140 : decode cX7_weaveIn 140 = .ok (.iconst 1, 1) := by decide +kernel
theorem dX7_weaveIn_141 : decode cX7_weaveIn 141 = .ok (.iand, 1) := by decide +kernel
theorem dX7_weaveIn_142 : decode cX7_weaveIn 142 = .ok (.iconst 1, 1) := by decide +kernel
theorem dX7_weaveIn_143 : decode cX7_weaveIn 143 = .ok (.ixor, 1) := by decide +kernel
theorem dX7_weaveIn_144 : decode cX7_weaveIn 144 = .ok (.invokestatic 86, 3) := by decide +kernel
theorem dX7_weaveIn_147 : decode cX7_weaveIn 147 = .ok (.iastore, 1) := by decide +kernel
theorem dX7_weaveIn_148 : decode cX7_weaveIn 148 = .ok (.iinc 4 1, 3) := by decide +kernel
theorem dX7_weaveIn_151 : decode cX7_weaveIn 151 = .ok (.goto (-38), 3) := by decide +kernel
theorem dX7_weaveIn_154 : decode cX7_weaveIn 154 = .ok (.aload_n 0, 1) := by decide +kernel
theorem dX7_weaveIn_155 : decode cX7_weaveIn 155 = .ok (.dup, 1) := by decide +kernel
theorem dX7_weaveIn_156 : decode cX7_weaveIn 156 = .ok (.getfield 15, 3) := by decide +kernel
theorem dX7_weaveIn_159 : decode cX7_weaveIn 159 = .ok (.iconst 1, 1) := by decide +kernel
theorem dX7_weaveIn_160 : decode cX7_weaveIn 160 = .ok (.iadd, 1) := by decide +kernel
theorem dX7_weaveIn_161 : decode cX7_weaveIn 161 = .ok (.putfield 15, 3) := by decide +kernel
theorem dX7_weaveIn_164 : decode cX7_weaveIn 164 = .ok (.aload_n 0, 1) := by decide +kernel
theorem dX7_weaveIn_165 : decode cX7_weaveIn 165 = .ok (.invokevirtual 66, 3) := by decide +kernel
theorem dX7_weaveIn_168 : decode cX7_weaveIn 168 = .ok (.aload_n 0, 1) := by decide +kernel
theorem dX7_weaveIn_169 : decode cX7_weaveIn 169 = .ok (.iload_n 1, 1) := by decide +kernel
theorem dX7_weaveIn_170 : decode cX7_weaveIn 170 = .ok (.invokevirtual 29, 3) := by decide +kernel
theorem dX7_weaveIn_173 : decode cX7_weaveIn 173 = .ok (.ireturn, 1) := by decide +kernel
theorem dX7_drawOut_0 : decode cX7_drawOut 0 = .ok (.aload_n 0, 1) := by decide +kernel
theorem dX7_drawOut_1 : decode cX7_drawOut 1 = .ok (.iload_n 1, 1) := by decide +kernel
theorem dX7_drawOut_2 : decode cX7_drawOut 2 = .ok (.iload_n 2, 1) := by decide +kernel
theorem dX7_drawOut_3 : decode cX7_drawOut 3 = .ok (.invokevirtual 32, 3) := by decide +kernel
theorem dX7_drawOut_6 : decode cX7_drawOut 6 = .ok (.ifCond .ne 5, 3) := by decide +kernel
theorem dX7_drawOut_9 : decode cX7_drawOut 9 = .ok (.iconst (-1), 1) := by decide +kernel
theorem dX7_drawOut_10 : decode cX7_drawOut 10 = .ok (.ireturn, 1) := by decide +kernel
theorem dX7_drawOut_11 : decode cX7_drawOut 11 = .ok (.aload_n 0, 1) := by decide +kernel
theorem dX7_drawOut_12 : decode cX7_drawOut 12 = .ok (.iload_n 1, 1) := by decide +kernel
theorem dX7_drawOut_13 : decode cX7_drawOut 13 = .ok (.invokevirtual 29, 3) := by decide +kernel
theorem dX7_drawOut_16 : decode cX7_drawOut 16 = .ok (.iconst 1, 1) := by decide +kernel
theorem dX7_drawOut_17 : decode cX7_drawOut 17 = .ok (.if_icmp .ne 6, 3) := by decide +kernel
theorem dX7_drawOut_20 : decode cX7_drawOut 20 = .ok (.bipush (-2), 2) := by decide +kernel
theorem dX7_drawOut_22 : decode cX7_drawOut 22 = .ok (.ireturn, 1) := by decide +kernel
theorem dX7_drawOut_23 : decode cX7_drawOut 23 = .ok (.aload_n 0, 1) := by decide +kernel
theorem dX7_drawOut_24 : decode cX7_drawOut 24 = .ok (.iload_n 1, 1) := by decide +kernel
theorem dX7_drawOut_25 : decode cX7_drawOut 25 = .ok (.iload_n 2, 1) := by decide +kernel
theorem dX7_drawOut_26 : decode cX7_drawOut 26 = .ok (.invokevirtual 44, 3) := by decide +kernel
theorem dX7_drawOut_29 : decode cX7_drawOut 29 = .ok (.istore_n 3, 1) := by decide +kernel
theorem dX7_drawOut_30 : decode cX7_drawOut 30 = .ok (.iload_n 1, 1) := by decide +kernel
theorem dX7_drawOut_31 : decode cX7_drawOut 31 = .ok (.ifCond .ne 60, 3) := by decide +kernel
theorem dX7_drawOut_34 : decode cX7_drawOut 34 = .ok (.aload_n 0, 1) := by decide +kernel
theorem dX7_drawOut_35 : decode cX7_drawOut 35 = .ok (.dup, 1) := by decide +kernel
theorem dX7_drawOut_36 : decode cX7_drawOut 36 = .ok (.getfield 9, 3) := by decide +kernel
theorem dX7_drawOut_39 : decode cX7_drawOut 39 = .ok (.iconst 1, 1) := by decide +kernel
theorem dX7_drawOut_40 : decode cX7_drawOut 40 = .ok (.isub, 1) := by decide +kernel
theorem dX7_drawOut_41 : decode cX7_drawOut 41 = .ok (.putfield 9, 3) := by decide +kernel
theorem dX7_drawOut_44 : decode cX7_drawOut 44 = .ok (.iload_n 2, 1) := by decide +kernel
theorem dX7_drawOut_45 : decode cX7_drawOut 45 = .ok (.istore 4, 2) := by decide +kernel
theorem dX7_drawOut_47 : decode cX7_drawOut 47 = .ok (.iload 4, 2) := by decide +kernel
theorem dX7_drawOut_49 : decode cX7_drawOut 49 = .ok (.aload_n 0, 1) := by decide +kernel
theorem dX7_drawOut_50 : decode cX7_drawOut 50 = .ok (.getfield 9, 3) := by decide +kernel
theorem dX7_drawOut_53 : decode cX7_drawOut 53 = .ok (.if_icmp .ge 25, 3) := by decide +kernel
theorem dX7_drawOut_56 : decode cX7_drawOut 56 = .ok (.aload_n 0, 1) := by decide +kernel
theorem dX7_drawOut_57 : decode cX7_drawOut 57 = .ok (.getfield 21, 3) := by decide +kernel
theorem dX7_drawOut_60 : decode cX7_drawOut 60 = .ok (.iload 4, 2) := by decide +kernel
theorem dX7_drawOut_62 : decode cX7_drawOut 62 = .ok (.aload_n 0, 1) := by decide +kernel
theorem dX7_drawOut_63 : decode cX7_drawOut 63 = .ok (.getfield 21, 3) := by decide +kernel
theorem dX7_drawOut_66 : decode cX7_drawOut 66 = .ok (.iload 4, 2) := by decide +kernel
theorem dX7_drawOut_68 : decode cX7_drawOut 68 = .ok (.iconst 1, 1) := by decide +kernel
theorem dX7_drawOut_69 : decode cX7_drawOut 69 = .ok (.iadd, 1) := by decide +kernel
theorem dX7_drawOut_70 : decode cX7_drawOut 70 = .ok (.iaload, 1) := by decide +kernel
theorem dX7_drawOut_71 : decode cX7_drawOut 71 = .ok (.iastore, 1) := by decide +kernel
theorem dX7_drawOut_72 : decode cX7_drawOut 72 = .ok (.iinc 4 1, 3) := by decide +kernel
theorem dX7_drawOut_75 : decode cX7_drawOut 75 = .ok (.goto (-28), 3) := by decide +kernel
theorem dX7_drawOut_78 : decode cX7_drawOut 78 = .ok (.aload_n 0, 1) := by decide +kernel
theorem dX7_drawOut_79 : decode cX7_drawOut 79 = .ok (.getfield 21, 3) := by decide +kernel
theorem dX7_drawOut_82 : decode cX7_drawOut 82 = .ok (.aload_n 0, 1) := by decide +kernel
theorem dX7_drawOut_83 : decode cX7_drawOut 83 = .ok (.getfield 9, 3) := by decide +kernel
theorem dX7_drawOut_86 : decode cX7_drawOut 86 = .ok (.iconst 0, 1) := by decide +kernel
theorem dX7_drawOut_87 : decode cX7_drawOut 87 = .ok (.iastore, 1) := by decide +kernel
theorem dX7_drawOut_88 : decode cX7_drawOut 88 = .ok (.goto 49, 3) := by decide +kernel
theorem dX7_drawOut_91 : decode cX7_drawOut 91 = .ok (.aload_n 0, 1) := by decide +kernel
theorem dX7_drawOut_92 : decode cX7_drawOut 92 = .ok (.dup, 1) := by decide +kernel
theorem dX7_drawOut_93 : decode cX7_drawOut 93 = .ok (.getfield 15, 3) := by decide +kernel
theorem dX7_drawOut_96 : decode cX7_drawOut 96 = .ok (.iconst 1, 1) := by decide +kernel
theorem dX7_drawOut_97 : decode cX7_drawOut 97 = .ok (.isub, 1) := by decide +kernel
theorem dX7_drawOut_98 : decode cX7_drawOut 98 = .ok (.putfield 15, 3) := by decide +kernel
theorem dX7_drawOut_101 : decode cX7_drawOut 101 = .ok (.iconst 0, 1) := by decide +kernel
theorem dX7_drawOut_102 : decode cX7_drawOut 102 = .ok (.istore 4, 2) := by decide +kernel
theorem dX7_drawOut_104 : decode cX7_drawOut 104 = .ok (.iload 4, 2) := by decide +kernel
theorem dX7_drawOut_106 : decode cX7_drawOut 106 = .ok (.aload_n 0, 1) := by decide +kernel
theorem dX7_drawOut_107 : decode cX7_drawOut 107 = .ok (.getfield 9, 3) := by decide +kernel
theorem dX7_drawOut_110 : decode cX7_drawOut 110 = .ok (.if_icmp .ge 27, 3) := by decide +kernel
theorem dX7_drawOut_113 : decode cX7_drawOut 113 = .ok (.aload_n 0, 1) := by decide +kernel
theorem dX7_drawOut_114 : decode cX7_drawOut 114 = .ok (.getfield 21, 3) := by decide +kernel
theorem dX7_drawOut_117 : decode cX7_drawOut 117 = .ok (.iload 4, 2) := by decide +kernel
theorem dX7_drawOut_119 : decode cX7_drawOut 119 = .ok (.aload_n 0, 1) := by decide +kernel
theorem dX7_drawOut_120 : decode cX7_drawOut 120 = .ok (.getfield 21, 3) := by decide +kernel
theorem dX7_drawOut_123 : decode cX7_drawOut 123 = .ok (.iload 4, 2) := by decide +kernel
theorem dX7_drawOut_125 : decode cX7_drawOut 125 = .ok (.iaload, 1) := by decide +kernel
theorem dX7_drawOut_126 : decode cX7_drawOut 126 = .ok (.iload_n 2, 1) := by decide +kernel
theorem dX7_drawOut_127 : decode cX7_drawOut 127 = .ok (.invokestatic 90, 3) := by decide +kernel
theorem dX7_drawOut_130 : decode cX7_drawOut 130 = .ok (.iastore, 1) := by decide +kernel
theorem dX7_drawOut_131 : decode cX7_drawOut 131 = .ok (.iinc 4 1, 3) := by decide +kernel
theorem dX7_drawOut_134 : decode cX7_drawOut 134 = .ok (.goto (-30), 3) := by decide +kernel
theorem dX7_drawOut_137 : decode cX7_drawOut 137 = .ok (.aload_n 0, 1) := by decide +kernel
theorem dX7_drawOut_138 : decode cX7_drawOut 138 = .ok (.invokevirtual 66, 3) := by decide +kernel
theorem dX7_drawOut_141 : decode cX7_drawOut 141 = .ok (.iload_n 3, 1) := by decide +kernel
theorem dX7_drawOut_142 : decode cX7_drawOut 142 = .ok (.ireturn, 1) := by decide +kernel
theorem dX7_turnCell_0 : decode cX7_turnCell 0 = .ok (.aload_n 0, 1) := by decide +kernel
theorem dX7_turnCell_1 : decode cX7_turnCell 1 = .ok (.iload_n 1, 1) := by decide +kernel
theorem dX7_turnCell_2 : decode cX7_turnCell 2 = .ok (.iload_n 2, 1) := by decide +kernel
theorem dX7_turnCell_3 : decode cX7_turnCell 3 = .ok (.invokevirtual 36, 3) := by decide +kernel
theorem dX7_turnCell_6 : decode cX7_turnCell 6 = .ok (.ifCond .ne 5, 3) := by decide +kernel
theorem dX7_turnCell_9 : decode cX7_turnCell 9 = .ok (.iconst (-1), 1) := by decide +kernel
theorem dX7_turnCell_10 : decode cX7_turnCell 10 = .ok (.ireturn, 1) := by decide +kernel
theorem dX7_turnCell_11 : decode cX7_turnCell 11 = .ok (.aload_n 0, 1) := by decide +kernel
theorem dX7_turnCell_12 : decode cX7_turnCell 12 = .ok (.getfield 21, 3) := by decide +kernel
theorem dX7_turnCell_15 : decode cX7_turnCell 15 = .ok (.iload_n 1, 1) := by decide +kernel
theorem dX7_turnCell_16 : decode cX7_turnCell 16 = .ok (.dup2, 1) := by decide +kernel
theorem dX7_turnCell_17 : decode cX7_turnCell 17 = .ok (.iaload, 1) := by decide +kernel
theorem dX7_turnCell_18 : decode cX7_turnCell 18 = .ok (.iconst 1, 1) := by decide +kernel
theorem dX7_turnCell_19 : decode cX7_turnCell 19 = .ok (.iload_n 2, 1) := by decide +kernel
theorem dX7_turnCell_20 : decode cX7_turnCell 20 = .ok (.ishl, 1) := by decide +kernel
theorem dX7_turnCell_21 : decode cX7_turnCell 21 = .ok (.ixor, 1) := by decide +kernel
theorem dX7_turnCell_22 : decode cX7_turnCell 22 = .ok (.iastore, 1) := by decide +kernel
theorem dX7_turnCell_23 : decode cX7_turnCell 23 = .ok (.aload_n 0, 1) := by decide +kernel
theorem dX7_turnCell_24 : decode cX7_turnCell 24 = .ok (.invokevirtual 66, 3) := by decide +kernel
theorem dX7_turnCell_27 : decode cX7_turnCell 27 = .ok (.aload_n 0, 1) := by decide +kernel
theorem dX7_turnCell_28 : decode cX7_turnCell 28 = .ok (.invokevirtual 93, 3) := by decide +kernel
theorem dX7_turnCell_31 : decode cX7_turnCell 31 = .ok (.ireturn, 1) := by decide +kernel
theorem dX7_turnRound_0 : decode cX7_turnRound 0 = .ok (.iload_n 1, 1) := by decide +kernel
theorem dX7_turnRound_1 : decode cX7_turnRound 1 = .ok (.ifCond .eq 10, 3) := by decide +kernel
theorem dX7_turnRound_4 : decode cX7_turnRound 4 = .ok (.iload_n 1, 1) := by decide +kernel
theorem dX7_turnRound_5 : decode cX7_turnRound 5 = .ok (.iconst 1, 1) := by decide +kernel
theorem dX7_turnRound_6 : decode cX7_turnRound 6 = .ok (.if_icmp .eq 5, 3) := by decide +kernel
theorem dX7_turnRound_9 : decode cX7_turnRound 9 = .ok (.iconst (-1), 1) := by decide +kernel
theorem dX7_turnRound_10 : decode cX7_turnRound 10 = .ok (.ireturn, 1) := by decide +kernel
theorem dX7_turnRound_11 : decode cX7_turnRound 11 = .ok (.aload_n 0, 1) := by decide +kernel
theorem dX7_turnRound_12 : decode cX7_turnRound 12 = .ok (.iload_n 1, 1) := by decide +kernel
theorem dX7_turnRound_13 : decode cX7_turnRound 13 = .ok (.invokevirtual 29, 3) := by decide +kernel
theorem dX7_turnRound_16 : decode cX7_turnRound 16 = .ok (.istore_n 2, 1) := by decide +kernel
theorem dX7_turnRound_17 : decode cX7_turnRound 17 = .ok (.iconst 0, 1) := by decide +kernel
theorem dX7_turnRound_18 : decode cX7_turnRound 18 = .ok (.istore_n 3, 1) := by decide +kernel
theorem dX7_turnRound_19 : decode cX7_turnRound 19 = .ok (.iconst 0, 1) := by decide +kernel
theorem dX7_turnRound_20 : decode cX7_turnRound 20 = .ok (.istore 4, 2) := by decide +kernel
theorem dX7_turnRound_22 : decode cX7_turnRound 22 = .ok (.iload 4, 2) := by decide +kernel
theorem dX7_turnRound_24 : decode cX7_turnRound 24 = .ok (.iload_n 2, 1) := by decide +kernel
theorem dX7_turnRound_25 : decode cX7_turnRound 25 = .ok (.if_icmp .ge 38, 3) := by decide +kernel
theorem dX7_turnRound_28 : decode cX7_turnRound 28 = .ok (.iload_n 3, 1) := by decide +kernel
theorem dX7_turnRound_29 : decode cX7_turnRound 29 = .ok (.aload_n 0, 1) := by decide +kernel
theorem dX7_turnRound_30 : decode cX7_turnRound 30 = .ok (.iload_n 1, 1) := by decide +kernel
theorem dX7_turnRound_31 : decode cX7_turnRound 31 = .ok (.iload 4, 2) := by decide +kernel
theorem dX7_turnRound_33 : decode cX7_turnRound 33 = .ok (.invokevirtual 44, 3) := by decide +kernel
theorem dX7_turnRound_36 : decode cX7_turnRound 36 = .ok (.aload_n 0, 1) := by decide +kernel
theorem dX7_turnRound_37 : decode cX7_turnRound 37 = .ok (.iload_n 1, 1) := by decide +kernel
theorem dX7_turnRound_38 : decode cX7_turnRound 38 = .ok (.iload_n 2, 1) := by decide +kernel
theorem dX7_turnRound_39 : decode cX7_turnRound 39 = .ok (.iconst 1, 1) := by decide +kernel
theorem dX7_turnRound_40 : decode cX7_turnRound 40 = .ok (.isub, 1) := by decide +kernel
theorem dX7_turnRound_41 : decode cX7_turnRound 41 = .ok (.iload 4, 2) := by decide +kernel
theorem dX7_turnRound_43 : decode cX7_turnRound 43 = .ok (.isub, 1) := by decide +kernel
theorem dX7_turnRound_44 : decode cX7_turnRound 44 = .ok (.invokevirtual 44, 3) := by decide +kernel
theorem dX7_turnRound_47 : decode cX7_turnRound 47 = .ok (.if_icmp .ne 7, 3) := by decide +kernel
theorem dX7_turnRound_50 : decode cX7_turnRound 50 = .ok (.iconst 0, 1) := by decide +kernel
theorem dX7_turnRound_51 : decode cX7_turnRound 51 = .ok (.goto 4, 3) := by decide +kernel
theorem dX7_turnRound_54 : decode cX7_turnRound 54 = .ok (.iconst 1, 1) := by decide +kernel
theorem dX7_turnRound_55 : decode cX7_turnRound 55 = .ok (.iadd, 1) := by decide +kernel
theorem dX7_turnRound_56 : decode cX7_turnRound 56 = .ok (.istore_n 3, 1) := by decide +kernel
theorem dX7_turnRound_57 : decode cX7_turnRound 57 = .ok (.iinc 4 1, 3) := by decide +kernel
theorem dX7_turnRound_60 : decode cX7_turnRound 60 = .ok (.goto (-38), 3) := by decide +kernel
theorem dX7_turnRound_63 : decode cX7_turnRound 63 = .ok (.iload_n 1, 1) := by decide +kernel
theorem dX7_turnRound_64 : decode cX7_turnRound 64 = .ok (.ifCond .ne 63, 3) := by decide +kernel
theorem dX7_turnRound_67 : decode cX7_turnRound 67 = .ok (.iconst 0, 1) := by decide +kernel
theorem dX7_turnRound_68 : decode cX7_turnRound 68 = .ok (.istore 4, 2) := by decide +kernel
theorem dX7_turnRound_70 : decode cX7_turnRound 70 = .ok (.iload 4, 2) := by decide +kernel
theorem dX7_turnRound_72 : decode cX7_turnRound 72 = .ok (.iload_n 2, 1) := by decide +kernel
theorem dX7_turnRound_73 : decode cX7_turnRound 73 = .ok (.iconst 2, 1) := by decide +kernel
theorem dX7_turnRound_74 : decode cX7_turnRound 74 = .ok (.idiv, 1) := by decide +kernel
theorem dX7_turnRound_75 : decode cX7_turnRound 75 = .ok (.if_icmp .ge 49, 3) := by decide +kernel
theorem dX7_turnRound_78 : decode cX7_turnRound 78 = .ok (.aload_n 0, 1) := by decide +kernel
theorem dX7_turnRound_79 : decode cX7_turnRound 79 = .ok (.getfield 21, 3) := by decide +kernel
theorem dX7_turnRound_82 : decode cX7_turnRound 82 = .ok (.iload 4, 2) := by decide +kernel
theorem dX7_turnRound_84 : decode cX7_turnRound 84 = .ok (.iaload, 1) := by decide +kernel
theorem dX7_turnRound_85 : decode cX7_turnRound 85 = .ok (.istore 5, 2) := by decide +kernel
theorem dX7_turnRound_87 : decode cX7_turnRound 87 = .ok (.aload_n 0, 1) := by decide +kernel
theorem dX7_turnRound_88 : decode cX7_turnRound 88 = .ok (.getfield 21, 3) := by decide +kernel
theorem dX7_turnRound_91 : decode cX7_turnRound 91 = .ok (.iload 4, 2) := by decide +kernel
theorem dX7_turnRound_93 : decode cX7_turnRound 93 = .ok (.aload_n 0, 1) := by decide +kernel
theorem dX7_turnRound_94 : decode cX7_turnRound 94 = .ok (.getfield 21, 3) := by decide +kernel
theorem dX7_turnRound_97 : decode cX7_turnRound 97 = .ok (.iload_n 2, 1) := by decide +kernel
theorem dX7_turnRound_98 : decode cX7_turnRound 98 = .ok (.iconst 1, 1) := by decide +kernel
theorem dX7_turnRound_99 : decode cX7_turnRound 99 = .ok (.isub, 1) := by decide +kernel
theorem dX7_turnRound_100 : decode cX7_turnRound 100 = .ok (.iload 4, 2) := by decide +kernel
theorem dX7_turnRound_102 : decode cX7_turnRound 102 = .ok (.isub, 1) := by decide +kernel
theorem dX7_turnRound_103 : decode cX7_turnRound 103 = .ok (.iaload, 1) := by decide +kernel
theorem dX7_turnRound_104 : decode cX7_turnRound 104 = .ok (.iastore, 1) := by decide +kernel
theorem dX7_turnRound_105 : decode cX7_turnRound 105 = .ok (.aload_n 0, 1) := by decide +kernel
theorem dX7_turnRound_106 : decode cX7_turnRound 106 = .ok (.getfield 21, 3) := by decide +kernel
theorem dX7_turnRound_109 : decode cX7_turnRound 109 = .ok (.iload_n 2, 1) := by decide +kernel
theorem dX7_turnRound_110 : decode cX7_turnRound 110 = .ok (.iconst 1, 1) := by decide +kernel
theorem dX7_turnRound_111 : decode cX7_turnRound 111 = .ok (.isub, 1) := by decide +kernel
theorem dX7_turnRound_112 : decode cX7_turnRound 112 = .ok (.iload 4, 2) := by decide +kernel
theorem dX7_turnRound_114 : decode cX7_turnRound 114 = .ok (.isub, 1) := by decide +kernel
theorem dX7_turnRound_115 : decode cX7_turnRound 115 = .ok (.iload 5, 2) := by decide +kernel
theorem dX7_turnRound_117 : decode cX7_turnRound 117 = .ok (.iastore, 1) := by decide +kernel
theorem dX7_turnRound_118 : decode cX7_turnRound 118 = .ok (.iinc 4 1, 3) := by decide +kernel
theorem dX7_turnRound_121 : decode cX7_turnRound 121 = .ok (.goto (-51), 3) := by decide +kernel
theorem dX7_turnRound_124 : decode cX7_turnRound 124 = .ok (.goto 39, 3) := by decide +kernel
theorem dX7_turnRound_127 : decode cX7_turnRound 127 = .ok (.iconst 0, 1) := by decide +kernel
theorem dX7_turnRound_128 : decode cX7_turnRound 128 = .ok (.istore 4, 2) := by decide +kernel
theorem dX7_turnRound_130 : decode cX7_turnRound 130 = .ok (.iload 4, 2) := by decide +kernel
theorem dX7_turnRound_132 : decode cX7_turnRound 132 = .ok (.aload_n 0, 1) := by decide +kernel
theorem dX7_turnRound_133 : decode cX7_turnRound 133 = .ok (.getfield 9, 3) := by decide +kernel
theorem dX7_turnRound_136 : decode cX7_turnRound 136 = .ok (.if_icmp .ge 27, 3) := by decide +kernel
theorem dX7_turnRound_139 : decode cX7_turnRound 139 = .ok (.aload_n 0, 1) := by decide +kernel
theorem dX7_turnRound_140 : decode cX7_turnRound 140 = .ok (.getfield 21, 3) := by decide +kernel
theorem dX7_turnRound_143 : decode cX7_turnRound 143 = .ok (.iload 4, 2) := by decide +kernel
theorem dX7_turnRound_145 : decode cX7_turnRound 145 = .ok (.aload_n 0, 1) := by decide +kernel
theorem dX7_turnRound_146 : decode cX7_turnRound 146 = .ok (.aload_n 0, 1) := by decide +kernel
theorem dX7_turnRound_147 : decode cX7_turnRound 147 = .ok (.getfield 21, 3) := by decide +kernel
theorem dX7_turnRound_150 : decode cX7_turnRound 150 = .ok (.iload 4, 2) := by decide +kernel
theorem dX7_turnRound_152 : decode cX7_turnRound 152 = .ok (.iaload, 1) := by decide +kernel
theorem dX7_turnRound_153 : decode cX7_turnRound 153 = .ok (.invokevirtual 97, 3) := by decide +kernel
theorem dX7_turnRound_156 : decode cX7_turnRound 156 = .ok (.iastore, 1) := by decide +kernel
theorem dX7_turnRound_157 : decode cX7_turnRound 157 = .ok (.iinc 4 1, 3) := by decide +kernel
theorem dX7_turnRound_160 : decode cX7_turnRound 160 = .ok (.goto (-30), 3) := by decide +kernel
theorem dX7_turnRound_163 : decode cX7_turnRound 163 = .ok (.aload_n 0, 1) := by decide +kernel
theorem dX7_turnRound_164 : decode cX7_turnRound 164 = .ok (.invokevirtual 66, 3) := by decide +kernel
theorem dX7_turnRound_167 : decode cX7_turnRound 167 = .ok (.iload_n 3, 1) := by decide +kernel
theorem dX7_turnRound_168 : decode cX7_turnRound 168 = .ok (.ireturn, 1) := by decide +kernel
theorem dX7_turnedRound_0 : decode cX7_turnedRound 0 = .ok (.iconst 0, 1) := by decide +kernel
theorem dX7_turnedRound_1 : decode cX7_turnedRound 1 = .ok (.istore_n 2, 1) := by decide +kernel
theorem dX7_turnedRound_2 : decode cX7_turnedRound 2 = .ok (.iconst 0, 1) := by decide +kernel
theorem dX7_turnedRound_3 : decode cX7_turnedRound 3 = .ok (.istore_n 3, 1) := by decide +kernel
theorem dX7_turnedRound_4 : decode cX7_turnedRound 4 = .ok (.iload_n 3, 1) := by decide +kernel
theorem dX7_turnedRound_5 : decode cX7_turnedRound 5 = .ok (.aload_n 0, 1) := by decide +kernel
theorem dX7_turnedRound_6 : decode cX7_turnedRound 6 = .ok (.getfield 15, 3) := by decide +kernel
theorem dX7_turnedRound_9 : decode cX7_turnedRound 9 = .ok (.if_icmp .ge 19, 3) := by decide +kernel
theorem dX7_turnedRound_12 : decode cX7_turnedRound 12 = .ok (.iload_n 2, 1) := by decide +kernel
theorem dX7_turnedRound_13 : decode cX7_turnedRound 13 = .ok (.iconst 1, 1) := by decide +kernel
theorem dX7_turnedRound_14 : decode cX7_turnedRound 14 = .ok (.ishl, 1) := by decide +kernel
theorem dX7_turnedRound_15 : decode cX7_turnedRound 15 = .ok (.iload_n 1, 1) := by decide +kernel
theorem dX7_turnedRound_16 : decode cX7_turnedRound 16 = .ok (.iload_n 3, 1) := by decide +kernel
theorem dX7_turnedRound_17 : decode cX7_turnedRound 17 = .ok (.iushr, 1) := by decide +kernel
theorem dX7_turnedRound_18 : decode cX7_turnedRound 18 = .ok (.iconst 1, 1) := by decide +kernel
theorem dX7_turnedRound_19 : decode cX7_turnedRound 19 = .ok (.iand, 1) := by decide +kernel
theorem dX7_turnedRound_20 : decode cX7_turnedRound 20 = .ok (.ior, 1) := by decide +kernel
theorem dX7_turnedRound_21 : decode cX7_turnedRound 21 = .ok (.istore_n 2, 1) := by decide +kernel
theorem dX7_turnedRound_22 : decode cX7_turnedRound 22 = .ok (.iinc 3 1, 3) := by decide +kernel
theorem dX7_turnedRound_25 : decode cX7_turnedRound 25 = .ok (.goto (-21), 3) := by decide +kernel
theorem dX7_turnedRound_28 : decode cX7_turnedRound 28 = .ok (.iload_n 2, 1) := by decide +kernel
theorem dX7_turnedRound_29 : decode cX7_turnedRound 29 = .ok (.ireturn, 1) := by decide +kernel
theorem dX7_passNight_0 : decode cX7_passNight 0 = .ok (.iload_n 1, 1) := by decide +kernel
theorem dX7_passNight_1 : decode cX7_passNight 1 = .ok (.ifCond .lt 16, 3) := by decide +kernel
theorem dX7_passNight_4 : decode cX7_passNight 4 = .ok (.aload_n 0, 1) := by decide +kernel
theorem dX7_passNight_5 : decode cX7_passNight 5 = .ok (.iload_n 1, 1) := by decide +kernel
theorem dX7_passNight_6 : decode cX7_passNight 6 = .ok (.bipush 6, 2) := by decide +kernel
theorem dX7_passNight_8 : decode cX7_passNight 8 = .ok (.idiv, 1) := by decide +kernel
theorem dX7_passNight_9 : decode cX7_passNight 9 = .ok (.iload_n 1, 1) := by decide +kernel
theorem dX7_passNight_10 : decode cX7_passNight 10 = .ok (.bipush 6, 2) := by decide +kernel
theorem dX7_passNight_12 : decode cX7_passNight 12 = .ok (.irem, 1) := by decide +kernel
theorem dX7_passNight_13 : decode cX7_passNight 13 = .ok (.invokevirtual 100, 3) := by decide +kernel
theorem dX7_passNight_16 : decode cX7_passNight 16 = .ok (.pop, 1) := by decide +kernel
theorem dX7_passNight_17 : decode cX7_passNight 17 = .ok (.aload_n 0, 1) := by decide +kernel
theorem dX7_passNight_18 : decode cX7_passNight 18 = .ok (.dup, 1) := by decide +kernel
theorem dX7_passNight_19 : decode cX7_passNight 19 = .ok (.getfield 18, 3) := by decide +kernel
theorem dX7_passNight_22 : decode cX7_passNight 22 = .ok (.iconst 1, 1) := by decide +kernel
theorem dX7_passNight_23 : decode cX7_passNight 23 = .ok (.iadd, 1) := by decide +kernel
theorem dX7_passNight_24 : decode cX7_passNight 24 = .ok (.putfield 18, 3) := by decide +kernel
theorem dX7_passNight_27 : decode cX7_passNight 27 = .ok (.return_, 1) := by decide +kernel
theorem dX8_init_0 : decode cX8_init 0 = .ok (.aload_n 0, 1) := by decide +kernel
theorem dX8_init_1 : decode cX8_init 1 = .ok (.invokespecial 1, 3) := by decide +kernel
theorem dX8_init_4 : decode cX8_init 4 = .ok (.aload_n 0, 1) := by decide +kernel
theorem dX8_init_5 : decode cX8_init 5 = .ok (.new 7, 3) := by decide +kernel
theorem dX8_init_8 : decode cX8_init 8 = .ok (.dup, 1) := by decide +kernel
theorem dX8_init_9 : decode cX8_init 9 = .ok (.invokespecial 9, 3) := by decide +kernel
theorem dX8_init_12 : decode cX8_init 12 = .ok (.putfield 10, 3) := by decide +kernel
theorem dX8_init_15 : decode cX8_init 15 = .ok (.aload_n 0, 1) := by decide +kernel
theorem dX8_init_16 : decode cX8_init 16 = .ok (.new 7, 3) := by decide +kernel
theorem dX8_init_19 : decode cX8_init 19 = .ok (.dup, 1) := by decide +kernel
theorem dX8_init_20 : decode cX8_init 20 = .ok (.invokespecial 9, 3) := by decide +kernel
theorem dX8_init_23 : decode cX8_init 23 = .ok (.putfield 16, 3) := by decide +kernel
theorem dX8_init_26 : decode cX8_init 26 = .ok (.aload_n 0, 1) := by decide +kernel
theorem dX8_init_27 : decode cX8_init 27 = .ok (.new 7, 3) := by decide +kernel
theorem dX8_init_30 : decode cX8_init 30 = .ok (.dup, 1) := by decide +kernel
theorem dX8_init_31 : decode cX8_init 31 = .ok (.invokespecial 9, 3) := by decide +kernel
theorem dX8_init_34 : decode cX8_init 34 = .ok (.putfield 19, 3) := by decide +kernel
theorem dX8_init_37 : decode cX8_init 37 = .ok (.aload_n 0, 1) := by decide +kernel
theorem dX8_init_38 : decode cX8_init 38 = .ok (.new 22, 3) := by decide +kernel
theorem dX8_init_41 : decode cX8_init 41 = .ok (.dup, 1) := by decide +kernel
theorem dX8_init_42 : decode cX8_init 42 = .ok (.invokespecial 24, 3) := by decide +kernel
theorem dX8_init_45 : decode cX8_init 45 = .ok (.putfield 25, 3) := by decide +kernel
theorem dX8_init_48 : decode cX8_init 48 = .ok (.aload_n 0, 1) := by decide +kernel
theorem dX8_init_49 : decode cX8_init 49 = .ok (.new 29, 3) := by decide +kernel
theorem dX8_init_52 : decode cX8_init 52 = .ok (.dup, 1) := by decide +kernel
theorem dX8_init_53 : decode cX8_init 53 = .ok (.invokespecial 31, 3) := by decide +kernel
theorem dX8_init_56 : decode cX8_init 56 = .ok (.putfield 32, 3) := by decide +kernel
theorem dX8_init_59 : decode cX8_init 59 = .ok (.aload_n 0, 1) := by decide +kernel
theorem dX8_init_60 : decode cX8_init 60 = .ok (.new 36, 3) := by decide +kernel
theorem dX8_init_63 : decode cX8_init 63 = .ok (.dup, 1) := by decide +kernel
theorem dX8_init_64 : decode cX8_init 64 = .ok (.invokespecial 38, 3) := by decide +kernel
theorem dX8_init_67 : decode cX8_init 67 = .ok (.putfield 39, 3) := by decide +kernel
theorem dX8_init_70 : decode cX8_init 70 = .ok (.aload_n 0, 1) := by decide +kernel
theorem dX8_init_71 : decode cX8_init 71 = .ok (.new 36, 3) := by decide +kernel
theorem dX8_init_74 : decode cX8_init 74 = .ok (.dup, 1) := by decide +kernel
theorem dX8_init_75 : decode cX8_init 75 = .ok (.invokespecial 38, 3) := by decide +kernel
theorem dX8_init_78 : decode cX8_init 78 = .ok (.putfield 43, 3) := by decide +kernel
theorem dX8_init_81 : decode cX8_init 81 = .ok (.aload_n 0, 1) := by decide +kernel
theorem dX8_init_82 : decode cX8_init 82 = .ok (.new 46, 3) := by decide +kernel
theorem dX8_init_85 : decode cX8_init 85 = .ok (.dup, 1) := by decide +kernel
theorem dX8_init_86 : decode cX8_init 86 = .ok (.invokespecial 48, 3) := by decide +kernel
theorem dX8_init_89 : decode cX8_init 89 = .ok (.putfield 49, 3) := by decide +kernel
theorem dX8_init_92 : decode cX8_init 92 = .ok (.aload_n 0, 1) := by decide +kernel
theorem dX8_init_93 : decode cX8_init 93 = .ok (.new 53, 3) := by decide +kernel
theorem dX8_init_96 : decode cX8_init 96 = .ok (.dup, 1) := by decide +kernel
theorem dX8_init_97 : decode cX8_init 97 = .ok (.invokespecial 55, 3) := by decide +kernel
theorem dX8_init_100 : decode cX8_init 100 = .ok (.putfield 56, 3) := by decide +kernel
theorem dX8_init_103 : decode cX8_init 103 = .ok (.aload_n 0, 1) := by decide +kernel
theorem dX8_init_104 : decode cX8_init 104 = .ok (.new 60, 3) := by decide +kernel
theorem dX8_init_107 : decode cX8_init 107 = .ok (.dup, 1) := by decide +kernel
theorem dX8_init_108 : decode cX8_init 108 = .ok (.invokespecial 62, 3) := by decide +kernel
theorem dX8_init_111 : decode cX8_init 111 = .ok (.putfield 63, 3) := by decide +kernel
theorem dX8_init_114 : decode cX8_init 114 = .ok (.aload_n 0, 1) := by decide +kernel
theorem dX8_init_115 : decode cX8_init 115 = .ok (.new 67, 3) := by decide +kernel
theorem dX8_init_118 : decode cX8_init 118 = .ok (.dup, 1) := by decide +kernel
theorem dX8_init_119 : decode cX8_init 119 = .ok (.bipush 15, 2) := by decide +kernel
theorem dX8_init_121 : decode cX8_init 121 = .ok (.invokespecial 69, 3) := by decide +kernel
theorem dX8_init_124 : decode cX8_init 124 = .ok (.putfield 72, 3) := by decide +kernel
theorem dX8_init_127 : decode cX8_init 127 = .ok (.aload_n 0, 1) := by decide +kernel
theorem dX8_init_128 : decode cX8_init 128 = .ok (.new 67, 3) := by decide +kernel
theorem dX8_init_131 : decode cX8_init 131 = .ok (.dup, 1) := by decide +kernel
theorem dX8_init_132 : decode cX8_init 132 = .ok (.iconst 3, 1) := by decide +kernel
theorem dX8_init_133 : decode cX8_init 133 = .ok (.invokespecial 69, 3) := by decide +kernel
theorem dX8_init_136 : decode cX8_init 136 = .ok (.putfield 76, 3) := by decide +kernel
theorem dX8_init_139 : decode cX8_init 139 = .ok (.aload_n 0, 1) := by decide +kernel
theorem dX8_init_140 : decode cX8_init 140 = .ok (.iconst 0, 1) := by decide +kernel
theorem dX8_init_141 : decode cX8_init 141 = .ok (.putfield 79, 3) := by decide +kernel
theorem dX8_init_144 : decode cX8_init 144 = .ok (.return_, 1) := by decide +kernel
theorem dX8_sign_0 : decode cX8_sign 0 = .ok (.aload_n 0, 1) := by decide +kernel
theorem dX8_sign_1 : decode cX8_sign 1 = .ok (.getfield 25, 3) := by decide +kernel
theorem dX8_sign_4 : decode cX8_sign 4 = .ok (.getfield 83, 3) := by decide +kernel
theorem dX8_sign_7 : decode cX8_sign 7 = .ok (.iconst 4, 1) := by decide +kernel
theorem dX8_sign_8 : decode cX8_sign 8 = .ok (.iadd, 1) := by decide +kernel
theorem dX8_sign_9 : decode cX8_sign 9 = .ok (.bipush 80, 2) := by decide +kernel
theorem dX8_sign_11 : decode cX8_sign 11 = .ok (.if_icmp .le 5, 3) := by decide +kernel
theorem dX8_sign_14 : decode cX8_sign 14 = .ok (.iconst (-1), 1) := by decide +kernel
theorem dX8_sign_15 : decode cX8_sign 15 = .ok (.ireturn, 1) := by decide +kernel
theorem dX8_sign_16 : decode cX8_sign 16 = .ok (.aload_n 0, 1) := by decide +kernel
theorem dX8_sign_17 : decode cX8_sign 17 = .ok (.getfield 25, 3) := by decide +kernel
theorem dX8_sign_20 : decode cX8_sign 20 = .ok (.iload_n 1, 1) := by decide +kernel
theorem dX8_sign_21 : decode cX8_sign 21 = .ok (.bipush 24, 2) := by decide +kernel
theorem dX8_sign_23 : decode cX8_sign 23 = .ok (.iushr, 1) := by decide +kernel
theorem dX8_sign_24 : decode cX8_sign 24 = .ok (.sipush 255, 3) := by decide +kernel
theorem dX8_sign_27 : decode cX8_sign 27 = .ok (.iand, 1) := by decide +kernel
theorem dX8_sign_28 : decode cX8_sign 28 = .ok (.invokevirtual 86, 3) := by decide +kernel
theorem dX8_sign_31 : decode cX8_sign 31 = .ok (.aload_n 0, 1) := by decide +kernel
theorem dX8_sign_32 : decode cX8_sign 32 = .ok (.getfield 25, 3) := by decide +kernel
theorem dX8_sign_35 : decode cX8_sign 35 = .ok (.iload_n 1, 1) := by decide +kernel
theorem dX8_sign_36 : decode cX8_sign 36 = .ok (.bipush 16, 2) := by decide +kernel
theorem dX8_sign_38 : decode cX8_sign 38 = .ok (.iushr, 1) := by decide +kernel
theorem dX8_sign_39 : decode cX8_sign 39 = .ok (.sipush 255, 3) := by decide +kernel
theorem dX8_sign_42 : decode cX8_sign 42 = .ok (.iand, 1) := by decide +kernel
theorem dX8_sign_43 : decode cX8_sign 43 = .ok (.invokevirtual 86, 3) := by decide +kernel
theorem dX8_sign_46 : decode cX8_sign 46 = .ok (.aload_n 0, 1) := by decide +kernel
theorem dX8_sign_47 : decode cX8_sign 47 = .ok (.getfield 25, 3) := by decide +kernel
theorem dX8_sign_50 : decode cX8_sign 50 = .ok (.iload_n 1, 1) := by decide +kernel
theorem dX8_sign_51 : decode cX8_sign 51 = .ok (.bipush 8, 2) := by decide +kernel
theorem dX8_sign_53 : decode cX8_sign 53 = .ok (.iushr, 1) := by decide +kernel
theorem dX8_sign_54 : decode cX8_sign 54 = .ok (.sipush 255, 3) := by decide +kernel
theorem dX8_sign_57 : decode cX8_sign 57 = .ok (.iand, 1) := by decide +kernel
theorem dX8_sign_58 : decode cX8_sign 58 = .ok (.invokevirtual 86, 3) := by decide +kernel
theorem dX8_sign_61 : decode cX8_sign 61 = .ok (.aload_n 0, 1) := by decide +kernel
theorem dX8_sign_62 : decode cX8_sign 62 = .ok (.getfield 25, 3) := by decide +kernel
theorem dX8_sign_65 : decode cX8_sign 65 = .ok (.iload_n 1, 1) := by decide +kernel
theorem dX8_sign_66 : decode cX8_sign 66 = .ok (.sipush 255, 3) := by decide +kernel
theorem dX8_sign_69 : decode cX8_sign 69 = .ok (.iand, 1) := by decide +kernel
theorem dX8_sign_70 : decode cX8_sign 70 = .ok (.invokevirtual 86, 3) := by decide +kernel
theorem dX8_sign_73 : decode cX8_sign 73 = .ok (.aload_n 0, 1) := by decide +kernel
theorem dX8_sign_74 : decode cX8_sign 74 = .ok (.getfield 25, 3) := by decide +kernel
theorem dX8_sign_77 : decode cX8_sign 77 = .ok (.getfield 83, 3) := by decide +kernel
theorem dX8_sign_80 : decode cX8_sign 80 = .ok (.ireturn, 1) := by decide +kernel
theorem dX8_end_0 : decode cX8_end 0 = .ok (.iload_n 1, 1) := by decide +kernel
theorem dX8_end_1 : decode cX8_end 1 = .ok (.ifCond .lt 14, 3) := by decide +kernel
theorem dX8_end_4 : decode cX8_end 4 = .ok (.iload_n 1, 1) := by decide +kernel
theorem dX8_end_5 : decode cX8_end 5 = .ok (.aload_n 0, 1) := by decide +kernel
theorem dX8_end_6 : decode cX8_end 6 = .ok (.getfield 25, 3) := by decide +kernel
theorem dX8_end_9 : decode cX8_end 9 = .ok (.getfield 83, 3) := by decide +kernel
theorem dX8_end_12 : decode cX8_end 12 = .ok (.if_icmp .le 5, 3) := by decide +kernel
theorem dX8_end_15 : decode cX8_end 15 = .ok (.iconst 0, 1) := by decide +kernel
theorem dX8_end_16 : decode cX8_end 16 = .ok (.ireturn, 1) := by decide +kernel
theorem dX8_end_17 : decode cX8_end 17 = .ok (.aload_n 0, 1) := by decide +kernel
theorem dX8_end_18 : decode cX8_end 18 = .ok (.getfield 25, 3) := by decide +kernel
theorem dX8_end_21 : decode cX8_end 21 = .ok (.iload_n 1, 1) := by decide +kernel
theorem dX8_end_22 : decode cX8_end 22 = .ok (.putfield 83, 3) := by decide +kernel
theorem dX8_end_25 : decode cX8_end 25 = .ok (.iconst 1, 1) := by decide +kernel
theorem dX8_end_26 : decode cX8_end 26 = .ok (.ireturn, 1) := by decide +kernel
theorem dX8_cloth_0 : decode cX8_cloth 0 = .ok (.aload_n 0, 1) := by decide +kernel
theorem dX8_cloth_1 : decode cX8_cloth 1 = .ok (.getfield 16, 3) := by decide +kernel
theorem dX8_cloth_4 : decode cX8_cloth 4 = .ok (.aload_n 0, 1) := by decide +kernel
theorem dX8_cloth_5 : decode cX8_cloth 5 = .ok (.getfield 25, 3) := by decide +kernel
theorem dX8_cloth_8 : decode cX8_cloth 8 = .ok (.invokevirtual 89, 3) := by decide +kernel
theorem dX8_cloth_11 : decode cX8_cloth 11 = .ok (.istore_n 1, 1) := by decide +kernel
theorem dX8_cloth_12 : decode cX8_cloth 12 = .ok (.aload_n 0, 1) := by decide +kernel
theorem dX8_cloth_13 : decode cX8_cloth 13 = .ok (.getfield 25, 3) := by decide +kernel
theorem dX8_cloth_16 : decode cX8_cloth 16 = .ok (.iconst 0, 1) := by decide +kernel
theorem dX8_cloth_17 : decode cX8_cloth 17 = .ok (.putfield 83, 3) := by decide +kernel
theorem dX8_cloth_20 : decode cX8_cloth 20 = .ok (.iload_n 1, 1) := by decide +kernel
theorem dX8_cloth_21 : decode cX8_cloth 21 = .ok (.iconst (-1), 1) := by decide +kernel
theorem dX8_cloth_22 : decode cX8_cloth 22 = .ok (.if_icmp .eq 7, 3) := by decide +kernel
theorem dX8_cloth_25 : decode cX8_cloth 25 = .ok (.iconst (-1), 1) := by decide +kernel
theorem dX8_cloth_26 : decode cX8_cloth 26 = .ok (.iload_n 1, 1) := by decide +kernel
theorem dX8_cloth_27 : decode cX8_cloth 27 = .ok (.isub, 1) := by decide +kernel
theorem dX8_cloth_28 : decode cX8_cloth 28 = .ok (.ireturn, 1) := by decide +kernel
theorem dX8_cloth_29 : decode cX8_cloth 29 = .ok (.aload_n 0, 1) := by decide +kernel
theorem dX8_cloth_30 : decode cX8_cloth 30 = .ok (.getfield 10, 3) := by decide +kernel
theorem dX8_cloth_33 : decode cX8_cloth 33 = .ok (.aload_n 0, 1) := by decide +kernel
theorem dX8_cloth_34 : decode cX8_cloth 34 = .ok (.getfield 16, 3) := by decide +kernel
theorem dX8_cloth_37 : decode cX8_cloth 37 = .ok (.invokevirtual 93, 3) := by decide +kernel
theorem dX8_cloth_40 : decode cX8_cloth 40 = .ok (.aload_n 0, 1) := by decide +kernel
theorem dX8_cloth_41 : decode cX8_cloth 41 = .ok (.getfield 72, 3) := by decide +kernel
theorem dX8_cloth_44 : decode cX8_cloth 44 = .ok (.invokevirtual 97, 3) := by decide +kernel
theorem dX8_cloth_47 : decode cX8_cloth 47 = .ok (.aload_n 0, 1) := by decide +kernel
theorem dX8_cloth_48 : decode cX8_cloth 48 = .ok (.getfield 76, 3) := by decide +kernel
theorem dX8_cloth_51 : decode cX8_cloth 51 = .ok (.invokevirtual 97, 3) := by decide +kernel
theorem dX8_cloth_54 : decode cX8_cloth 54 = .ok (.aload_n 0, 1) := by decide +kernel
theorem dX8_cloth_55 : decode cX8_cloth 55 = .ok (.getfield 10, 3) := by decide +kernel
theorem dX8_cloth_58 : decode cX8_cloth 58 = .ok (.getfield 100, 3) := by decide +kernel
theorem dX8_cloth_61 : decode cX8_cloth 61 = .ok (.ireturn, 1) := by decide +kernel
theorem dX8_rule_0 : decode cX8_rule 0 = .ok (.aload_n 0, 1) := by decide +kernel
theorem dX8_rule_1 : decode cX8_rule 1 = .ok (.getfield 43, 3) := by decide +kernel
theorem dX8_rule_4 : decode cX8_rule 4 = .ok (.aload_n 0, 1) := by decide +kernel
theorem dX8_rule_5 : decode cX8_rule 5 = .ok (.getfield 25, 3) := by decide +kernel
theorem dX8_rule_8 : decode cX8_rule 8 = .ok (.invokevirtual 103, 3) := by decide +kernel
theorem dX8_rule_11 : decode cX8_rule 11 = .ok (.istore_n 1, 1) := by decide +kernel
theorem dX8_rule_12 : decode cX8_rule 12 = .ok (.aload_n 0, 1) := by decide +kernel
theorem dX8_rule_13 : decode cX8_rule 13 = .ok (.getfield 25, 3) := by decide +kernel
theorem dX8_rule_16 : decode cX8_rule 16 = .ok (.iconst 0, 1) := by decide +kernel
theorem dX8_rule_17 : decode cX8_rule 17 = .ok (.putfield 83, 3) := by decide +kernel
theorem dX8_rule_20 : decode cX8_rule 20 = .ok (.iload_n 1, 1) := by decide +kernel
theorem dX8_rule_21 : decode cX8_rule 21 = .ok (.iconst (-1), 1) := by decide +kernel
theorem dX8_rule_22 : decode cX8_rule 22 = .ok (.if_icmp .eq 7, 3) := by decide +kernel
theorem dX8_rule_25 : decode cX8_rule 25 = .ok (.iconst (-1), 1) := by decide +kernel
theorem dX8_rule_26 : decode cX8_rule 26 = .ok (.iload_n 1, 1) := by decide +kernel
theorem dX8_rule_27 : decode cX8_rule 27 = .ok (.isub, 1) := by decide +kernel
theorem dX8_rule_28 : decode cX8_rule 28 = .ok (.ireturn, 1) := by decide +kernel
theorem dX8_rule_29 : decode cX8_rule 29 = .ok (.aload_n 0, 1) := by decide +kernel
theorem dX8_rule_30 : decode cX8_rule 30 = .ok (.getfield 39, 3) := by decide +kernel
theorem dX8_rule_33 : decode cX8_rule 33 = .ok (.aload_n 0, 1) := by decide +kernel
theorem dX8_rule_34 : decode cX8_rule 34 = .ok (.getfield 43, 3) := by decide +kernel
theorem dX8_rule_37 : decode cX8_rule 37 = .ok (.invokevirtual 104, 3) := by decide +kernel
theorem dX8_rule_40 : decode cX8_rule 40 = .ok (.iconst 0, 1) := by decide +kernel
theorem dX8_rule_41 : decode cX8_rule 41 = .ok (.ireturn, 1) := by decide +kernel
theorem dX8_cell_0 : decode cX8_cell 0 = .ok (.aload_n 0, 1) := by decide +kernel
theorem dX8_cell_1 : decode cX8_cell 1 = .ok (.getfield 10, 3) := by decide +kernel
theorem dX8_cell_4 : decode cX8_cell 4 = .ok (.iload_n 1, 1) := by decide +kernel
theorem dX8_cell_5 : decode cX8_cell 5 = .ok (.iload_n 2, 1) := by decide +kernel
theorem dX8_cell_6 : decode cX8_cell 6 = .ok (.invokevirtual 107, 3) := by decide +kernel
theorem dX8_cell_9 : decode cX8_cell 9 = .ok (.ifCond .ne 11, 3) := by decide +kernel
theorem dX8_cell_12 : decode cX8_cell 12 = .ok (.new 111, 3) := by decide +kernel
theorem dX8_cell_15 : decode cX8_cell 15 = .ok (.dup, 1) := by decide +kernel
theorem dX8_cell_16 : decode cX8_cell 16 = .ok (.invokespecial 113, 3) := by decide +kernel
theorem dX8_cell_19 : decode cX8_cell 19 = .ok (.athrow, 1) := by decide +kernel
theorem dX8_cell_20 : decode cX8_cell 20 = .ok (.aload_n 0, 1) := by decide +kernel
theorem dX8_cell_21 : decode cX8_cell 21 = .ok (.getfield 10, 3) := by decide +kernel
theorem dX8_cell_24 : decode cX8_cell 24 = .ok (.iload_n 1, 1) := by decide +kernel
theorem dX8_cell_25 : decode cX8_cell 25 = .ok (.iload_n 2, 1) := by decide +kernel
theorem dX8_cell_26 : decode cX8_cell 26 = .ok (.invokevirtual 114, 3) := by decide +kernel
theorem dX8_cell_29 : decode cX8_cell 29 = .ok (.ireturn, 1) := by decide +kernel
theorem dX8_thread_0 : decode cX8_thread 0 = .ok (.aload_n 0, 1) := by decide +kernel
theorem dX8_thread_1 : decode cX8_thread 1 = .ok (.getfield 10, 3) := by decide +kernel
theorem dX8_thread_4 : decode cX8_thread 4 = .ok (.iload_n 1, 1) := by decide +kernel
theorem dX8_thread_5 : decode cX8_thread 5 = .ok (.iload_n 2, 1) := by decide +kernel
theorem dX8_thread_6 : decode cX8_thread 6 = .ok (.invokevirtual 118, 3) := by decide +kernel
theorem dX8_thread_9 : decode cX8_thread 9 = .ok (.ifCond .eq 12, 3) := by decide +kernel
theorem dX8_thread_12 : decode cX8_thread 12 = .ok (.iload_n 3, 1) := by decide +kernel
theorem dX8_thread_13 : decode cX8_thread 13 = .ok (.ifCond .lt 8, 3) := by decide +kernel
theorem dX8_thread_16 : decode cX8_thread 16 = .ok (.iload_n 3, 1) := by decide +kernel
theorem dX8_thread_17 : decode cX8_thread 17 = .ok (.iconst 4, 1) := by decide +kernel
theorem dX8_thread_18 : decode cX8_thread 18 = .ok (.if_icmp .le 11, 3) := by decide +kernel
theorem dX8_thread_21 : decode cX8_thread 21 = .ok (.new 111, 3) := by decide +kernel
theorem dX8_thread_24 : decode cX8_thread 24 = .ok (.dup, 1) := by decide +kernel
theorem dX8_thread_25 : decode cX8_thread 25 = .ok (.invokespecial 113, 3) := by decide +kernel
theorem dX8_thread_28 : decode cX8_thread 28 = .ok (.athrow, 1) := by decide +kernel
theorem dX8_thread_29 : decode cX8_thread 29 = .ok (.iload_n 3, 1) := by decide +kernel
theorem dX8_thread_30 : decode cX8_thread 30 = .ok (.tableswitch 78 0 3 #[30, 40, 50, 60], 30) := by decide +kernel
theorem dX8_thread_60 : decode cX8_thread 60 = .ok (.aload_n 0, 1) := by decide +kernel
theorem dX8_thread_61 : decode cX8_thread 61 = .ok (.getfield 10, 3) := by decide +kernel
theorem dX8_thread_64 : decode cX8_thread 64 = .ok (.iload_n 1, 1) := by decide +kernel
theorem dX8_thread_65 : decode cX8_thread 65 = .ok (.iload_n 2, 1) := by decide +kernel
theorem dX8_thread_66 : decode cX8_thread 66 = .ok (.invokevirtual 121, 3) := by decide +kernel
theorem dX8_thread_69 : decode cX8_thread 69 = .ok (.ireturn, 1) := by decide +kernel
theorem dX8_thread_70 : decode cX8_thread 70 = .ok (.aload_n 0, 1) := by decide +kernel
theorem dX8_thread_71 : decode cX8_thread 71 = .ok (.getfield 10, 3) := by decide +kernel
theorem dX8_thread_74 : decode cX8_thread 74 = .ok (.iload_n 1, 1) := by decide +kernel
theorem dX8_thread_75 : decode cX8_thread 75 = .ok (.iload_n 2, 1) := by decide +kernel
theorem dX8_thread_76 : decode cX8_thread 76 = .ok (.invokevirtual 124, 3) := by decide +kernel
theorem dX8_thread_79 : decode cX8_thread 79 = .ok (.ireturn, 1) := by decide +kernel
theorem dX8_thread_80 : decode cX8_thread 80 = .ok (.aload_n 0, 1) := by decide +kernel
theorem dX8_thread_81 : decode cX8_thread 81 = .ok (.getfield 10, 3) := by decide +kernel
