theorem dX9_sign_42 : decode cX9_sign 42 = .ok (.sipush 255, 3) := by decide +kernel
theorem dX9_sign_45 : decode cX9_sign 45 = .ok (.iand, 1) := by decide +kernel
theorem dX9_sign_46 : decode cX9_sign 46 = .ok (.iastore, 1) := by decide +kernel
theorem dX9_sign_47 : decode cX9_sign 47 = .ok (.iinc 2 1, 3) := by decide +kernel
theorem dX9_sign_50 : decode cX9_sign 50 = .ok (.goto (-32), 3) := by decide +kernel
theorem dX9_sign_53 : decode cX9_sign 53 = .ok (.aload_n 0, 1) := by decide +kernel
theorem dX9_sign_54 : decode cX9_sign 54 = .ok (.dup, 1) := by decide +kernel
theorem dX9_sign_55 : decode cX9_sign 55 = .ok (.getfield 144, 3) := by decide +kernel
theorem dX9_sign_58 : decode cX9_sign 58 = .ok (.iconst 4, 1) := by decide +kernel
theorem dX9_sign_59 : decode cX9_sign 59 = .ok (.iadd, 1) := by decide +kernel
theorem dX9_sign_60 : decode cX9_sign 60 = .ok (.putfield 144, 3) := by decide +kernel
theorem dX9_sign_63 : decode cX9_sign 63 = .ok (.aload_n 0, 1) := by decide +kernel
theorem dX9_sign_64 : decode cX9_sign 64 = .ok (.getfield 144, 3) := by decide +kernel
theorem dX9_sign_67 : decode cX9_sign 67 = .ok (.ireturn, 1) := by decide +kernel
theorem dX9_end_0 : decode cX9_end 0 = .ok (.aload_n 0, 1) := by decide +kernel
theorem dX9_end_1 : decode cX9_end 1 = .ok (.iconst 0, 1) := by decide +kernel
theorem dX9_end_2 : decode cX9_end 2 = .ok (.putfield 3, 3) := by decide +kernel
theorem dX9_end_5 : decode cX9_end 5 = .ok (.iload_n 1, 1) := by decide +kernel
theorem dX9_end_6 : decode cX9_end 6 = .ok (.i2l, 1) := by decide +kernel
theorem dX9_end_7 : decode cX9_end 7 = .ok (.lconst 0, 1) := by decide +kernel
theorem dX9_end_8 : decode cX9_end 8 = .ok (.aload_n 0, 1) := by decide +kernel
theorem dX9_end_9 : decode cX9_end 9 = .ok (.getfield 144, 3) := by decide +kernel
theorem dX9_end_12 : decode cX9_end 12 = .ok (.i2l, 1) := by decide +kernel
theorem dX9_end_13 : decode cX9_end 13 = .ok (.invokestatic 104, 3) := by decide +kernel
theorem dX9_end_16 : decode cX9_end 16 = .ok (.ifCond .ne 5, 3) := by decide +kernel
theorem dX9_end_19 : decode cX9_end 19 = .ok (.iconst 0, 1) := by decide +kernel
theorem dX9_end_20 : decode cX9_end 20 = .ok (.ireturn, 1) := by decide +kernel
theorem dX9_end_21 : decode cX9_end 21 = .ok (.aload_n 0, 1) := by decide +kernel
theorem dX9_end_22 : decode cX9_end 22 = .ok (.iload_n 1, 1) := by decide +kernel
theorem dX9_end_23 : decode cX9_end 23 = .ok (.putfield 144, 3) := by decide +kernel
theorem dX9_end_26 : decode cX9_end 26 = .ok (.iconst 1, 1) := by decide +kernel
theorem dX9_end_27 : decode cX9_end 27 = .ok (.ireturn, 1) := by decide +kernel
theorem dX9_begins_0 : decode cX9_begins 0 = .ok (.aload_n 0, 1) := by decide +kernel
theorem dX9_begins_1 : decode cX9_begins 1 = .ok (.getfield 144, 3) := by decide +kernel
theorem dX9_begins_4 : decode cX9_begins 4 = .ok (.istore_n 2, 1) := by decide +kernel
theorem dX9_begins_5 : decode cX9_begins 5 = .ok (.aload_n 0, 1) := by decide +kernel
theorem dX9_begins_6 : decode cX9_begins 6 = .ok (.iconst 0, 1) := by decide +kernel
theorem dX9_begins_7 : decode cX9_begins 7 = .ok (.putfield 144, 3) := by decide +kernel
theorem dX9_begins_10 : decode cX9_begins 10 = .ok (.aload_n 0, 1) := by decide +kernel
theorem dX9_begins_11 : decode cX9_begins 11 = .ok (.iconst 0, 1) := by decide +kernel
theorem dX9_begins_12 : decode cX9_begins 12 = .ok (.putfield 147, 3) := by decide +kernel
theorem dX9_begins_15 : decode cX9_begins 15 = .ok (.aload_n 0, 1) := by decide +kernel
theorem dX9_begins_16 : decode cX9_begins 16 = .ok (.iconst 0, 1) := by decide +kernel
theorem dX9_begins_17 : decode cX9_begins 17 = .ok (.putfield 150, 3) := by decide +kernel
theorem dX9_begins_20 : decode cX9_begins 20 = .ok (.aload_n 0, 1) := by decide +kernel
theorem dX9_begins_21 : decode cX9_begins 21 = .ok (.iload_n 2, 1) := by decide +kernel
theorem dX9_begins_22 : decode cX9_begins 22 = .ok (.iload_n 1, 1) := by decide +kernel
theorem dX9_begins_23 : decode cX9_begins 23 = .ok (.invokestatic 153, 3) := by decide +kernel
theorem dX9_begins_26 : decode cX9_begins 26 = .ok (.putfield 158, 3) := by decide +kernel
theorem dX9_begins_29 : decode cX9_begins 29 = .ok (.iload_n 2, 1) := by decide +kernel
theorem dX9_begins_30 : decode cX9_begins 30 = .ok (.ireturn, 1) := by decide +kernel
theorem dX9_takes_0 : decode cX9_takes 0 = .ok (.aload_n 0, 1) := by decide +kernel
theorem dX9_takes_1 : decode cX9_takes 1 = .ok (.getfield 147, 3) := by decide +kernel
theorem dX9_takes_4 : decode cX9_takes 4 = .ok (.aload_n 0, 1) := by decide +kernel
theorem dX9_takes_5 : decode cX9_takes 5 = .ok (.getfield 158, 3) := by decide +kernel
theorem dX9_takes_8 : decode cX9_takes 8 = .ok (.if_icmp .ge 20, 3) := by decide +kernel
theorem dX9_takes_11 : decode cX9_takes 11 = .ok (.aload_n 0, 1) := by decide +kernel
theorem dX9_takes_12 : decode cX9_takes 12 = .ok (.getfield 31, 3) := by decide +kernel
theorem dX9_takes_15 : decode cX9_takes 15 = .ok (.aload_n 0, 1) := by decide +kernel
theorem dX9_takes_16 : decode cX9_takes 16 = .ok (.getfield 147, 3) := by decide +kernel
theorem dX9_takes_19 : decode cX9_takes 19 = .ok (.iaload, 1) := by decide +kernel
theorem dX9_takes_20 : decode cX9_takes 20 = .ok (.iload_n 1, 1) := by decide +kernel
theorem dX9_takes_21 : decode cX9_takes 21 = .ok (.if_icmp .ne 7, 3) := by decide +kernel
theorem dX9_takes_24 : decode cX9_takes 24 = .ok (.iconst 1, 1) := by decide +kernel
theorem dX9_takes_25 : decode cX9_takes 25 = .ok (.goto 4, 3) := by decide +kernel
theorem dX9_takes_28 : decode cX9_takes 28 = .ok (.iconst 0, 1) := by decide +kernel
theorem dX9_takes_29 : decode cX9_takes 29 = .ok (.istore_n 2, 1) := by decide +kernel
theorem dX9_takes_30 : decode cX9_takes 30 = .ok (.aload_n 0, 1) := by decide +kernel
theorem dX9_takes_31 : decode cX9_takes 31 = .ok (.dup, 1) := by decide +kernel
theorem dX9_takes_32 : decode cX9_takes 32 = .ok (.getfield 147, 3) := by decide +kernel
theorem dX9_takes_35 : decode cX9_takes 35 = .ok (.iload_n 2, 1) := by decide +kernel
theorem dX9_takes_36 : decode cX9_takes 36 = .ok (.invokestatic 116, 3) := by decide +kernel
theorem dX9_takes_39 : decode cX9_takes 39 = .ok (.iadd, 1) := by decide +kernel
theorem dX9_takes_40 : decode cX9_takes 40 = .ok (.putfield 147, 3) := by decide +kernel
theorem dX9_takes_43 : decode cX9_takes 43 = .ok (.iload_n 2, 1) := by decide +kernel
theorem dX9_takes_44 : decode cX9_takes 44 = .ok (.ireturn, 1) := by decide +kernel
theorem dX9_isDigit_0 : decode cX9_isDigit 0 = .ok (.aload_n 0, 1) := by decide +kernel
theorem dX9_isDigit_1 : decode cX9_isDigit 1 = .ok (.getfield 147, 3) := by decide +kernel
theorem dX9_isDigit_4 : decode cX9_isDigit 4 = .ok (.aload_n 0, 1) := by decide +kernel
theorem dX9_isDigit_5 : decode cX9_isDigit 5 = .ok (.getfield 158, 3) := by decide +kernel
theorem dX9_isDigit_8 : decode cX9_isDigit 8 = .ok (.if_icmp .ge 29, 3) := by decide +kernel
theorem dX9_isDigit_11 : decode cX9_isDigit 11 = .ok (.aload_n 0, 1) := by decide +kernel
theorem dX9_isDigit_12 : decode cX9_isDigit 12 = .ok (.getfield 31, 3) := by decide +kernel
theorem dX9_isDigit_15 : decode cX9_isDigit 15 = .ok (.aload_n 0, 1) := by decide +kernel
theorem dX9_isDigit_16 : decode cX9_isDigit 16 = .ok (.getfield 147, 3) := by decide +kernel
theorem dX9_isDigit_19 : decode cX9_isDigit 19 = .ok (.iaload, 1) := by decide +kernel
theorem dX9_isDigit_20 : decode cX9_isDigit 20 = .ok (.i2l, 1) := by decide +kernel
theorem dX9_isDigit_21 : decode cX9_isDigit 21 = .ok (.ldc2_w 161, 3) := by decide +kernel
theorem dX9_isDigit_24 : decode cX9_isDigit 24 = .ok (.ldc2_w 163, 3) := by decide +kernel
theorem dX9_isDigit_27 : decode cX9_isDigit 27 = .ok (.invokestatic 104, 3) := by decide +kernel
theorem dX9_isDigit_30 : decode cX9_isDigit 30 = .ok (.ifCond .eq 7, 3) := by decide +kernel
theorem dX9_isDigit_33 : decode cX9_isDigit 33 = .ok (.iconst 1, 1) := by decide +kernel
theorem dX9_isDigit_34 : decode cX9_isDigit 34 = .ok (.goto 4, 3) := by decide +kernel
theorem dX9_isDigit_37 : decode cX9_isDigit 37 = .ok (.iconst 0, 1) := by decide +kernel
theorem dX9_isDigit_38 : decode cX9_isDigit 38 = .ok (.ireturn, 1) := by decide +kernel
theorem dX9_takesOf_0 : decode cX9_takesOf 0 = .ok (.iconst 0, 1) := by decide +kernel
theorem dX9_takesOf_1 : decode cX9_takesOf 1 = .ok (.istore_n 2, 1) := by decide +kernel
theorem dX9_takesOf_2 : decode cX9_takesOf 2 = .ok (.iload_n 2, 1) := by decide +kernel
theorem dX9_takesOf_3 : decode cX9_takesOf 3 = .ok (.aload_n 1, 1) := by decide +kernel
theorem dX9_takesOf_4 : decode cX9_takesOf 4 = .ok (.invokevirtual 165, 3) := by decide +kernel
theorem dX9_takesOf_7 : decode cX9_takesOf 7 = .ok (.if_icmp .ge 49, 3) := by decide +kernel
theorem dX9_takesOf_10 : decode cX9_takesOf 10 = .ok (.aload_n 0, 1) := by decide +kernel
theorem dX9_takesOf_11 : decode cX9_takesOf 11 = .ok (.getfield 147, 3) := by decide +kernel
theorem dX9_takesOf_14 : decode cX9_takesOf 14 = .ok (.aload_n 0, 1) := by decide +kernel
theorem dX9_takesOf_15 : decode cX9_takesOf 15 = .ok (.getfield 158, 3) := by decide +kernel
theorem dX9_takesOf_18 : decode cX9_takesOf 18 = .ok (.if_icmp .ge 38, 3) := by decide +kernel
theorem dX9_takesOf_21 : decode cX9_takesOf 21 = .ok (.aload_n 1, 1) := by decide +kernel
theorem dX9_takesOf_22 : decode cX9_takesOf 22 = .ok (.iload_n 2, 1) := by decide +kernel
theorem dX9_takesOf_23 : decode cX9_takesOf 23 = .ok (.invokevirtual 171, 3) := by decide +kernel
theorem dX9_takesOf_26 : decode cX9_takesOf 26 = .ok (.aload_n 0, 1) := by decide +kernel
theorem dX9_takesOf_27 : decode cX9_takesOf 27 = .ok (.getfield 31, 3) := by decide +kernel
theorem dX9_takesOf_30 : decode cX9_takesOf 30 = .ok (.aload_n 0, 1) := by decide +kernel
theorem dX9_takesOf_31 : decode cX9_takesOf 31 = .ok (.getfield 147, 3) := by decide +kernel
theorem dX9_takesOf_34 : decode cX9_takesOf 34 = .ok (.iaload, 1) := by decide +kernel
theorem dX9_takesOf_35 : decode cX9_takesOf 35 = .ok (.if_icmp .ne 15, 3) := by decide +kernel
theorem dX9_takesOf_38 : decode cX9_takesOf 38 = .ok (.aload_n 0, 1) := by decide +kernel
theorem dX9_takesOf_39 : decode cX9_takesOf 39 = .ok (.dup, 1) := by decide +kernel
theorem dX9_takesOf_40 : decode cX9_takesOf 40 = .ok (.getfield 147, 3) := by decide +kernel
theorem dX9_takesOf_43 : decode cX9_takesOf 43 = .ok (.iconst 1, 1) := by decide +kernel
theorem dX9_takesOf_44 : decode cX9_takesOf 44 = .ok (.iadd, 1) := by decide +kernel
theorem dX9_takesOf_45 : decode cX9_takesOf 45 = .ok (.putfield 147, 3) := by decide +kernel
theorem dX9_takesOf_48 : decode cX9_takesOf 48 = .ok (.iload_n 2, 1) := by decide +kernel
theorem dX9_takesOf_49 : decode cX9_takesOf 49 = .ok (.ireturn, 1) := by decide +kernel
theorem dX9_takesOf_50 : decode cX9_takesOf 50 = .ok (.iinc 2 1, 3) := by decide +kernel
theorem dX9_takesOf_53 : decode cX9_takesOf 53 = .ok (.goto (-51), 3) := by decide +kernel
theorem dX9_takesOf_56 : decode cX9_takesOf 56 = .ok (.iconst (-1), 1) := by decide +kernel
theorem dX9_takesOf_57 : decode cX9_takesOf 57 = .ok (.ireturn, 1) := by decide +kernel
theorem dX9_number_0 : decode cX9_number 0 = .ok (.aload_n 0, 1) := by decide +kernel
theorem dX9_number_1 : decode cX9_number 1 = .ok (.invokevirtual 175, 3) := by decide +kernel
theorem dX9_number_4 : decode cX9_number 4 = .ok (.ifCond .ne 5, 3) := by decide +kernel
theorem dX9_number_7 : decode cX9_number 7 = .ok (.iconst (-1), 1) := by decide +kernel
theorem dX9_number_8 : decode cX9_number 8 = .ok (.ireturn, 1) := by decide +kernel
theorem dX9_number_9 : decode cX9_number 9 = .ok (.iconst 0, 1) := by decide +kernel
theorem dX9_number_10 : decode cX9_number 10 = .ok (.istore_n 2, 1) := by decide +kernel
theorem dX9_number_11 : decode cX9_number 11 = .ok (.iconst 0, 1) := by decide +kernel
theorem dX9_number_12 : decode cX9_number 12 = .ok (.istore_n 3, 1) := by decide +kernel
theorem dX9_number_13 : decode cX9_number 13 = .ok (.iload_n 3, 1) := by decide +kernel
theorem dX9_number_14 : decode cX9_number 14 = .ok (.iload_n 1, 1) := by decide +kernel
theorem dX9_number_15 : decode cX9_number 15 = .ok (.if_icmp .ge 44, 3) := by decide +kernel
theorem dX9_number_18 : decode cX9_number 18 = .ok (.aload_n 0, 1) := by decide +kernel
theorem dX9_number_19 : decode cX9_number 19 = .ok (.invokevirtual 175, 3) := by decide +kernel
theorem dX9_number_22 : decode cX9_number 22 = .ok (.ifCond .eq 37, 3) := by decide +kernel
theorem dX9_number_25 : decode cX9_number 25 = .ok (.bipush 10, 2) := by decide +kernel
theorem dX9_number_27 : decode cX9_number 27 = .ok (.iload_n 2, 1) := by decide +kernel
theorem dX9_number_28 : decode cX9_number 28 = .ok (.imul, 1) := by decide +kernel
theorem dX9_number_29 : decode cX9_number 29 = .ok (.aload_n 0, 1) := by decide +kernel
theorem dX9_number_30 : decode cX9_number 30 = .ok (.getfield 31, 3) := by decide +kernel
theorem dX9_number_33 : decode cX9_number 33 = .ok (.aload_n 0, 1) := by decide +kernel
theorem dX9_number_34 : decode cX9_number 34 = .ok (.getfield 147, 3) := by decide +kernel
theorem dX9_number_37 : decode cX9_number 37 = .ok (.iaload, 1) := by decide +kernel
theorem dX9_number_38 : decode cX9_number 38 = .ok (.iadd, 1) := by decide +kernel
theorem dX9_number_39 : decode cX9_number 39 = .ok (.bipush 48, 2) := by decide +kernel
theorem dX9_number_41 : decode cX9_number 41 = .ok (.isub, 1) := by decide +kernel
theorem dX9_number_42 : decode cX9_number 42 = .ok (.istore_n 2, 1) := by decide +kernel
theorem dX9_number_43 : decode cX9_number 43 = .ok (.aload_n 0, 1) := by decide +kernel
theorem dX9_number_44 : decode cX9_number 44 = .ok (.dup, 1) := by decide +kernel
theorem dX9_number_45 : decode cX9_number 45 = .ok (.getfield 147, 3) := by decide +kernel
theorem dX9_number_48 : decode cX9_number 48 = .ok (.iconst 1, 1) := by decide +kernel
theorem dX9_number_49 : decode cX9_number 49 = .ok (.iadd, 1) := by decide +kernel
theorem dX9_number_50 : decode cX9_number 50 = .ok (.putfield 147, 3) := by decide +kernel
theorem dX9_number_53 : decode cX9_number 53 = .ok (.iinc 3 1, 3) := by decide +kernel
theorem dX9_number_56 : decode cX9_number 56 = .ok (.goto (-43), 3) := by decide +kernel
theorem dX9_number_59 : decode cX9_number 59 = .ok (.iload_n 2, 1) := by decide +kernel
theorem dX9_number_60 : decode cX9_number 60 = .ok (.ireturn, 1) := by decide +kernel
theorem dX9_digitIn_0 : decode cX9_digitIn 0 = .ok (.aload_n 0, 1) := by decide +kernel
theorem dX9_digitIn_1 : decode cX9_digitIn 1 = .ok (.getfield 147, 3) := by decide +kernel
theorem dX9_digitIn_4 : decode cX9_digitIn 4 = .ok (.aload_n 0, 1) := by decide +kernel
theorem dX9_digitIn_5 : decode cX9_digitIn 5 = .ok (.getfield 158, 3) := by decide +kernel
theorem dX9_digitIn_8 : decode cX9_digitIn 8 = .ok (.if_icmp .ge 26, 3) := by decide +kernel
theorem dX9_digitIn_11 : decode cX9_digitIn 11 = .ok (.aload_n 0, 1) := by decide +kernel
theorem dX9_digitIn_12 : decode cX9_digitIn 12 = .ok (.getfield 31, 3) := by decide +kernel
theorem dX9_digitIn_15 : decode cX9_digitIn 15 = .ok (.aload_n 0, 1) := by decide +kernel
theorem dX9_digitIn_16 : decode cX9_digitIn 16 = .ok (.getfield 147, 3) := by decide +kernel
theorem dX9_digitIn_19 : decode cX9_digitIn 19 = .ok (.iaload, 1) := by decide +kernel
theorem dX9_digitIn_20 : decode cX9_digitIn 20 = .ok (.bipush 48, 2) := by decide +kernel
theorem dX9_digitIn_22 : decode cX9_digitIn 22 = .ok (.isub, 1) := by decide +kernel
theorem dX9_digitIn_23 : decode cX9_digitIn 23 = .ok (.i2l, 1) := by decide +kernel
theorem dX9_digitIn_24 : decode cX9_digitIn 24 = .ok (.iload_n 1, 1) := by decide +kernel
theorem dX9_digitIn_25 : decode cX9_digitIn 25 = .ok (.i2l, 1) := by decide +kernel
theorem dX9_digitIn_26 : decode cX9_digitIn 26 = .ok (.iload_n 2, 1) := by decide +kernel
theorem dX9_digitIn_27 : decode cX9_digitIn 27 = .ok (.i2l, 1) := by decide +kernel
theorem dX9_digitIn_28 : decode cX9_digitIn 28 = .ok (.invokestatic 104, 3) := by decide +kernel
theorem dX9_digitIn_31 : decode cX9_digitIn 31 = .ok (.ifCond .ne 5, 3) := by decide +kernel
theorem dX9_digitIn_34 : decode cX9_digitIn 34 = .ok (.iconst (-1), 1) := by decide +kernel
theorem dX9_digitIn_35 : decode cX9_digitIn 35 = .ok (.ireturn, 1) := by decide +kernel
theorem dX9_digitIn_36 : decode cX9_digitIn 36 = .ok (.aload_n 0, 1) := by decide +kernel
theorem dX9_digitIn_37 : decode cX9_digitIn 37 = .ok (.dup, 1) := by decide +kernel
theorem dX9_digitIn_38 : decode cX9_digitIn 38 = .ok (.getfield 147, 3) := by decide +kernel
theorem dX9_digitIn_41 : decode cX9_digitIn 41 = .ok (.iconst 1, 1) := by decide +kernel
theorem dX9_digitIn_42 : decode cX9_digitIn 42 = .ok (.iadd, 1) := by decide +kernel
theorem dX9_digitIn_43 : decode cX9_digitIn 43 = .ok (.putfield 147, 3) := by decide +kernel
theorem dX9_digitIn_46 : decode cX9_digitIn 46 = .ok (.aload_n 0, 1) := by decide +kernel
theorem dX9_digitIn_47 : decode cX9_digitIn 47 = .ok (.getfield 31, 3) := by decide +kernel
theorem dX9_digitIn_50 : decode cX9_digitIn 50 = .ok (.aload_n 0, 1) := by decide +kernel
theorem dX9_digitIn_51 : decode cX9_digitIn 51 = .ok (.getfield 147, 3) := by decide +kernel
theorem dX9_digitIn_54 : decode cX9_digitIn 54 = .ok (.iconst 1, 1) := by decide +kernel
theorem dX9_digitIn_55 : decode cX9_digitIn 55 = .ok (.isub, 1) := by decide +kernel
theorem dX9_digitIn_56 : decode cX9_digitIn 56 = .ok (.iaload, 1) := by decide +kernel
theorem dX9_digitIn_57 : decode cX9_digitIn 57 = .ok (.bipush 48, 2) := by decide +kernel
theorem dX9_digitIn_59 : decode cX9_digitIn 59 = .ok (.isub, 1) := by decide +kernel
theorem dX9_digitIn_60 : decode cX9_digitIn 60 = .ok (.ireturn, 1) := by decide +kernel
theorem dX9_faultOf_0 : decode cX9_faultOf 0 = .ok (.iload_n 3, 1) := by decide +kernel
theorem dX9_faultOf_1 : decode cX9_faultOf 1 = .ok (.ifCond .eq 18, 3) := by decide +kernel
theorem dX9_faultOf_4 : decode cX9_faultOf 4 = .ok (.aload_n 0, 1) := by decide +kernel
theorem dX9_faultOf_5 : decode cX9_faultOf 5 = .ok (.getfield 147, 3) := by decide +kernel
theorem dX9_faultOf_8 : decode cX9_faultOf 8 = .ok (.aload_n 0, 1) := by decide +kernel
theorem dX9_faultOf_9 : decode cX9_faultOf 9 = .ok (.getfield 158, 3) := by decide +kernel
theorem dX9_faultOf_12 : decode cX9_faultOf 12 = .ok (.if_icmp .ne 7, 3) := by decide +kernel
theorem dX9_faultOf_15 : decode cX9_faultOf 15 = .ok (.iconst 1, 1) := by decide +kernel
theorem dX9_faultOf_16 : decode cX9_faultOf 16 = .ok (.goto 4, 3) := by decide +kernel
theorem dX9_faultOf_19 : decode cX9_faultOf 19 = .ok (.iconst 0, 1) := by decide +kernel
theorem dX9_faultOf_20 : decode cX9_faultOf 20 = .ok (.istore 4, 2) := by decide +kernel
theorem dX9_faultOf_22 : decode cX9_faultOf 22 = .ok (.iload_n 1, 1) := by decide +kernel
theorem dX9_faultOf_23 : decode cX9_faultOf 23 = .ok (.iload_n 2, 1) := by decide +kernel
theorem dX9_faultOf_24 : decode cX9_faultOf 24 = .ok (.if_icmp .le 20, 3) := by decide +kernel
theorem dX9_faultOf_27 : decode cX9_faultOf 27 = .ok (.iload 4, 2) := by decide +kernel
theorem dX9_faultOf_29 : decode cX9_faultOf 29 = .ok (.ifCond .ne 11, 3) := by decide +kernel
theorem dX9_faultOf_32 : decode cX9_faultOf 32 = .ok (.aload_n 0, 1) := by decide +kernel
theorem dX9_faultOf_33 : decode cX9_faultOf 33 = .ok (.getfield 147, 3) := by decide +kernel
theorem dX9_faultOf_36 : decode cX9_faultOf 36 = .ok (.iload_n 2, 1) := by decide +kernel
theorem dX9_faultOf_37 : decode cX9_faultOf 37 = .ok (.if_icmp .lt 7, 3) := by decide +kernel
theorem dX9_faultOf_40 : decode cX9_faultOf 40 = .ok (.iconst (-1), 1) := by decide +kernel
theorem dX9_faultOf_41 : decode cX9_faultOf 41 = .ok (.iload_n 2, 1) := by decide +kernel
theorem dX9_faultOf_42 : decode cX9_faultOf 42 = .ok (.isub, 1) := by decide +kernel
theorem dX9_faultOf_43 : decode cX9_faultOf 43 = .ok (.ireturn, 1) := by decide +kernel
theorem dX9_faultOf_44 : decode cX9_faultOf 44 = .ok (.iload 4, 2) := by decide +kernel
theorem dX9_faultOf_46 : decode cX9_faultOf 46 = .ok (.ifCond .eq 7, 3) := by decide +kernel
theorem dX9_faultOf_49 : decode cX9_faultOf 49 = .ok (.iconst 0, 1) := by decide +kernel
theorem dX9_faultOf_50 : decode cX9_faultOf 50 = .ok (.goto 9, 3) := by decide +kernel
theorem dX9_faultOf_53 : decode cX9_faultOf 53 = .ok (.iconst (-1), 1) := by decide +kernel
theorem dX9_faultOf_54 : decode cX9_faultOf 54 = .ok (.aload_n 0, 1) := by decide +kernel
theorem dX9_faultOf_55 : decode cX9_faultOf 55 = .ok (.getfield 147, 3) := by decide +kernel
theorem dX9_faultOf_58 : decode cX9_faultOf 58 = .ok (.isub, 1) := by decide +kernel
theorem dX9_faultOf_59 : decode cX9_faultOf 59 = .ok (.ireturn, 1) := by decide +kernel
theorem dX9_readsCloth_0 : decode cX9_readsCloth 0 = .ok (.aload_n 0, 1) := by decide +kernel
theorem dX9_readsCloth_1 : decode cX9_readsCloth 1 = .ok (.bipush 80, 2) := by decide +kernel
theorem dX9_readsCloth_3 : decode cX9_readsCloth 3 = .ok (.invokevirtual 179, 3) := by decide +kernel
theorem dX9_readsCloth_6 : decode cX9_readsCloth 6 = .ok (.pop, 1) := by decide +kernel
theorem dX9_readsCloth_7 : decode cX9_readsCloth 7 = .ok (.aload_n 0, 1) := by decide +kernel
theorem dX9_readsCloth_8 : decode cX9_readsCloth 8 = .ok (.getfield 34, 3) := by decide +kernel
theorem dX9_readsCloth_11 : decode cX9_readsCloth 11 = .ok (.bipush 6, 2) := by decide +kernel
theorem dX9_readsCloth_13 : decode cX9_readsCloth 13 = .ok (.iconst 0, 1) := by decide +kernel
theorem dX9_readsCloth_14 : decode cX9_readsCloth 14 = .ok (.iastore, 1) := by decide +kernel
theorem dX9_readsCloth_15 : decode cX9_readsCloth 15 = .ok (.aload_n 0, 1) := by decide +kernel
theorem dX9_readsCloth_16 : decode cX9_readsCloth 16 = .ok (.getfield 34, 3) := by decide +kernel
theorem dX9_readsCloth_19 : decode cX9_readsCloth 19 = .ok (.bipush 7, 2) := by decide +kernel
theorem dX9_readsCloth_21 : decode cX9_readsCloth 21 = .ok (.aload_n 0, 1) := by decide +kernel
theorem dX9_readsCloth_22 : decode cX9_readsCloth 22 = .ok (.iconst 1, 1) := by decide +kernel
theorem dX9_readsCloth_23 : decode cX9_readsCloth 23 = .ok (.bipush 6, 2) := by decide +kernel
theorem dX9_readsCloth_25 : decode cX9_readsCloth 25 = .ok (.invokevirtual 182, 3) := by decide +kernel
theorem dX9_readsCloth_28 : decode cX9_readsCloth 28 = .ok (.iastore, 1) := by decide +kernel
theorem dX9_readsCloth_29 : decode cX9_readsCloth 29 = .ok (.aload_n 0, 1) := by decide +kernel
theorem dX9_readsCloth_30 : decode cX9_readsCloth 30 = .ok (.getfield 34, 3) := by decide +kernel
theorem dX9_readsCloth_33 : decode cX9_readsCloth 33 = .ok (.bipush 7, 2) := by decide +kernel
theorem dX9_readsCloth_35 : decode cX9_readsCloth 35 = .ok (.iaload, 1) := by decide +kernel
theorem dX9_readsCloth_36 : decode cX9_readsCloth 36 = .ok (.ifCond .le 7, 3) := by decide +kernel
theorem dX9_readsCloth_39 : decode cX9_readsCloth 39 = .ok (.iconst 1, 1) := by decide +kernel
theorem dX9_readsCloth_40 : decode cX9_readsCloth 40 = .ok (.goto 4, 3) := by decide +kernel
theorem dX9_readsCloth_43 : decode cX9_readsCloth 43 = .ok (.iconst 0, 1) := by decide +kernel
theorem dX9_readsCloth_44 : decode cX9_readsCloth 44 = .ok (.istore_n 1, 1) := by decide +kernel
theorem dX9_readsCloth_45 : decode cX9_readsCloth 45 = .ok (.iload_n 1, 1) := by decide +kernel
theorem dX9_readsCloth_46 : decode cX9_readsCloth 46 = .ok (.ifCond .eq 132, 3) := by decide +kernel
theorem dX9_readsCloth_49 : decode cX9_readsCloth 49 = .ok (.aload_n 0, 1) := by decide +kernel
theorem dX9_readsCloth_50 : decode cX9_readsCloth 50 = .ok (.getfield 34, 3) := by decide +kernel
theorem dX9_readsCloth_53 : decode cX9_readsCloth 53 = .ok (.bipush 6, 2) := by decide +kernel
theorem dX9_readsCloth_55 : decode cX9_readsCloth 55 = .ok (.iaload, 1) := by decide +kernel
theorem dX9_readsCloth_56 : decode cX9_readsCloth 56 = .ok (.ifCond .eq 14, 3) := by decide +kernel
theorem dX9_readsCloth_59 : decode cX9_readsCloth 59 = .ok (.aload_n 0, 1) := by decide +kernel
theorem dX9_readsCloth_60 : decode cX9_readsCloth 60 = .ok (.getfield 147, 3) := by decide +kernel
theorem dX9_readsCloth_63 : decode cX9_readsCloth 63 = .ok (.aload_n 0, 1) := by decide +kernel
theorem dX9_readsCloth_64 : decode cX9_readsCloth 64 = .ok (.getfield 158, 3) := by decide +kernel
theorem dX9_readsCloth_67 : decode cX9_readsCloth 67 = .ok (.if_icmp .ge 111, 3) := by decide +kernel
theorem dX9_readsCloth_70 : decode cX9_readsCloth 70 = .ok (.aload_n 0, 1) := by decide +kernel
theorem dX9_readsCloth_71 : decode cX9_readsCloth 71 = .ok (.getfield 34, 3) := by decide +kernel
theorem dX9_readsCloth_74 : decode cX9_readsCloth 74 = .ok (.bipush 6, 2) := by decide +kernel
theorem dX9_readsCloth_76 : decode cX9_readsCloth 76 = .ok (.iaload, 1) := by decide +kernel
theorem dX9_readsCloth_77 : decode cX9_readsCloth 77 = .ok (.bipush 6, 2) := by decide +kernel
theorem dX9_readsCloth_79 : decode cX9_readsCloth 79 = .ok (.if_icmp .ge 7, 3) := by decide +kernel
theorem dX9_readsCloth_82 : decode cX9_readsCloth 82 = .ok (.iconst 1, 1) := by decide +kernel
theorem dX9_readsCloth_83 : decode cX9_readsCloth 83 = .ok (.goto 4, 3) := by decide +kernel
theorem dX9_readsCloth_86 : decode cX9_readsCloth 86 = .ok (.iconst 0, 1) := by decide +kernel
theorem dX9_readsCloth_87 : decode cX9_readsCloth 87 = .ok (.istore_n 1, 1) := by decide +kernel
theorem dX9_readsCloth_88 : decode cX9_readsCloth 88 = .ok (.iconst 0, 1) := by decide +kernel
theorem dX9_readsCloth_89 : decode cX9_readsCloth 89 = .ok (.istore_n 2, 1) := by decide +kernel
theorem dX9_readsCloth_90 : decode cX9_readsCloth 90 = .ok (.iconst 0, 1) := by decide +kernel
theorem dX9_readsCloth_91 : decode cX9_readsCloth 91 = .ok (.istore_n 3, 1) := by decide +kernel
theorem dX9_readsCloth_92 : decode cX9_readsCloth 92 = .ok (.iload_n 3, 1) := by decide +kernel
theorem dX9_readsCloth_93 : decode cX9_readsCloth 93 = .ok (.aload_n 0, 1) := by decide +kernel
theorem dX9_readsCloth_94 : decode cX9_readsCloth 94 = .ok (.getfield 34, 3) := by decide +kernel
theorem dX9_readsCloth_97 : decode cX9_readsCloth 97 = .ok (.bipush 7, 2) := by decide +kernel
theorem dX9_readsCloth_99 : decode cX9_readsCloth 99 = .ok (.iaload, 1) := by decide +kernel
theorem dX9_readsCloth_100 : decode cX9_readsCloth 100 = .ok (.if_icmp .ge 47, 3) := by decide +kernel
theorem dX9_readsCloth_103 : decode cX9_readsCloth 103 = .ok (.iload_n 1, 1) := by decide +kernel
theorem dX9_readsCloth_104 : decode cX9_readsCloth 104 = .ok (.ifCond .eq 43, 3) := by decide +kernel
theorem dX9_readsCloth_107 : decode cX9_readsCloth 107 = .ok (.aload_n 0, 1) := by decide +kernel
theorem dX9_readsCloth_108 : decode cX9_readsCloth 108 = .ok (.ldc 185, 2) := by decide +kernel
theorem dX9_readsCloth_110 : decode cX9_readsCloth 110 = .ok (.invokevirtual 187, 3) := by decide +kernel
theorem dX9_readsCloth_113 : decode cX9_readsCloth 113 = .ok (.istore 4, 2) := by decide +kernel
theorem dX9_readsCloth_115 : decode cX9_readsCloth 115 = .ok (.iload 4, 2) := by decide +kernel
theorem dX9_readsCloth_117 : decode cX9_readsCloth 117 = .ok (.ifCond .lt 7, 3) := by decide +kernel
theorem dX9_readsCloth_120 : decode cX9_readsCloth 120 = .ok (.iconst 1, 1) := by decide +kernel
theorem dX9_readsCloth_121 : decode cX9_readsCloth 121 = .ok (.goto 4, 3) := by decide +kernel
theorem dX9_readsCloth_124 : decode cX9_readsCloth 124 = .ok (.iconst 0, 1) := by decide +kernel
theorem dX9_readsCloth_125 : decode cX9_readsCloth 125 = .ok (.istore_n 1, 1) := by decide +kernel
theorem dX9_readsCloth_126 : decode cX9_readsCloth 126 = .ok (.iload_n 2, 1) := by decide +kernel
theorem dX9_readsCloth_127 : decode cX9_readsCloth 127 = .ok (.iload_n 1, 1) := by decide +kernel
theorem dX9_readsCloth_128 : decode cX9_readsCloth 128 = .ok (.ifCond .eq 10, 3) := by decide +kernel
theorem dX9_readsCloth_131 : decode cX9_readsCloth 131 = .ok (.iload 4, 2) := by decide +kernel
theorem dX9_readsCloth_133 : decode cX9_readsCloth 133 = .ok (.iload_n 3, 1) := by decide +kernel
theorem dX9_readsCloth_134 : decode cX9_readsCloth 134 = .ok (.ishl, 1) := by decide +kernel
theorem dX9_readsCloth_135 : decode cX9_readsCloth 135 = .ok (.goto 4, 3) := by decide +kernel
theorem dX9_readsCloth_138 : decode cX9_readsCloth 138 = .ok (.iconst 0, 1) := by decide +kernel
theorem dX9_readsCloth_139 : decode cX9_readsCloth 139 = .ok (.ior, 1) := by decide +kernel
theorem dX9_readsCloth_140 : decode cX9_readsCloth 140 = .ok (.istore_n 2, 1) := by decide +kernel
theorem dX9_readsCloth_141 : decode cX9_readsCloth 141 = .ok (.iinc 3 1, 3) := by decide +kernel
theorem dX9_readsCloth_144 : decode cX9_readsCloth 144 = .ok (.goto (-52), 3) := by decide +kernel
theorem dX9_readsCloth_147 : decode cX9_readsCloth 147 = .ok (.iload_n 1, 1) := by decide +kernel
theorem dX9_readsCloth_148 : decode cX9_readsCloth 148 = .ok (.ifCond .eq 27, 3) := by decide +kernel
theorem dX9_readsCloth_151 : decode cX9_readsCloth 151 = .ok (.aload_n 0, 1) := by decide +kernel
theorem dX9_readsCloth_152 : decode cX9_readsCloth 152 = .ok (.getfield 34, 3) := by decide +kernel
theorem dX9_readsCloth_155 : decode cX9_readsCloth 155 = .ok (.aload_n 0, 1) := by decide +kernel
theorem dX9_readsCloth_156 : decode cX9_readsCloth 156 = .ok (.getfield 34, 3) := by decide +kernel
theorem dX9_readsCloth_159 : decode cX9_readsCloth 159 = .ok (.bipush 6, 2) := by decide +kernel
theorem dX9_readsCloth_161 : decode cX9_readsCloth 161 = .ok (.iaload, 1) := by decide +kernel
theorem dX9_readsCloth_162 : decode cX9_readsCloth 162 = .ok (.iload_n 2, 1) := by decide +kernel
theorem dX9_readsCloth_163 : decode cX9_readsCloth 163 = .ok (.iastore, 1) := by decide +kernel
theorem dX9_readsCloth_164 : decode cX9_readsCloth 164 = .ok (.aload_n 0, 1) := by decide +kernel
theorem dX9_readsCloth_165 : decode cX9_readsCloth 165 = .ok (.getfield 34, 3) := by decide +kernel
theorem dX9_readsCloth_168 : decode cX9_readsCloth 168 = .ok (.bipush 6, 2) := by decide +kernel
theorem dX9_readsCloth_170 : decode cX9_readsCloth 170 = .ok (.dup2, 1) := by decide +kernel
theorem dX9_readsCloth_171 : decode cX9_readsCloth 171 = .ok (.iaload, 1) := by decide +kernel
theorem dX9_readsCloth_172 : decode cX9_readsCloth 172 = .ok (.iconst 1, 1) := by decide +kernel
theorem dX9_readsCloth_173 : decode cX9_readsCloth 173 = .ok (.iadd, 1) := by decide +kernel
theorem dX9_readsCloth_174 : decode cX9_readsCloth 174 = .ok (.iastore, 1) := by decide +kernel
theorem dX9_readsCloth_175 : decode cX9_readsCloth 175 = .ok (.goto (-130), 3) := by decide +kernel
theorem dX9_readsCloth_178 : decode cX9_readsCloth 178 = .ok (.iload_n 1, 1) := by decide +kernel
theorem dX9_readsCloth_179 : decode cX9_readsCloth 179 = .ok (.ifCond .eq 7, 3) := by decide +kernel
theorem dX9_readsCloth_182 : decode cX9_readsCloth 182 = .ok (.iconst 0, 1) := by decide +kernel
theorem dX9_readsCloth_183 : decode cX9_readsCloth 183 = .ok (.goto 9, 3) := by decide +kernel
theorem dX9_readsCloth_186 : decode cX9_readsCloth 186 = .ok (.iconst (-1), 1) := by decide +kernel
theorem dX9_readsCloth_187 : decode cX9_readsCloth 187 = .ok (.aload_n 0, 1) := by decide +kernel
theorem dX9_readsCloth_188 : decode cX9_readsCloth 188 = .ok (.getfield 147, 3) := by decide +kernel
theorem dX9_readsCloth_191 : decode cX9_readsCloth 191 = .ok (.isub, 1) := by decide +kernel
theorem dX9_readsCloth_192 : decode cX9_readsCloth 192 = .ok (.ireturn, 1) := by decide +kernel
theorem dX9_cloth_0 : decode cX9_cloth 0 = .ok (.aload_n 0, 1) := by decide +kernel
theorem dX9_cloth_1 : decode cX9_cloth 1 = .ok (.iconst 0, 1) := by decide +kernel
theorem dX9_cloth_2 : decode cX9_cloth 2 = .ok (.putfield 3, 3) := by decide +kernel
theorem dX9_cloth_5 : decode cX9_cloth 5 = .ok (.aload_n 0, 1) := by decide +kernel
theorem dX9_cloth_6 : decode cX9_cloth 6 = .ok (.invokevirtual 191, 3) := by decide +kernel
theorem dX9_cloth_9 : decode cX9_cloth 9 = .ok (.istore_n 1, 1) := by decide +kernel
theorem dX9_cloth_10 : decode cX9_cloth 10 = .ok (.iload_n 1, 1) := by decide +kernel
theorem dX9_cloth_11 : decode cX9_cloth 11 = .ok (.ifCond .ge 5, 3) := by decide +kernel
theorem dX9_cloth_14 : decode cX9_cloth 14 = .ok (.iload_n 1, 1) := by decide +kernel
theorem dX9_cloth_15 : decode cX9_cloth 15 = .ok (.ireturn, 1) := by decide +kernel
theorem dX9_cloth_16 : decode cX9_cloth 16 = .ok (.aload_n 0, 1) := by decide +kernel
theorem dX9_cloth_17 : decode cX9_cloth 17 = .ok (.getfield 24, 3) := by decide +kernel
theorem dX9_cloth_20 : decode cX9_cloth 20 = .ok (.aload_n 0, 1) := by decide +kernel
theorem dX9_cloth_21 : decode cX9_cloth 21 = .ok (.getfield 34, 3) := by decide +kernel
theorem dX9_cloth_24 : decode cX9_cloth 24 = .ok (.invokestatic 194, 3) := by decide +kernel
theorem dX9_cloth_27 : decode cX9_cloth 27 = .ok (.aload_n 0, 1) := by decide +kernel
theorem dX9_cloth_28 : decode cX9_cloth 28 = .ok (.getfield 24, 3) := by decide +kernel
theorem dX9_cloth_31 : decode cX9_cloth 31 = .ok (.bipush 8, 2) := by decide +kernel
theorem dX9_cloth_33 : decode cX9_cloth 33 = .ok (.iconst 0, 1) := by decide +kernel
theorem dX9_cloth_34 : decode cX9_cloth 34 = .ok (.iastore, 1) := by decide +kernel
theorem dX9_cloth_35 : decode cX9_cloth 35 = .ok (.aload_n 0, 1) := by decide +kernel
theorem dX9_cloth_36 : decode cX9_cloth 36 = .ok (.iconst 0, 1) := by decide +kernel
theorem dX9_cloth_37 : decode cX9_cloth 37 = .ok (.putfield 198, 3) := by decide +kernel
theorem dX9_cloth_40 : decode cX9_cloth 40 = .ok (.aload_n 0, 1) := by decide +kernel
theorem dX9_cloth_41 : decode cX9_cloth 41 = .ok (.dup, 1) := by decide +kernel
theorem dX9_cloth_42 : decode cX9_cloth 42 = .ok (.getfield 201, 3) := by decide +kernel
theorem dX9_cloth_45 : decode cX9_cloth 45 = .ok (.iconst 1, 1) := by decide +kernel
theorem dX9_cloth_46 : decode cX9_cloth 46 = .ok (.iadd, 1) := by decide +kernel
theorem dX9_cloth_47 : decode cX9_cloth 47 = .ok (.putfield 201, 3) := by decide +kernel
theorem dX9_cloth_50 : decode cX9_cloth 50 = .ok (.aload_n 0, 1) := by decide +kernel
theorem dX9_cloth_51 : decode cX9_cloth 51 = .ok (.getfield 24, 3) := by decide +kernel
theorem dX9_cloth_54 : decode cX9_cloth 54 = .ok (.bipush 6, 2) := by decide +kernel
theorem dX9_cloth_56 : decode cX9_cloth 56 = .ok (.iaload, 1) := by decide +kernel
theorem dX9_cloth_57 : decode cX9_cloth 57 = .ok (.ireturn, 1) := by decide +kernel
theorem dX9_codes_0 : decode cX9_codes 0 = .ok (.aload_n 0, 1) := by decide +kernel
theorem dX9_codes_1 : decode cX9_codes 1 = .ok (.getfield 40, 3) := by decide +kernel
theorem dX9_codes_4 : decode cX9_codes 4 = .ok (.aload_n 0, 1) := by decide +kernel
theorem dX9_codes_5 : decode cX9_codes 5 = .ok (.getfield 204, 3) := by decide +kernel
theorem dX9_codes_8 : decode cX9_codes 8 = .ok (.iload_n 1, 1) := by decide +kernel
theorem dX9_codes_9 : decode cX9_codes 9 = .ok (.iastore, 1) := by decide +kernel
theorem dX9_codes_10 : decode cX9_codes 10 = .ok (.aload_n 0, 1) := by decide +kernel
theorem dX9_codes_11 : decode cX9_codes 11 = .ok (.dup, 1) := by decide +kernel
theorem dX9_codes_12 : decode cX9_codes 12 = .ok (.getfield 204, 3) := by decide +kernel
theorem dX9_codes_15 : decode cX9_codes 15 = .ok (.iconst 1, 1) := by decide +kernel
theorem dX9_codes_16 : decode cX9_codes 16 = .ok (.iadd, 1) := by decide +kernel
theorem dX9_codes_17 : decode cX9_codes 17 = .ok (.putfield 204, 3) := by decide +kernel
theorem dX9_codes_20 : decode cX9_codes 20 = .ok (.return_, 1) := by decide +kernel
theorem dX9_readsThing_0 : decode cX9_readsThing 0 = .ok (.aload_n 0, 1) := by decide +kernel
theorem dX9_readsThing_1 : decode cX9_readsThing 1 = .ok (.bipush 45, 2) := by decide +kernel
theorem dX9_readsThing_3 : decode cX9_readsThing 3 = .ok (.invokevirtual 207, 3) := by decide +kernel
theorem dX9_readsThing_6 : decode cX9_readsThing 6 = .ok (.ifCond .eq 17, 3) := by decide +kernel
theorem dX9_readsThing_9 : decode cX9_readsThing 9 = .ok (.aload_n 0, 1) := by decide +kernel
theorem dX9_readsThing_10 : decode cX9_readsThing 10 = .ok (.invokevirtual 211, 3) := by decide +kernel
theorem dX9_readsThing_13 : decode cX9_readsThing 13 = .ok (.istore_n 1, 1) := by decide +kernel
theorem dX9_readsThing_14 : decode cX9_readsThing 14 = .ok (.aload_n 0, 1) := by decide +kernel
theorem dX9_readsThing_15 : decode cX9_readsThing 15 = .ok (.sipush 3000, 3) := by decide +kernel
theorem dX9_readsThing_18 : decode cX9_readsThing 18 = .ok (.invokevirtual 214, 3) := by decide +kernel
theorem dX9_readsThing_21 : decode cX9_readsThing 21 = .ok (.iload_n 1, 1) := by decide +kernel
theorem dX9_readsThing_22 : decode cX9_readsThing 22 = .ok (.ireturn, 1) := by decide +kernel
theorem dX9_readsThing_23 : decode cX9_readsThing 23 = .ok (.aload_n 0, 1) := by decide +kernel
theorem dX9_readsThing_24 : decode cX9_readsThing 24 = .ok (.invokevirtual 175, 3) := by decide +kernel
theorem dX9_readsThing_27 : decode cX9_readsThing 27 = .ok (.ifCond .eq 14, 3) := by decide +kernel
theorem dX9_readsThing_30 : decode cX9_readsThing 30 = .ok (.aload_n 0, 1) := by decide +kernel
theorem dX9_readsThing_31 : decode cX9_readsThing 31 = .ok (.aload_n 0, 1) := by decide +kernel
theorem dX9_readsThing_32 : decode cX9_readsThing 32 = .ok (.iconst 3, 1) := by decide +kernel
theorem dX9_readsThing_33 : decode cX9_readsThing 33 = .ok (.invokevirtual 218, 3) := by decide +kernel
theorem dX9_readsThing_36 : decode cX9_readsThing 36 = .ok (.invokevirtual 214, 3) := by decide +kernel
theorem dX9_readsThing_39 : decode cX9_readsThing 39 = .ok (.iconst 1, 1) := by decide +kernel
theorem dX9_readsThing_40 : decode cX9_readsThing 40 = .ok (.ireturn, 1) := by decide +kernel
theorem dX9_readsThing_41 : decode cX9_readsThing 41 = .ok (.aload_n 0, 1) := by decide +kernel
theorem dX9_readsThing_42 : decode cX9_readsThing 42 = .ok (.ldc 221, 2) := by decide +kernel
theorem dX9_readsThing_44 : decode cX9_readsThing 44 = .ok (.invokevirtual 187, 3) := by decide +kernel
theorem dX9_readsThing_47 : decode cX9_readsThing 47 = .ok (.istore_n 1, 1) := by decide +kernel
theorem dX9_readsThing_48 : decode cX9_readsThing 48 = .ok (.iload_n 1, 1) := by decide +kernel
theorem dX9_readsThing_49 : decode cX9_readsThing 49 = .ok (.ifCond .lt 14, 3) := by decide +kernel
theorem dX9_readsThing_52 : decode cX9_readsThing 52 = .ok (.aload_n 0, 1) := by decide +kernel
theorem dX9_readsThing_53 : decode cX9_readsThing 53 = .ok (.sipush 1000, 3) := by decide +kernel
theorem dX9_readsThing_56 : decode cX9_readsThing 56 = .ok (.iload_n 1, 1) := by decide +kernel
theorem dX9_readsThing_57 : decode cX9_readsThing 57 = .ok (.iadd, 1) := by decide +kernel
theorem dX9_readsThing_58 : decode cX9_readsThing 58 = .ok (.invokevirtual 214, 3) := by decide +kernel
theorem dX9_readsThing_61 : decode cX9_readsThing 61 = .ok (.iconst 1, 1) := by decide +kernel
theorem dX9_readsThing_62 : decode cX9_readsThing 62 = .ok (.ireturn, 1) := by decide +kernel
theorem dX9_readsThing_63 : decode cX9_readsThing 63 = .ok (.aload_n 0, 1) := by decide +kernel
theorem dX9_readsThing_64 : decode cX9_readsThing 64 = .ok (.getfield 150, 3) := by decide +kernel
theorem dX9_readsThing_67 : decode cX9_readsThing 67 = .ok (.iconst 4, 1) := by decide +kernel
theorem dX9_readsThing_68 : decode cX9_readsThing 68 = .ok (.if_icmp .eq 12, 3) := by decide +kernel
theorem dX9_readsThing_71 : decode cX9_readsThing 71 = .ok (.aload_n 0, 1) := by decide +kernel
theorem dX9_readsThing_72 : decode cX9_readsThing 72 = .ok (.bipush 40, 2) := by decide +kernel
theorem dX9_readsThing_74 : decode cX9_readsThing 74 = .ok (.invokevirtual 207, 3) := by decide +kernel
theorem dX9_readsThing_77 : decode cX9_readsThing 77 = .ok (.ifCond .ne 5, 3) := by decide +kernel
theorem dX9_readsThing_80 : decode cX9_readsThing 80 = .ok (.iconst 0, 1) := by decide +kernel
theorem dX9_readsThing_81 : decode cX9_readsThing 81 = .ok (.ireturn, 1) := by decide +kernel
theorem dX9_readsThing_82 : decode cX9_readsThing 82 = .ok (.aload_n 0, 1) := by decide +kernel
theorem dX9_readsThing_83 : decode cX9_readsThing 83 = .ok (.dup, 1) := by decide +kernel
theorem dX9_readsThing_84 : decode cX9_readsThing 84 = .ok (.getfield 150, 3) := by decide +kernel
theorem dX9_readsThing_87 : decode cX9_readsThing 87 = .ok (.iconst 1, 1) := by decide +kernel
theorem dX9_readsThing_88 : decode cX9_readsThing 88 = .ok (.iadd, 1) := by decide +kernel
theorem dX9_readsThing_89 : decode cX9_readsThing 89 = .ok (.putfield 150, 3) := by decide +kernel
theorem dX9_readsThing_92 : decode cX9_readsThing 92 = .ok (.aload_n 0, 1) := by decide +kernel
theorem dX9_readsThing_93 : decode cX9_readsThing 93 = .ok (.iconst 0, 1) := by decide +kernel
theorem dX9_readsThing_94 : decode cX9_readsThing 94 = .ok (.invokevirtual 223, 3) := by decide +kernel
theorem dX9_readsThing_97 : decode cX9_readsThing 97 = .ok (.ifCond .eq 12, 3) := by decide +kernel
theorem dX9_readsThing_100 : decode cX9_readsThing 100 = .ok (.aload_n 0, 1) := by decide +kernel
theorem dX9_readsThing_101 : decode cX9_readsThing 101 = .ok (.bipush 41, 2) := by decide +kernel
theorem dX9_readsThing_103 : decode cX9_readsThing 103 = .ok (.invokevirtual 207, 3) := by decide +kernel
theorem dX9_readsThing_106 : decode cX9_readsThing 106 = .ok (.ifCond .ne 5, 3) := by decide +kernel
theorem dX9_readsThing_109 : decode cX9_readsThing 109 = .ok (.iconst 0, 1) := by decide +kernel
theorem dX9_readsThing_110 : decode cX9_readsThing 110 = .ok (.ireturn, 1) := by decide +kernel
theorem dX9_readsThing_111 : decode cX9_readsThing 111 = .ok (.aload_n 0, 1) := by decide +kernel
theorem dX9_readsThing_112 : decode cX9_readsThing 112 = .ok (.dup, 1) := by decide +kernel
theorem dX9_readsThing_113 : decode cX9_readsThing 113 = .ok (.getfield 150, 3) := by decide +kernel
theorem dX9_readsThing_116 : decode cX9_readsThing 116 = .ok (.iconst 1, 1) := by decide +kernel
theorem dX9_readsThing_117 : decode cX9_readsThing 117 = .ok (.isub, 1) := by decide +kernel
theorem dX9_readsThing_118 : decode cX9_readsThing 118 = .ok (.putfield 150, 3) := by decide +kernel
theorem dX9_readsThing_121 : decode cX9_readsThing 121 = .ok (.iconst 1, 1) := by decide +kernel
theorem dX9_readsThing_122 : decode cX9_readsThing 122 = .ok (.ireturn, 1) := by decide +kernel
theorem dX9_readsRank_0 : decode cX9_readsRank 0 = .ok (.iload_n 1, 1) := by decide +kernel
theorem dX9_readsRank_1 : decode cX9_readsRank 1 = .ok (.iconst 3, 1) := by decide +kernel
theorem dX9_readsRank_2 : decode cX9_readsRank 2 = .ok (.if_icmp .ne 8, 3) := by decide +kernel
theorem dX9_readsRank_5 : decode cX9_readsRank 5 = .ok (.aload_n 0, 1) := by decide +kernel
theorem dX9_readsRank_6 : decode cX9_readsRank 6 = .ok (.invokevirtual 211, 3) := by decide +kernel
theorem dX9_readsRank_9 : decode cX9_readsRank 9 = .ok (.ireturn, 1) := by decide +kernel
theorem dX9_readsRank_10 : decode cX9_readsRank 10 = .ok (.aload_n 0, 1) := by decide +kernel
theorem dX9_readsRank_11 : decode cX9_readsRank 11 = .ok (.iload_n 1, 1) := by decide +kernel
theorem dX9_readsRank_12 : decode cX9_readsRank 12 = .ok (.iconst 1, 1) := by decide +kernel
theorem dX9_readsRank_13 : decode cX9_readsRank 13 = .ok (.iadd, 1) := by decide +kernel
theorem dX9_readsRank_14 : decode cX9_readsRank 14 = .ok (.invokevirtual 223, 3) := by decide +kernel
theorem dX9_readsRank_17 : decode cX9_readsRank 17 = .ok (.ifCond .ne 5, 3) := by decide +kernel
theorem dX9_readsRank_20 : decode cX9_readsRank 20 = .ok (.iconst 0, 1) := by decide +kernel
theorem dX9_readsRank_21 : decode cX9_readsRank 21 = .ok (.ireturn, 1) := by decide +kernel
theorem dX9_readsRank_22 : decode cX9_readsRank 22 = .ok (.iconst 1, 1) := by decide +kernel
theorem dX9_readsRank_23 : decode cX9_readsRank 23 = .ok (.istore_n 2, 1) := by decide +kernel
theorem dX9_readsRank_24 : decode cX9_readsRank 24 = .ok (.iload_n 2, 1) := by decide +kernel
theorem dX9_readsRank_25 : decode cX9_readsRank 25 = .ok (.ifCond .eq 88, 3) := by decide +kernel
theorem dX9_readsRank_28 : decode cX9_readsRank 28 = .ok (.aload_n 0, 1) := by decide +kernel
theorem dX9_readsRank_29 : decode cX9_readsRank 29 = .ok (.iload_n 1, 1) := by decide +kernel
theorem dX9_readsRank_30 : decode cX9_readsRank 30 = .ok (.ifCond .ne 8, 3) := by decide +kernel
theorem dX9_readsRank_33 : decode cX9_readsRank 33 = .ok (.ldc 226, 2) := by decide +kernel
theorem dX9_readsRank_35 : decode cX9_readsRank 35 = .ok (.goto 15, 3) := by decide +kernel
theorem dX9_readsRank_38 : decode cX9_readsRank 38 = .ok (.iload_n 1, 1) := by decide +kernel
theorem dX9_readsRank_39 : decode cX9_readsRank 39 = .ok (.iconst 1, 1) := by decide +kernel
theorem dX9_readsRank_40 : decode cX9_readsRank 40 = .ok (.if_icmp .ne 8, 3) := by decide +kernel
theorem dX9_readsRank_43 : decode cX9_readsRank 43 = .ok (.ldc 228, 2) := by decide +kernel
theorem dX9_readsRank_45 : decode cX9_readsRank 45 = .ok (.goto 5, 3) := by decide +kernel
theorem dX9_readsRank_48 : decode cX9_readsRank 48 = .ok (.ldc 230, 2) := by decide +kernel
theorem dX9_readsRank_50 : decode cX9_readsRank 50 = .ok (.invokevirtual 187, 3) := by decide +kernel
theorem dX9_readsRank_53 : decode cX9_readsRank 53 = .ok (.istore_n 3, 1) := by decide +kernel
theorem dX9_readsRank_54 : decode cX9_readsRank 54 = .ok (.iload_n 3, 1) := by decide +kernel
theorem dX9_readsRank_55 : decode cX9_readsRank 55 = .ok (.ifCond .ge 5, 3) := by decide +kernel
theorem dX9_readsRank_58 : decode cX9_readsRank 58 = .ok (.iconst 1, 1) := by decide +kernel
theorem dX9_readsRank_59 : decode cX9_readsRank 59 = .ok (.ireturn, 1) := by decide +kernel
theorem dX9_readsRank_60 : decode cX9_readsRank 60 = .ok (.aload_n 0, 1) := by decide +kernel
theorem dX9_readsRank_61 : decode cX9_readsRank 61 = .ok (.iload_n 1, 1) := by decide +kernel
theorem dX9_readsRank_62 : decode cX9_readsRank 62 = .ok (.iconst 1, 1) := by decide +kernel
theorem dX9_readsRank_63 : decode cX9_readsRank 63 = .ok (.iadd, 1) := by decide +kernel
theorem dX9_readsRank_64 : decode cX9_readsRank 64 = .ok (.invokevirtual 223, 3) := by decide +kernel
theorem dX9_readsRank_67 : decode cX9_readsRank 67 = .ok (.ifCond .ne 5, 3) := by decide +kernel
theorem dX9_readsRank_70 : decode cX9_readsRank 70 = .ok (.iconst 0, 1) := by decide +kernel
theorem dX9_readsRank_71 : decode cX9_readsRank 71 = .ok (.ireturn, 1) := by decide +kernel
theorem dX9_readsRank_72 : decode cX9_readsRank 72 = .ok (.aload_n 0, 1) := by decide +kernel
theorem dX9_readsRank_73 : decode cX9_readsRank 73 = .ok (.sipush 2000, 3) := by decide +kernel
theorem dX9_readsRank_76 : decode cX9_readsRank 76 = .ok (.iload_n 3, 1) := by decide +kernel
theorem dX9_readsRank_77 : decode cX9_readsRank 77 = .ok (.iadd, 1) := by decide +kernel
theorem dX9_readsRank_78 : decode cX9_readsRank 78 = .ok (.iload_n 1, 1) := by decide +kernel
theorem dX9_readsRank_79 : decode cX9_readsRank 79 = .ok (.ifCond .ne 7, 3) := by decide +kernel
theorem dX9_readsRank_82 : decode cX9_readsRank 82 = .ok (.iconst 0, 1) := by decide +kernel
theorem dX9_readsRank_83 : decode cX9_readsRank 83 = .ok (.goto 13, 3) := by decide +kernel
theorem dX9_readsRank_86 : decode cX9_readsRank 86 = .ok (.iload_n 1, 1) := by decide +kernel
theorem dX9_readsRank_87 : decode cX9_readsRank 87 = .ok (.iconst 1, 1) := by decide +kernel
theorem dX9_readsRank_88 : decode cX9_readsRank 88 = .ok (.if_icmp .ne 7, 3) := by decide +kernel
theorem dX9_readsRank_91 : decode cX9_readsRank 91 = .ok (.iconst 3, 1) := by decide +kernel
theorem dX9_readsRank_92 : decode cX9_readsRank 92 = .ok (.goto 4, 3) := by decide +kernel
theorem dX9_readsRank_95 : decode cX9_readsRank 95 = .ok (.iconst 5, 1) := by decide +kernel
theorem dX9_readsRank_96 : decode cX9_readsRank 96 = .ok (.iadd, 1) := by decide +kernel
theorem dX9_readsRank_97 : decode cX9_readsRank 97 = .ok (.invokevirtual 214, 3) := by decide +kernel
theorem dX9_readsRank_100 : decode cX9_readsRank 100 = .ok (.iload_n 1, 1) := by decide +kernel
theorem dX9_readsRank_101 : decode cX9_readsRank 101 = .ok (.ifCond .le 7, 3) := by decide +kernel
theorem dX9_readsRank_104 : decode cX9_readsRank 104 = .ok (.iconst 1, 1) := by decide +kernel
theorem dX9_readsRank_105 : decode cX9_readsRank 105 = .ok (.goto 4, 3) := by decide +kernel
theorem dX9_readsRank_108 : decode cX9_readsRank 108 = .ok (.iconst 0, 1) := by decide +kernel
theorem dX9_readsRank_109 : decode cX9_readsRank 109 = .ok (.istore_n 2, 1) := by decide +kernel
theorem dX9_readsRank_110 : decode cX9_readsRank 110 = .ok (.goto (-86), 3) := by decide +kernel
theorem dX9_readsRank_113 : decode cX9_readsRank 113 = .ok (.iconst 1, 1) := by decide +kernel
theorem dX9_readsRank_114 : decode cX9_readsRank 114 = .ok (.ireturn, 1) := by decide +kernel
theorem dX9_readsRule_0 : decode cX9_readsRule 0 = .ok (.aload_n 0, 1) := by decide +kernel
theorem dX9_readsRule_1 : decode cX9_readsRule 1 = .ok (.bipush 40, 2) := by decide +kernel
theorem dX9_readsRule_3 : decode cX9_readsRule 3 = .ok (.invokevirtual 179, 3) := by decide +kernel
theorem dX9_readsRule_6 : decode cX9_readsRule 6 = .ok (.istore_n 1, 1) := by decide +kernel
theorem dX9_readsRule_7 : decode cX9_readsRule 7 = .ok (.aload_n 0, 1) := by decide +kernel
theorem dX9_readsRule_8 : decode cX9_readsRule 8 = .ok (.iconst 0, 1) := by decide +kernel
theorem dX9_readsRule_9 : decode cX9_readsRule 9 = .ok (.putfield 204, 3) := by decide +kernel
theorem dX9_readsRule_12 : decode cX9_readsRule 12 = .ok (.iload_n 1, 1) := by decide +kernel
theorem dX9_readsRule_13 : decode cX9_readsRule 13 = .ok (.ifCond .eq 11, 3) := by decide +kernel
theorem dX9_readsRule_16 : decode cX9_readsRule 16 = .ok (.aload_n 0, 1) := by decide +kernel
theorem dX9_readsRule_17 : decode cX9_readsRule 17 = .ok (.iconst 0, 1) := by decide +kernel
theorem dX9_readsRule_18 : decode cX9_readsRule 18 = .ok (.invokevirtual 223, 3) := by decide +kernel
theorem dX9_readsRule_21 : decode cX9_readsRule 21 = .ok (.ifCond .eq 7, 3) := by decide +kernel
theorem dX9_readsRule_24 : decode cX9_readsRule 24 = .ok (.iconst 1, 1) := by decide +kernel
theorem dX9_readsRule_25 : decode cX9_readsRule 25 = .ok (.goto 4, 3) := by decide +kernel
theorem dX9_readsRule_28 : decode cX9_readsRule 28 = .ok (.iconst 0, 1) := by decide +kernel
theorem dX9_readsRule_29 : decode cX9_readsRule 29 = .ok (.istore_n 2, 1) := by decide +kernel
theorem dX9_readsRule_30 : decode cX9_readsRule 30 = .ok (.aload_n 0, 1) := by decide +kernel
theorem dX9_readsRule_31 : decode cX9_readsRule 31 = .ok (.iload_n 1, 1) := by decide +kernel
theorem dX9_readsRule_32 : decode cX9_readsRule 32 = .ok (.bipush 40, 2) := by decide +kernel
theorem dX9_readsRule_34 : decode cX9_readsRule 34 = .ok (.iload_n 2, 1) := by decide +kernel
theorem dX9_readsRule_35 : decode cX9_readsRule 35 = .ok (.invokevirtual 232, 3) := by decide +kernel
theorem dX9_readsRule_38 : decode cX9_readsRule 38 = .ok (.ireturn, 1) := by decide +kernel
theorem dX9_laysCode_0 : decode cX9_laysCode 0 = .ok (.aload_n 0, 1) := by decide +kernel
theorem dX9_laysCode_1 : decode cX9_laysCode 1 = .ok (.iload_n 2, 1) := by decide +kernel
theorem dX9_laysCode_2 : decode cX9_laysCode 2 = .ok (.putfield 236, 3) := by decide +kernel
theorem dX9_laysCode_5 : decode cX9_laysCode 5 = .ok (.iconst 0, 1) := by decide +kernel
theorem dX9_laysCode_6 : decode cX9_laysCode 6 = .ok (.istore_n 3, 1) := by decide +kernel
theorem dX9_laysCode_7 : decode cX9_laysCode 7 = .ok (.iload_n 3, 1) := by decide +kernel
theorem dX9_laysCode_8 : decode cX9_laysCode 8 = .ok (.iload_n 2, 1) := by decide +kernel
theorem dX9_laysCode_9 : decode cX9_laysCode 9 = .ok (.if_icmp .ge 18, 3) := by decide +kernel
theorem dX9_laysCode_12 : decode cX9_laysCode 12 = .ok (.aload_n 0, 1) := by decide +kernel
theorem dX9_laysCode_13 : decode cX9_laysCode 13 = .ok (.getfield 37, 3) := by decide +kernel
theorem dX9_laysCode_16 : decode cX9_laysCode 16 = .ok (.iload_n 3, 1) := by decide +kernel
theorem dX9_laysCode_17 : decode cX9_laysCode 17 = .ok (.aload_n 1, 1) := by decide +kernel
theorem dX9_laysCode_18 : decode cX9_laysCode 18 = .ok (.iload_n 3, 1) := by decide +kernel
theorem dX9_laysCode_19 : decode cX9_laysCode 19 = .ok (.iaload, 1) := by decide +kernel
theorem dX9_laysCode_20 : decode cX9_laysCode 20 = .ok (.iastore, 1) := by decide +kernel
theorem dX9_laysCode_21 : decode cX9_laysCode 21 = .ok (.iinc 3 1, 3) := by decide +kernel
theorem dX9_laysCode_24 : decode cX9_laysCode 24 = .ok (.goto (-17), 3) := by decide +kernel
theorem dX9_laysCode_27 : decode cX9_laysCode 27 = .ok (.return_, 1) := by decide +kernel
theorem dX9_rule_0 : decode cX9_rule 0 = .ok (.aload_n 0, 1) := by decide +kernel
theorem dX9_rule_1 : decode cX9_rule 1 = .ok (.iconst 0, 1) := by decide +kernel
theorem dX9_rule_2 : decode cX9_rule 2 = .ok (.putfield 3, 3) := by decide +kernel
theorem dX9_rule_5 : decode cX9_rule 5 = .ok (.aload_n 0, 1) := by decide +kernel
theorem dX9_rule_6 : decode cX9_rule 6 = .ok (.invokevirtual 239, 3) := by decide +kernel
theorem dX9_rule_9 : decode cX9_rule 9 = .ok (.istore_n 1, 1) := by decide +kernel
theorem dX9_rule_10 : decode cX9_rule 10 = .ok (.iload_n 1, 1) := by decide +kernel
theorem dX9_rule_11 : decode cX9_rule 11 = .ok (.ifCond .ne 15, 3) := by decide +kernel
theorem dX9_rule_14 : decode cX9_rule 14 = .ok (.aload_n 0, 1) := by decide +kernel
theorem dX9_rule_15 : decode cX9_rule 15 = .ok (.aload_n 0, 1) := by decide +kernel
theorem dX9_rule_16 : decode cX9_rule 16 = .ok (.getfield 40, 3) := by decide +kernel
theorem dX9_rule_19 : decode cX9_rule 19 = .ok (.aload_n 0, 1) := by decide +kernel
theorem dX9_rule_20 : decode cX9_rule 20 = .ok (.getfield 204, 3) := by decide +kernel
theorem dX9_rule_23 : decode cX9_rule 23 = .ok (.invokevirtual 242, 3) := by decide +kernel
theorem dX9_rule_26 : decode cX9_rule 26 = .ok (.iload_n 1, 1) := by decide +kernel
theorem dX9_rule_27 : decode cX9_rule 27 = .ok (.ireturn, 1) := by decide +kernel
theorem dX9_worked_0 : decode cX9_worked 0 = .ok (.iload_n 0, 1) := by decide +kernel
theorem dX9_worked_1 : decode cX9_worked 1 = .ok (.tableswitch 93 0 5 #[39, 53, 67, 81, 85, 89], 39) := by decide +kernel
theorem dX9_worked_40 : decode cX9_worked 40 = .ok (.iload_n 1, 1) := by decide +kernel
theorem dX9_worked_41 : decode cX9_worked 41 = .ok (.iload_n 2, 1) := by decide +kernel
theorem dX9_worked_42 : decode cX9_worked 42 = .ok (.if_icmp .ge 7, 3) := by decide +kernel
theorem dX9_worked_45 : decode cX9_worked 45 = .ok (.iconst 1, 1) := by decide +kernel
theorem dX9_worked_46 : decode cX9_worked 46 = .ok (.goto 4, 3) := by decide +kernel
theorem dX9_worked_49 : decode cX9_worked 49 = .ok (.iconst 0, 1) := by decide +kernel
theorem dX9_worked_50 : decode cX9_worked 50 = .ok (.invokestatic 116, 3) := by decide +kernel
theorem dX9_worked_53 : decode cX9_worked 53 = .ok (.ireturn, 1) := by decide +kernel
theorem dX9_worked_54 : decode cX9_worked 54 = .ok (.iload_n 1, 1) := by decide +kernel
theorem dX9_worked_55 : decode cX9_worked 55 = .ok (.iload_n 2, 1) := by decide +kernel
theorem dX9_worked_56 : decode cX9_worked 56 = .ok (.if_icmp .le 7, 3) := by decide +kernel
theorem dX9_worked_59 : decode cX9_worked 59 = .ok (.iconst 1, 1) := by decide +kernel
theorem dX9_worked_60 : decode cX9_worked 60 = .ok (.goto 4, 3) := by decide +kernel
theorem dX9_worked_63 : decode cX9_worked 63 = .ok (.iconst 0, 1) := by decide +kernel
theorem dX9_worked_64 : decode cX9_worked 64 = .ok (.invokestatic 116, 3) := by decide +kernel
theorem dX9_worked_67 : decode cX9_worked 67 = .ok (.ireturn, 1) := by decide +kernel
theorem dX9_worked_68 : decode cX9_worked 68 = .ok (.iload_n 1, 1) := by decide +kernel
theorem dX9_worked_69 : decode cX9_worked 69 = .ok (.iload_n 2, 1) := by decide +kernel
theorem dX9_worked_70 : decode cX9_worked 70 = .ok (.if_icmp .ne 7, 3) := by decide +kernel
theorem dX9_worked_73 : decode cX9_worked 73 = .ok (.iconst 1, 1) := by decide +kernel
theorem dX9_worked_74 : decode cX9_worked 74 = .ok (.goto 4, 3) := by decide +kernel
theorem dX9_worked_77 : decode cX9_worked 77 = .ok (.iconst 0, 1) := by decide +kernel
theorem dX9_worked_78 : decode cX9_worked 78 = .ok (.invokestatic 116, 3) := by decide +kernel
theorem dX9_worked_81 : decode cX9_worked 81 = .ok (.ireturn, 1) := by decide +kernel
theorem dX9_worked_82 : decode cX9_worked 82 = .ok (.iload_n 1, 1) := by decide +kernel
theorem dX9_worked_83 : decode cX9_worked 83 = .ok (.iload_n 2, 1) := by decide +kernel
theorem dX9_worked_84 : decode cX9_worked 84 = .ok (.iadd, 1) := by decide +kernel
theorem dX9_worked_85 : decode cX9_worked 85 = .ok (.ireturn, 1) := by decide +kernel
theorem dX9_worked_86 : decode cX9_worked 86 = .ok (.iload_n 1, 1) := by decide +kernel
theorem dX9_worked_87 : decode cX9_worked 87 = .ok (.iload_n 2, 1) := by decide +kernel
theorem dX9_worked_88 : decode cX9_worked 88 = .ok (.isub, 1) := by decide +kernel
theorem dX9_worked_89 : decode cX9_worked 89 = .ok (.ireturn, 1) := by decide +kernel
theorem dX9_worked_90 : decode cX9_worked 90 = .ok (.iload_n 1, 1) := by decide +kernel
theorem dX9_worked_91 : decode cX9_worked 91 = .ok (.iload_n 2, 1) := by decide +kernel
theorem dX9_worked_92 : decode cX9_worked 92 = .ok (.imul, 1) := by decide +kernel
theorem dX9_worked_93 : decode cX9_worked 93 = .ok (.ireturn, 1) := by decide +kernel
theorem dX9_worked_94 : decode cX9_worked 94 = .ok (.iload_n 2, 1) := by decide +kernel
theorem dX9_worked_95 : decode cX9_worked 95 = .ok (.ifCond .ne 7, 3) := by decide +kernel
theorem dX9_worked_98 : decode cX9_worked 98 = .ok (.iconst 0, 1) := by decide +kernel
theorem dX9_worked_99 : decode cX9_worked 99 = .ok (.goto 6, 3) := by decide +kernel
theorem dX9_worked_102 : decode cX9_worked 102 = .ok (.iload_n 1, 1) := by decide +kernel
theorem dX9_worked_103 : decode cX9_worked 103 = .ok (.iload_n 2, 1) := by decide +kernel
theorem dX9_worked_104 : decode cX9_worked 104 = .ok (.idiv, 1) := by decide +kernel
theorem dX9_worked_105 : decode cX9_worked 105 = .ok (.ireturn, 1) := by decide +kernel
theorem dX9_ruled_0 : decode cX9_ruled 0 = .ok (.iconst 0, 1) := by decide +kernel
theorem dX9_ruled_1 : decode cX9_ruled 1 = .ok (.istore_n 1, 1) := by decide +kernel
theorem dX9_ruled_2 : decode cX9_ruled 2 = .ok (.iconst 0, 1) := by decide +kernel
theorem dX9_ruled_3 : decode cX9_ruled 3 = .ok (.istore_n 2, 1) := by decide +kernel
theorem dX9_ruled_4 : decode cX9_ruled 4 = .ok (.iload_n 2, 1) := by decide +kernel
theorem dX9_ruled_5 : decode cX9_ruled 5 = .ok (.aload_n 0, 1) := by decide +kernel
theorem dX9_ruled_6 : decode cX9_ruled 6 = .ok (.getfield 236, 3) := by decide +kernel
theorem dX9_ruled_9 : decode cX9_ruled 9 = .ok (.if_icmp .ge 116, 3) := by decide +kernel
theorem dX9_ruled_12 : decode cX9_ruled 12 = .ok (.aload_n 0, 1) := by decide +kernel
theorem dX9_ruled_13 : decode cX9_ruled 13 = .ok (.getfield 37, 3) := by decide +kernel
theorem dX9_ruled_16 : decode cX9_ruled 16 = .ok (.iload_n 2, 1) := by decide +kernel
theorem dX9_ruled_17 : decode cX9_ruled 17 = .ok (.iaload, 1) := by decide +kernel
theorem dX9_ruled_18 : decode cX9_ruled 18 = .ok (.istore_n 3, 1) := by decide +kernel
theorem dX9_ruled_19 : decode cX9_ruled 19 = .ok (.iload_n 3, 1) := by decide +kernel
theorem dX9_ruled_20 : decode cX9_ruled 20 = .ok (.sipush 3000, 3) := by decide +kernel
theorem dX9_ruled_23 : decode cX9_ruled 23 = .ok (.if_icmp .ne 23, 3) := by decide +kernel
theorem dX9_ruled_26 : decode cX9_ruled 26 = .ok (.aload_n 0, 1) := by decide +kernel
theorem dX9_ruled_27 : decode cX9_ruled 27 = .ok (.getfield 43, 3) := by decide +kernel
theorem dX9_ruled_30 : decode cX9_ruled 30 = .ok (.iload_n 1, 1) := by decide +kernel
theorem dX9_ruled_31 : decode cX9_ruled 31 = .ok (.iconst 1, 1) := by decide +kernel
theorem dX9_ruled_32 : decode cX9_ruled 32 = .ok (.isub, 1) := by decide +kernel
theorem dX9_ruled_33 : decode cX9_ruled 33 = .ok (.aload_n 0, 1) := by decide +kernel
theorem dX9_ruled_34 : decode cX9_ruled 34 = .ok (.getfield 43, 3) := by decide +kernel
theorem dX9_ruled_37 : decode cX9_ruled 37 = .ok (.iload_n 1, 1) := by decide +kernel
theorem dX9_ruled_38 : decode cX9_ruled 38 = .ok (.iconst 1, 1) := by decide +kernel
theorem dX9_ruled_39 : decode cX9_ruled 39 = .ok (.isub, 1) := by decide +kernel
theorem dX9_ruled_40 : decode cX9_ruled 40 = .ok (.iaload, 1) := by decide +kernel
theorem dX9_ruled_41 : decode cX9_ruled 41 = .ok (.ineg, 1) := by decide +kernel
theorem dX9_ruled_42 : decode cX9_ruled 42 = .ok (.iastore, 1) := by decide +kernel
theorem dX9_ruled_43 : decode cX9_ruled 43 = .ok (.goto 76, 3) := by decide +kernel
theorem dX9_ruled_46 : decode cX9_ruled 46 = .ok (.iload_n 3, 1) := by decide +kernel
theorem dX9_ruled_47 : decode cX9_ruled 47 = .ok (.sipush 2000, 3) := by decide +kernel
theorem dX9_ruled_50 : decode cX9_ruled 50 = .ok (.if_icmp .lt 39, 3) := by decide +kernel
theorem dX9_ruled_53 : decode cX9_ruled 53 = .ok (.iinc 1 (-1), 3) := by decide +kernel
theorem dX9_ruled_56 : decode cX9_ruled 56 = .ok (.aload_n 0, 1) := by decide +kernel
theorem dX9_ruled_57 : decode cX9_ruled 57 = .ok (.getfield 43, 3) := by decide +kernel
theorem dX9_ruled_60 : decode cX9_ruled 60 = .ok (.iload_n 1, 1) := by decide +kernel
theorem dX9_ruled_61 : decode cX9_ruled 61 = .ok (.iconst 1, 1) := by decide +kernel
theorem dX9_ruled_62 : decode cX9_ruled 62 = .ok (.isub, 1) := by decide +kernel
theorem dX9_ruled_63 : decode cX9_ruled 63 = .ok (.iload_n 3, 1) := by decide +kernel
theorem dX9_ruled_64 : decode cX9_ruled 64 = .ok (.sipush 2000, 3) := by decide +kernel
theorem dX9_ruled_67 : decode cX9_ruled 67 = .ok (.isub, 1) := by decide +kernel
theorem dX9_ruled_68 : decode cX9_ruled 68 = .ok (.aload_n 0, 1) := by decide +kernel
theorem dX9_ruled_69 : decode cX9_ruled 69 = .ok (.getfield 43, 3) := by decide +kernel
theorem dX9_ruled_72 : decode cX9_ruled 72 = .ok (.iload_n 1, 1) := by decide +kernel
theorem dX9_ruled_73 : decode cX9_ruled 73 = .ok (.iconst 1, 1) := by decide +kernel
theorem dX9_ruled_74 : decode cX9_ruled 74 = .ok (.isub, 1) := by decide +kernel
theorem dX9_ruled_75 : decode cX9_ruled 75 = .ok (.iaload, 1) := by decide +kernel
theorem dX9_ruled_76 : decode cX9_ruled 76 = .ok (.aload_n 0, 1) := by decide +kernel
theorem dX9_ruled_77 : decode cX9_ruled 77 = .ok (.getfield 43, 3) := by decide +kernel
theorem dX9_ruled_80 : decode cX9_ruled 80 = .ok (.iload_n 1, 1) := by decide +kernel
theorem dX9_ruled_81 : decode cX9_ruled 81 = .ok (.iaload, 1) := by decide +kernel
theorem dX9_ruled_82 : decode cX9_ruled 82 = .ok (.invokestatic 246, 3) := by decide +kernel
theorem dX9_ruled_85 : decode cX9_ruled 85 = .ok (.iastore, 1) := by decide +kernel
theorem dX9_ruled_86 : decode cX9_ruled 86 = .ok (.goto 33, 3) := by decide +kernel
theorem dX9_ruled_89 : decode cX9_ruled 89 = .ok (.aload_n 0, 1) := by decide +kernel
theorem dX9_ruled_90 : decode cX9_ruled 90 = .ok (.getfield 43, 3) := by decide +kernel
theorem dX9_ruled_93 : decode cX9_ruled 93 = .ok (.iload_n 1, 1) := by decide +kernel
theorem dX9_ruled_94 : decode cX9_ruled 94 = .ok (.iload_n 3, 1) := by decide +kernel
theorem dX9_ruled_95 : decode cX9_ruled 95 = .ok (.sipush 1000, 3) := by decide +kernel
theorem dX9_ruled_98 : decode cX9_ruled 98 = .ok (.if_icmp .lt 16, 3) := by decide +kernel
theorem dX9_ruled_101 : decode cX9_ruled 101 = .ok (.aload_n 0, 1) := by decide +kernel
theorem dX9_ruled_102 : decode cX9_ruled 102 = .ok (.getfield 46, 3) := by decide +kernel
theorem dX9_ruled_105 : decode cX9_ruled 105 = .ok (.iload_n 3, 1) := by decide +kernel
theorem dX9_ruled_106 : decode cX9_ruled 106 = .ok (.sipush 1000, 3) := by decide +kernel
theorem dX9_ruled_109 : decode cX9_ruled 109 = .ok (.isub, 1) := by decide +kernel
theorem dX9_ruled_110 : decode cX9_ruled 110 = .ok (.iaload, 1) := by decide +kernel
theorem dX9_ruled_111 : decode cX9_ruled 111 = .ok (.goto 4, 3) := by decide +kernel
theorem dX9_ruled_114 : decode cX9_ruled 114 = .ok (.iload_n 3, 1) := by decide +kernel
theorem dX9_ruled_115 : decode cX9_ruled 115 = .ok (.iastore, 1) := by decide +kernel
theorem dX9_ruled_116 : decode cX9_ruled 116 = .ok (.iinc 1 1, 3) := by decide +kernel
theorem dX9_ruled_119 : decode cX9_ruled 119 = .ok (.iinc 2 1, 3) := by decide +kernel
theorem dX9_ruled_122 : decode cX9_ruled 122 = .ok (.goto (-118), 3) := by decide +kernel
theorem dX9_ruled_125 : decode cX9_ruled 125 = .ok (.aload_n 0, 1) := by decide +kernel
theorem dX9_ruled_126 : decode cX9_ruled 126 = .ok (.getfield 236, 3) := by decide +kernel
theorem dX9_ruled_129 : decode cX9_ruled 129 = .ok (.ifCond .ne 19, 3) := by decide +kernel
theorem dX9_ruled_132 : decode cX9_ruled 132 = .ok (.aload_n 0, 1) := by decide +kernel
theorem dX9_ruled_133 : decode cX9_ruled 133 = .ok (.getfield 46, 3) := by decide +kernel
theorem dX9_ruled_136 : decode cX9_ruled 136 = .ok (.iconst 3, 1) := by decide +kernel
theorem dX9_ruled_137 : decode cX9_ruled 137 = .ok (.iaload, 1) := by decide +kernel
theorem dX9_ruled_138 : decode cX9_ruled 138 = .ok (.aload_n 0, 1) := by decide +kernel
theorem dX9_ruled_139 : decode cX9_ruled 139 = .ok (.getfield 46, 3) := by decide +kernel
theorem dX9_ruled_142 : decode cX9_ruled 142 = .ok (.iconst 1, 1) := by decide +kernel
theorem dX9_ruled_143 : decode cX9_ruled 143 = .ok (.iaload, 1) := by decide +kernel
theorem dX9_ruled_144 : decode cX9_ruled 144 = .ok (.isub, 1) := by decide +kernel
theorem dX9_ruled_145 : decode cX9_ruled 145 = .ok (.goto 9, 3) := by decide +kernel
theorem dX9_ruled_148 : decode cX9_ruled 148 = .ok (.aload_n 0, 1) := by decide +kernel
theorem dX9_ruled_149 : decode cX9_ruled 149 = .ok (.getfield 43, 3) := by decide +kernel
theorem dX9_ruled_152 : decode cX9_ruled 152 = .ok (.iconst 0, 1) := by decide +kernel
theorem dX9_ruled_153 : decode cX9_ruled 153 = .ok (.iaload, 1) := by decide +kernel
theorem dX9_ruled_154 : decode cX9_ruled 154 = .ok (.ireturn, 1) := by decide +kernel
theorem dX9_pull_0 : decode cX9_pull 0 = .ok (.aload_n 1, 1) := by decide +kernel
theorem dX9_pull_1 : decode cX9_pull 1 = .ok (.iload_n 2, 1) := by decide +kernel
theorem dX9_pull_2 : decode cX9_pull 2 = .ok (.iload_n 3, 1) := by decide +kernel
theorem dX9_pull_3 : decode cX9_pull 3 = .ok (.invokestatic 120, 3) := by decide +kernel
theorem dX9_pull_6 : decode cX9_pull 6 = .ok (.istore 4, 2) := by decide +kernel
theorem dX9_pull_8 : decode cX9_pull 8 = .ok (.aload_n 0, 1) := by decide +kernel
theorem dX9_pull_9 : decode cX9_pull 9 = .ok (.getfield 46, 3) := by decide +kernel
theorem dX9_pull_12 : decode cX9_pull 12 = .ok (.iconst 0, 1) := by decide +kernel
theorem dX9_pull_13 : decode cX9_pull 13 = .ok (.iload_n 2, 1) := by decide +kernel
theorem dX9_pull_14 : decode cX9_pull 14 = .ok (.iastore, 1) := by decide +kernel
theorem dX9_pull_15 : decode cX9_pull 15 = .ok (.aload_n 0, 1) := by decide +kernel
theorem dX9_pull_16 : decode cX9_pull 16 = .ok (.getfield 46, 3) := by decide +kernel
theorem dX9_pull_19 : decode cX9_pull 19 = .ok (.iconst 1, 1) := by decide +kernel
theorem dX9_pull_20 : decode cX9_pull 20 = .ok (.iload_n 3, 1) := by decide +kernel
theorem dX9_pull_21 : decode cX9_pull 21 = .ok (.iastore, 1) := by decide +kernel
theorem dX9_pull_22 : decode cX9_pull 22 = .ok (.aload_n 0, 1) := by decide +kernel
theorem dX9_pull_23 : decode cX9_pull 23 = .ok (.getfield 46, 3) := by decide +kernel
theorem dX9_pull_26 : decode cX9_pull 26 = .ok (.iconst 2, 1) := by decide +kernel
theorem dX9_pull_27 : decode cX9_pull 27 = .ok (.iload 4, 2) := by decide +kernel
theorem dX9_pull_29 : decode cX9_pull 29 = .ok (.invokestatic 131, 3) := by decide +kernel
theorem dX9_pull_32 : decode cX9_pull 32 = .ok (.iastore, 1) := by decide +kernel
theorem dX9_pull_33 : decode cX9_pull 33 = .ok (.aload_n 0, 1) := by decide +kernel
theorem dX9_pull_34 : decode cX9_pull 34 = .ok (.getfield 46, 3) := by decide +kernel
theorem dX9_pull_37 : decode cX9_pull 37 = .ok (.iconst 3, 1) := by decide +kernel
theorem dX9_pull_38 : decode cX9_pull 38 = .ok (.iload 4, 2) := by decide +kernel
theorem dX9_pull_40 : decode cX9_pull 40 = .ok (.aload_n 1, 1) := by decide +kernel
theorem dX9_pull_41 : decode cX9_pull 41 = .ok (.iload_n 2, 1) := by decide +kernel
theorem dX9_pull_42 : decode cX9_pull 42 = .ok (.invokestatic 124, 3) := by decide +kernel
theorem dX9_pull_45 : decode cX9_pull 45 = .ok (.invokestatic 249, 3) := by decide +kernel
theorem dX9_pull_48 : decode cX9_pull 48 = .ok (.iastore, 1) := by decide +kernel
theorem dX9_pull_49 : decode cX9_pull 49 = .ok (.aload_n 0, 1) := by decide +kernel
theorem dX9_pull_50 : decode cX9_pull 50 = .ok (.getfield 46, 3) := by decide +kernel
theorem dX9_pull_53 : decode cX9_pull 53 = .ok (.iconst 4, 1) := by decide +kernel
theorem dX9_pull_54 : decode cX9_pull 54 = .ok (.aload_n 1, 1) := by decide +kernel
theorem dX9_pull_55 : decode cX9_pull 55 = .ok (.iload_n 2, 1) := by decide +kernel
theorem dX9_pull_56 : decode cX9_pull 56 = .ok (.invokestatic 124, 3) := by decide +kernel
theorem dX9_pull_59 : decode cX9_pull 59 = .ok (.iastore, 1) := by decide +kernel
theorem dX9_pull_60 : decode cX9_pull 60 = .ok (.aload_n 0, 1) := by decide +kernel
theorem dX9_pull_61 : decode cX9_pull 61 = .ok (.getfield 46, 3) := by decide +kernel
theorem dX9_pull_64 : decode cX9_pull 64 = .ok (.iconst 5, 1) := by decide +kernel
theorem dX9_pull_65 : decode cX9_pull 65 = .ok (.iload_n 3, 1) := by decide +kernel
theorem dX9_pull_66 : decode cX9_pull 66 = .ok (.ifCond .eq 14, 3) := by decide +kernel
theorem dX9_pull_69 : decode cX9_pull 69 = .ok (.iload_n 3, 1) := by decide +kernel
theorem dX9_pull_70 : decode cX9_pull 70 = .ok (.aload_n 1, 1) := by decide +kernel
theorem dX9_pull_71 : decode cX9_pull 71 = .ok (.iload_n 2, 1) := by decide +kernel
theorem dX9_pull_72 : decode cX9_pull 72 = .ok (.invokestatic 108, 3) := by decide +kernel
theorem dX9_pull_75 : decode cX9_pull 75 = .ok (.iconst 1, 1) := by decide +kernel
theorem dX9_pull_76 : decode cX9_pull 76 = .ok (.isub, 1) := by decide +kernel
theorem dX9_pull_77 : decode cX9_pull 77 = .ok (.if_icmp .ne 7, 3) := by decide +kernel
theorem dX9_pull_80 : decode cX9_pull 80 = .ok (.iconst 1, 1) := by decide +kernel
theorem dX9_pull_81 : decode cX9_pull 81 = .ok (.goto 4, 3) := by decide +kernel
theorem dX9_pull_84 : decode cX9_pull 84 = .ok (.iconst 0, 1) := by decide +kernel
theorem dX9_pull_85 : decode cX9_pull 85 = .ok (.invokestatic 116, 3) := by decide +kernel
theorem dX9_pull_88 : decode cX9_pull 88 = .ok (.iastore, 1) := by decide +kernel
theorem dX9_pull_89 : decode cX9_pull 89 = .ok (.aload_n 0, 1) := by decide +kernel
theorem dX9_pull_90 : decode cX9_pull 90 = .ok (.getfield 46, 3) := by decide +kernel
theorem dX9_pull_93 : decode cX9_pull 93 = .ok (.bipush 6, 2) := by decide +kernel
theorem dX9_pull_95 : decode cX9_pull 95 = .ok (.aload_n 1, 1) := by decide +kernel
theorem dX9_pull_96 : decode cX9_pull 96 = .ok (.iload_n 2, 1) := by decide +kernel
theorem dX9_pull_97 : decode cX9_pull 97 = .ok (.iload_n 3, 1) := by decide +kernel
theorem dX9_pull_98 : decode cX9_pull 98 = .ok (.invokestatic 252, 3) := by decide +kernel
theorem dX9_pull_101 : decode cX9_pull 101 = .ok (.iastore, 1) := by decide +kernel
theorem dX9_pull_102 : decode cX9_pull 102 = .ok (.aload_n 0, 1) := by decide +kernel
theorem dX9_pull_103 : decode cX9_pull 103 = .ok (.getfield 46, 3) := by decide +kernel
theorem dX9_pull_106 : decode cX9_pull 106 = .ok (.bipush 7, 2) := by decide +kernel
theorem dX9_pull_108 : decode cX9_pull 108 = .ok (.aload_n 1, 1) := by decide +kernel
theorem dX9_pull_109 : decode cX9_pull 109 = .ok (.bipush 8, 2) := by decide +kernel
theorem dX9_pull_111 : decode cX9_pull 111 = .ok (.iaload, 1) := by decide +kernel
theorem dX9_pull_112 : decode cX9_pull 112 = .ok (.bipush 7, 2) := by decide +kernel
theorem dX9_pull_114 : decode cX9_pull 114 = .ok (.irem, 1) := by decide +kernel
theorem dX9_pull_115 : decode cX9_pull 115 = .ok (.iastore, 1) := by decide +kernel
theorem dX9_pull_116 : decode cX9_pull 116 = .ok (.bipush (-99), 2) := by decide +kernel
theorem dX9_pull_118 : decode cX9_pull 118 = .ok (.bipush 99, 2) := by decide +kernel
theorem dX9_pull_120 : decode cX9_pull 120 = .ok (.aload_n 0, 1) := by decide +kernel
theorem dX9_pull_121 : decode cX9_pull 121 = .ok (.invokevirtual 255, 3) := by decide +kernel
theorem dX9_pull_124 : decode cX9_pull 124 = .ok (.invokestatic 153, 3) := by decide +kernel
theorem dX9_pull_127 : decode cX9_pull 127 = .ok (.invokestatic 258, 3) := by decide +kernel
theorem dX9_pull_130 : decode cX9_pull 130 = .ok (.ireturn, 1) := by decide +kernel
theorem dX9_strongest_0 : decode cX9_strongest 0 = .ok (.iconst 0, 1) := by decide +kernel
theorem dX9_strongest_1 : decode cX9_strongest 1 = .ok (.istore_n 2, 1) := by decide +kernel
theorem dX9_strongest_2 : decode cX9_strongest 2 = .ok (.ldc_w 261, 3) := by decide +kernel
theorem dX9_strongest_5 : decode cX9_strongest 5 = .ok (.istore_n 3, 1) := by decide +kernel
theorem dX9_strongest_6 : decode cX9_strongest 6 = .ok (.iconst 0, 1) := by decide +kernel
theorem dX9_strongest_7 : decode cX9_strongest 7 = .ok (.istore 4, 2) := by decide +kernel
theorem dX9_strongest_9 : decode cX9_strongest 9 = .ok (.iload 4, 2) := by decide +kernel
theorem dX9_strongest_11 : decode cX9_strongest 11 = .ok (.bipush 12, 2) := by decide +kernel
theorem dX9_strongest_13 : decode cX9_strongest 13 = .ok (.if_icmp .ge 69, 3) := by decide +kernel
theorem dX9_strongest_16 : decode cX9_strongest 16 = .ok (.aload_n 1, 1) := by decide +kernel
theorem dX9_strongest_17 : decode cX9_strongest 17 = .ok (.iload 4, 2) := by decide +kernel
theorem dX9_strongest_19 : decode cX9_strongest 19 = .ok (.bipush 6, 2) := by decide +kernel
theorem dX9_strongest_21 : decode cX9_strongest 21 = .ok (.idiv, 1) := by decide +kernel
theorem dX9_strongest_22 : decode cX9_strongest 22 = .ok (.iload 4, 2) := by decide +kernel
theorem dX9_strongest_24 : decode cX9_strongest 24 = .ok (.bipush 6, 2) := by decide +kernel
theorem dX9_strongest_26 : decode cX9_strongest 26 = .ok (.irem, 1) := by decide +kernel
theorem dX9_strongest_27 : decode cX9_strongest 27 = .ok (.invokestatic 262, 3) := by decide +kernel
theorem dX9_strongest_30 : decode cX9_strongest 30 = .ok (.ifCond .eq 21, 3) := by decide +kernel
theorem dX9_strongest_33 : decode cX9_strongest 33 = .ok (.aload_n 0, 1) := by decide +kernel
theorem dX9_strongest_34 : decode cX9_strongest 34 = .ok (.aload_n 1, 1) := by decide +kernel
theorem dX9_strongest_35 : decode cX9_strongest 35 = .ok (.iload 4, 2) := by decide +kernel
theorem dX9_strongest_37 : decode cX9_strongest 37 = .ok (.bipush 6, 2) := by decide +kernel
theorem dX9_strongest_39 : decode cX9_strongest 39 = .ok (.idiv, 1) := by decide +kernel
theorem dX9_strongest_40 : decode cX9_strongest 40 = .ok (.iload 4, 2) := by decide +kernel
theorem dX9_strongest_42 : decode cX9_strongest 42 = .ok (.bipush 6, 2) := by decide +kernel
theorem dX9_strongest_44 : decode cX9_strongest 44 = .ok (.irem, 1) := by decide +kernel
theorem dX9_strongest_45 : decode cX9_strongest 45 = .ok (.invokevirtual 266, 3) := by decide +kernel
theorem dX9_strongest_48 : decode cX9_strongest 48 = .ok (.goto 6, 3) := by decide +kernel
theorem dX9_strongest_51 : decode cX9_strongest 51 = .ok (.ldc_w 261, 3) := by decide +kernel
theorem dX9_strongest_54 : decode cX9_strongest 54 = .ok (.istore 5, 2) := by decide +kernel
theorem dX9_strongest_56 : decode cX9_strongest 56 = .ok (.iload 5, 2) := by decide +kernel
theorem dX9_strongest_58 : decode cX9_strongest 58 = .ok (.iload_n 3, 1) := by decide +kernel
theorem dX9_strongest_59 : decode cX9_strongest 59 = .ok (.if_icmp .le 8, 3) := by decide +kernel
theorem dX9_strongest_62 : decode cX9_strongest 62 = .ok (.iload 4, 2) := by decide +kernel
theorem dX9_strongest_64 : decode cX9_strongest 64 = .ok (.goto 4, 3) := by decide +kernel
theorem dX9_strongest_67 : decode cX9_strongest 67 = .ok (.iload_n 2, 1) := by decide +kernel
theorem dX9_strongest_68 : decode cX9_strongest 68 = .ok (.istore_n 2, 1) := by decide +kernel
theorem dX9_strongest_69 : decode cX9_strongest 69 = .ok (.iload_n 3, 1) := by decide +kernel
theorem dX9_strongest_70 : decode cX9_strongest 70 = .ok (.iload 5, 2) := by decide +kernel
theorem dX9_strongest_72 : decode cX9_strongest 72 = .ok (.invokestatic 258, 3) := by decide +kernel
theorem dX9_strongest_75 : decode cX9_strongest 75 = .ok (.istore_n 3, 1) := by decide +kernel
theorem dX9_strongest_76 : decode cX9_strongest 76 = .ok (.iinc 4 1, 3) := by decide +kernel
theorem dX9_strongest_79 : decode cX9_strongest 79 = .ok (.goto (-70), 3) := by decide +kernel
theorem dX9_strongest_82 : decode cX9_strongest 82 = .ok (.iload_n 2, 1) := by decide +kernel
theorem dX9_strongest_83 : decode cX9_strongest 83 = .ok (.ireturn, 1) := by decide +kernel
theorem dX9_nextOf_0 : decode cX9_nextOf 0 = .ok (.aload_n 0, 1) := by decide +kernel
theorem dX9_nextOf_1 : decode cX9_nextOf 1 = .ok (.aload_n 1, 1) := by decide +kernel
theorem dX9_nextOf_2 : decode cX9_nextOf 2 = .ok (.invokevirtual 269, 3) := by decide +kernel
theorem dX9_nextOf_5 : decode cX9_nextOf 5 = .ok (.istore_n 2, 1) := by decide +kernel
theorem dX9_nextOf_6 : decode cX9_nextOf 6 = .ok (.aload_n 1, 1) := by decide +kernel
theorem dX9_nextOf_7 : decode cX9_nextOf 7 = .ok (.iload_n 2, 1) := by decide +kernel
theorem dX9_nextOf_8 : decode cX9_nextOf 8 = .ok (.bipush 6, 2) := by decide +kernel
theorem dX9_nextOf_10 : decode cX9_nextOf 10 = .ok (.idiv, 1) := by decide +kernel
theorem dX9_nextOf_11 : decode cX9_nextOf 11 = .ok (.invokestatic 108, 3) := by decide +kernel
theorem dX9_nextOf_14 : decode cX9_nextOf 14 = .ok (.iconst 1, 1) := by decide +kernel
theorem dX9_nextOf_15 : decode cX9_nextOf 15 = .ok (.if_icmp .ne 8, 3) := by decide +kernel
theorem dX9_nextOf_18 : decode cX9_nextOf 18 = .ok (.bipush (-2), 2) := by decide +kernel
theorem dX9_nextOf_20 : decode cX9_nextOf 20 = .ok (.goto 4, 3) := by decide +kernel
theorem dX9_nextOf_23 : decode cX9_nextOf 23 = .ok (.iload_n 2, 1) := by decide +kernel
theorem dX9_nextOf_24 : decode cX9_nextOf 24 = .ok (.ireturn, 1) := by decide +kernel
theorem dX9_cell_0 : decode cX9_cell 0 = .ok (.aload_n 0, 1) := by decide +kernel
theorem dX9_cell_1 : decode cX9_cell 1 = .ok (.iconst 0, 1) := by decide +kernel
theorem dX9_cell_2 : decode cX9_cell 2 = .ok (.putfield 3, 3) := by decide +kernel
theorem dX9_cell_5 : decode cX9_cell 5 = .ok (.aload_n 0, 1) := by decide +kernel
theorem dX9_cell_6 : decode cX9_cell 6 = .ok (.getfield 24, 3) := by decide +kernel
theorem dX9_cell_9 : decode cX9_cell 9 = .ok (.iconst 0, 1) := by decide +kernel
theorem dX9_cell_10 : decode cX9_cell 10 = .ok (.iload_n 1, 1) := by decide +kernel
theorem dX9_cell_11 : decode cX9_cell 11 = .ok (.invokestatic 262, 3) := by decide +kernel
theorem dX9_cell_14 : decode cX9_cell 14 = .ok (.ifCond .eq 15, 3) := by decide +kernel
theorem dX9_cell_17 : decode cX9_cell 17 = .ok (.aload_n 0, 1) := by decide +kernel
theorem dX9_cell_18 : decode cX9_cell 18 = .ok (.getfield 24, 3) := by decide +kernel
theorem dX9_cell_21 : decode cX9_cell 21 = .ok (.iconst 1, 1) := by decide +kernel
theorem dX9_cell_22 : decode cX9_cell 22 = .ok (.iload_n 2, 1) := by decide +kernel
theorem dX9_cell_23 : decode cX9_cell 23 = .ok (.invokestatic 262, 3) := by decide +kernel
theorem dX9_cell_26 : decode cX9_cell 26 = .ok (.ifCond .ne 8, 3) := by decide +kernel
theorem dX9_cell_29 : decode cX9_cell 29 = .ok (.aload_n 0, 1) := by decide +kernel
theorem dX9_cell_30 : decode cX9_cell 30 = .ok (.invokevirtual 273, 3) := by decide +kernel
theorem dX9_cell_33 : decode cX9_cell 33 = .ok (.ireturn, 1) := by decide +kernel
theorem dX9_cell_34 : decode cX9_cell 34 = .ok (.aload_n 0, 1) := by decide +kernel
theorem dX9_cell_35 : decode cX9_cell 35 = .ok (.getfield 24, 3) := by decide +kernel
theorem dX9_cell_38 : decode cX9_cell 38 = .ok (.iload_n 1, 1) := by decide +kernel
theorem dX9_cell_39 : decode cX9_cell 39 = .ok (.iaload, 1) := by decide +kernel
theorem dX9_cell_40 : decode cX9_cell 40 = .ok (.iload_n 2, 1) := by decide +kernel
theorem dX9_cell_41 : decode cX9_cell 41 = .ok (.invokestatic 112, 3) := by decide +kernel
theorem dX9_cell_44 : decode cX9_cell 44 = .ok (.invokestatic 116, 3) := by decide +kernel
theorem dX9_cell_47 : decode cX9_cell 47 = .ok (.ireturn, 1) := by decide +kernel
theorem dX9_thread_0 : decode cX9_thread 0 = .ok (.aload_n 0, 1) := by decide +kernel
theorem dX9_thread_1 : decode cX9_thread 1 = .ok (.iconst 0, 1) := by decide +kernel
theorem dX9_thread_2 : decode cX9_thread 2 = .ok (.putfield 3, 3) := by decide +kernel
theorem dX9_thread_5 : decode cX9_thread 5 = .ok (.aload_n 0, 1) := by decide +kernel
theorem dX9_thread_6 : decode cX9_thread 6 = .ok (.getfield 24, 3) := by decide +kernel
theorem dX9_thread_9 : decode cX9_thread 9 = .ok (.iload_n 1, 1) := by decide +kernel
theorem dX9_thread_10 : decode cX9_thread 10 = .ok (.iload_n 2, 1) := by decide +kernel
theorem dX9_thread_11 : decode cX9_thread 11 = .ok (.invokestatic 262, 3) := by decide +kernel
theorem dX9_thread_14 : decode cX9_thread 14 = .ok (.ifCond .eq 15, 3) := by decide +kernel
theorem dX9_thread_17 : decode cX9_thread 17 = .ok (.iload_n 3, 1) := by decide +kernel
theorem dX9_thread_18 : decode cX9_thread 18 = .ok (.i2l, 1) := by decide +kernel
theorem dX9_thread_19 : decode cX9_thread 19 = .ok (.lconst 0, 1) := by decide +kernel
theorem dX9_thread_20 : decode cX9_thread 20 = .ok (.ldc2_w 276, 3) := by decide +kernel
theorem dX9_thread_23 : decode cX9_thread 23 = .ok (.invokestatic 104, 3) := by decide +kernel
theorem dX9_thread_26 : decode cX9_thread 26 = .ok (.ifCond .ne 8, 3) := by decide +kernel
theorem dX9_thread_29 : decode cX9_thread 29 = .ok (.aload_n 0, 1) := by decide +kernel
theorem dX9_thread_30 : decode cX9_thread 30 = .ok (.invokevirtual 273, 3) := by decide +kernel
theorem dX9_thread_33 : decode cX9_thread 33 = .ok (.ireturn, 1) := by decide +kernel
theorem dX9_thread_34 : decode cX9_thread 34 = .ok (.aload_n 0, 1) := by decide +kernel
theorem dX9_thread_35 : decode cX9_thread 35 = .ok (.getfield 24, 3) := by decide +kernel
theorem dX9_thread_38 : decode cX9_thread 38 = .ok (.iload_n 1, 1) := by decide +kernel
theorem dX9_thread_39 : decode cX9_thread 39 = .ok (.iload_n 2, 1) := by decide +kernel
theorem dX9_thread_40 : decode cX9_thread 40 = .ok (.invokestatic 120, 3) := by decide +kernel
theorem dX9_thread_43 : decode cX9_thread 43 = .ok (.istore 4, 2) := by decide +kernel
theorem dX9_thread_45 : decode cX9_thread 45 = .ok (.iload_n 3, 1) := by decide +kernel
theorem dX9_thread_46 : decode cX9_thread 46 = .ok (.tableswitch 70 0 3 #[30, 33, 47, 57], 30) := by decide +kernel
theorem dX9_thread_76 : decode cX9_thread 76 = .ok (.iload 4, 2) := by decide +kernel
theorem dX9_thread_78 : decode cX9_thread 78 = .ok (.ireturn, 1) := by decide +kernel
theorem dX9_thread_79 : decode cX9_thread 79 = .ok (.iload 4, 2) := by decide +kernel
theorem dX9_thread_81 : decode cX9_thread 81 = .ok (.aload_n 0, 1) := by decide +kernel
theorem dX9_thread_82 : decode cX9_thread 82 = .ok (.getfield 24, 3) := by decide +kernel
theorem dX9_thread_85 : decode cX9_thread 85 = .ok (.iload_n 1, 1) := by decide +kernel
theorem dX9_thread_86 : decode cX9_thread 86 = .ok (.invokestatic 124, 3) := by decide +kernel
theorem dX9_thread_89 : decode cX9_thread 89 = .ok (.invokestatic 249, 3) := by decide +kernel
theorem dX9_thread_92 : decode cX9_thread 92 = .ok (.ireturn, 1) := by decide +kernel
theorem dX9_thread_93 : decode cX9_thread 93 = .ok (.aload_n 0, 1) := by decide +kernel
theorem dX9_thread_94 : decode cX9_thread 94 = .ok (.getfield 24, 3) := by decide +kernel
theorem dX9_thread_97 : decode cX9_thread 97 = .ok (.iload_n 1, 1) := by decide +kernel
theorem dX9_thread_98 : decode cX9_thread 98 = .ok (.iload_n 2, 1) := by decide +kernel
theorem dX9_thread_99 : decode cX9_thread 99 = .ok (.invokestatic 252, 3) := by decide +kernel
theorem dX9_thread_102 : decode cX9_thread 102 = .ok (.ireturn, 1) := by decide +kernel
theorem dX9_thread_103 : decode cX9_thread 103 = .ok (.aload_n 0, 1) := by decide +kernel
theorem dX9_thread_104 : decode cX9_thread 104 = .ok (.getfield 24, 3) := by decide +kernel
theorem dX9_thread_107 : decode cX9_thread 107 = .ok (.iload_n 1, 1) := by decide +kernel
theorem dX9_thread_108 : decode cX9_thread 108 = .ok (.iload_n 2, 1) := by decide +kernel
theorem dX9_thread_109 : decode cX9_thread 109 = .ok (.invokestatic 278, 3) := by decide +kernel
theorem dX9_thread_112 : decode cX9_thread 112 = .ok (.invokestatic 116, 3) := by decide +kernel
theorem dX9_thread_115 : decode cX9_thread 115 = .ok (.ireturn, 1) := by decide +kernel
theorem dX9_thread_116 : decode cX9_thread 116 = .ok (.bipush 100, 2) := by decide +kernel
theorem dX9_thread_118 : decode cX9_thread 118 = .ok (.aload_n 0, 1) := by decide +kernel
theorem dX9_thread_119 : decode cX9_thread 119 = .ok (.aload_n 0, 1) := by decide +kernel
theorem dX9_thread_120 : decode cX9_thread 120 = .ok (.getfield 24, 3) := by decide +kernel
theorem dX9_thread_123 : decode cX9_thread 123 = .ok (.iload_n 1, 1) := by decide +kernel
theorem dX9_thread_124 : decode cX9_thread 124 = .ok (.iload_n 2, 1) := by decide +kernel
theorem dX9_thread_125 : decode cX9_thread 125 = .ok (.invokevirtual 266, 3) := by decide +kernel
theorem dX9_thread_128 : decode cX9_thread 128 = .ok (.iadd, 1) := by decide +kernel
theorem dX9_thread_129 : decode cX9_thread 129 = .ok (.ireturn, 1) := by decide +kernel
theorem dX9_sheet_0 : decode cX9_sheet 0 = .ok (.aload_n 0, 1) := by decide +kernel
theorem dX9_sheet_1 : decode cX9_sheet 1 = .ok (.iconst 0, 1) := by decide +kernel
theorem dX9_sheet_2 : decode cX9_sheet 2 = .ok (.putfield 3, 3) := by decide +kernel
theorem dX9_sheet_5 : decode cX9_sheet 5 = .ok (.iload_n 1, 1) := by decide +kernel
theorem dX9_sheet_6 : decode cX9_sheet 6 = .ok (.i2l, 1) := by decide +kernel
theorem dX9_sheet_7 : decode cX9_sheet 7 = .ok (.lconst 0, 1) := by decide +kernel
theorem dX9_sheet_8 : decode cX9_sheet 8 = .ok (.ldc2_w 281, 3) := by decide +kernel
theorem dX9_sheet_11 : decode cX9_sheet 11 = .ok (.invokestatic 104, 3) := by decide +kernel
theorem dX9_sheet_14 : decode cX9_sheet 14 = .ok (.ifCond .eq 9, 3) := by decide +kernel
theorem dX9_sheet_17 : decode cX9_sheet 17 = .ok (.iload_n 2, 1) := by decide +kernel
theorem dX9_sheet_18 : decode cX9_sheet 18 = .ok (.bipush 6, 2) := by decide +kernel
theorem dX9_sheet_20 : decode cX9_sheet 20 = .ok (.if_icmp .le 5, 3) := by decide +kernel
theorem dX9_sheet_23 : decode cX9_sheet 23 = .ok (.iconst (-1), 1) := by decide +kernel
theorem dX9_sheet_24 : decode cX9_sheet 24 = .ok (.ireturn, 1) := by decide +kernel
theorem dX9_sheet_25 : decode cX9_sheet 25 = .ok (.iload_n 1, 1) := by decide +kernel
theorem dX9_sheet_26 : decode cX9_sheet 26 = .ok (.iconst 3, 1) := by decide +kernel
theorem dX9_sheet_27 : decode cX9_sheet 27 = .ok (.if_icmp .eq 10, 3) := by decide +kernel
theorem dX9_sheet_30 : decode cX9_sheet 30 = .ok (.iload_n 2, 1) := by decide +kernel
theorem dX9_sheet_31 : decode cX9_sheet 31 = .ok (.ifCond .ge 6, 3) := by decide +kernel
theorem dX9_sheet_34 : decode cX9_sheet 34 = .ok (.bipush (-2), 2) := by decide +kernel
theorem dX9_sheet_36 : decode cX9_sheet 36 = .ok (.ireturn, 1) := by decide +kernel
theorem dX9_sheet_37 : decode cX9_sheet 37 = .ok (.iconst 0, 1) := by decide +kernel
theorem dX9_sheet_38 : decode cX9_sheet 38 = .ok (.istore 5, 2) := by decide +kernel
theorem dX9_sheet_40 : decode cX9_sheet 40 = .ok (.iload_n 3, 1) := by decide +kernel
theorem dX9_sheet_41 : decode cX9_sheet 41 = .ok (.istore 6, 2) := by decide +kernel
theorem dX9_sheet_43 : decode cX9_sheet 43 = .ok (.iconst 0, 1) := by decide +kernel
theorem dX9_sheet_44 : decode cX9_sheet 44 = .ok (.istore 7, 2) := by decide +kernel
theorem dX9_sheet_46 : decode cX9_sheet 46 = .ok (.iload 7, 2) := by decide +kernel
theorem dX9_sheet_48 : decode cX9_sheet 48 = .ok (.aload_n 0, 1) := by decide +kernel
theorem dX9_sheet_49 : decode cX9_sheet 49 = .ok (.getfield 24, 3) := by decide +kernel
theorem dX9_sheet_52 : decode cX9_sheet 52 = .ok (.bipush 6, 2) := by decide +kernel
theorem dX9_sheet_54 : decode cX9_sheet 54 = .ok (.iaload, 1) := by decide +kernel
theorem dX9_sheet_55 : decode cX9_sheet 55 = .ok (.if_icmp .ge 88, 3) := by decide +kernel
theorem dX9_sheet_58 : decode cX9_sheet 58 = .ok (.iload_n 1, 1) := by decide +kernel
theorem dX9_sheet_59 : decode cX9_sheet 59 = .ok (.ifCond .ne 9, 3) := by decide +kernel
theorem dX9_sheet_62 : decode cX9_sheet 62 = .ok (.iload 6, 2) := by decide +kernel
theorem dX9_sheet_64 : decode cX9_sheet 64 = .ok (.i2b, 1) := by decide +kernel
theorem dX9_sheet_65 : decode cX9_sheet 65 = .ok (.goto 16, 3) := by decide +kernel
theorem dX9_sheet_68 : decode cX9_sheet 68 = .ok (.iload_n 1, 1) := by decide +kernel
theorem dX9_sheet_69 : decode cX9_sheet 69 = .ok (.iconst 1, 1) := by decide +kernel
theorem dX9_sheet_70 : decode cX9_sheet 70 = .ok (.if_icmp .ne 9, 3) := by decide +kernel
theorem dX9_sheet_73 : decode cX9_sheet 73 = .ok (.iload 6, 2) := by decide +kernel
theorem dX9_sheet_75 : decode cX9_sheet 75 = .ok (.i2s, 1) := by decide +kernel
theorem dX9_sheet_76 : decode cX9_sheet 76 = .ok (.goto 5, 3) := by decide +kernel
theorem dX9_sheet_79 : decode cX9_sheet 79 = .ok (.iload 6, 2) := by decide +kernel
theorem dX9_sheet_81 : decode cX9_sheet 81 = .ok (.istore 8, 2) := by decide +kernel
theorem dX9_sheet_83 : decode cX9_sheet 83 = .ok (.aload_n 0, 1) := by decide +kernel
theorem dX9_sheet_84 : decode cX9_sheet 84 = .ok (.getfield 24, 3) := by decide +kernel
theorem dX9_sheet_87 : decode cX9_sheet 87 = .ok (.iload 7, 2) := by decide +kernel
theorem dX9_sheet_89 : decode cX9_sheet 89 = .ok (.iload_n 1, 1) := by decide +kernel
theorem dX9_sheet_90 : decode cX9_sheet 90 = .ok (.iconst 3, 1) := by decide +kernel
theorem dX9_sheet_91 : decode cX9_sheet 91 = .ok (.if_icmp .eq 9, 3) := by decide +kernel
theorem dX9_sheet_94 : decode cX9_sheet 94 = .ok (.iload 7, 2) := by decide +kernel
theorem dX9_sheet_96 : decode cX9_sheet 96 = .ok (.iload_n 2, 1) := by decide +kernel
theorem dX9_sheet_97 : decode cX9_sheet 97 = .ok (.if_icmp .lt 7, 3) := by decide +kernel
theorem dX9_sheet_100 : decode cX9_sheet 100 = .ok (.iconst 0, 1) := by decide +kernel
theorem dX9_sheet_101 : decode cX9_sheet 101 = .ok (.goto 16, 3) := by decide +kernel
theorem dX9_sheet_104 : decode cX9_sheet 104 = .ok (.iload 8, 2) := by decide +kernel
theorem dX9_sheet_106 : decode cX9_sheet 106 = .ok (.aload_n 0, 1) := by decide +kernel
theorem dX9_sheet_107 : decode cX9_sheet 107 = .ok (.getfield 24, 3) := by decide +kernel
theorem dX9_sheet_110 : decode cX9_sheet 110 = .ok (.bipush 7, 2) := by decide +kernel
theorem dX9_sheet_112 : decode cX9_sheet 112 = .ok (.iaload, 1) := by decide +kernel
theorem dX9_sheet_113 : decode cX9_sheet 113 = .ok (.invokestatic 127, 3) := by decide +kernel
theorem dX9_sheet_116 : decode cX9_sheet 116 = .ok (.iand, 1) := by decide +kernel
theorem dX9_sheet_117 : decode cX9_sheet 117 = .ok (.iastore, 1) := by decide +kernel
theorem dX9_sheet_118 : decode cX9_sheet 118 = .ok (.iload 5, 2) := by decide +kernel
theorem dX9_sheet_120 : decode cX9_sheet 120 = .ok (.aload_n 0, 1) := by decide +kernel
theorem dX9_sheet_121 : decode cX9_sheet 121 = .ok (.getfield 24, 3) := by decide +kernel
theorem dX9_sheet_124 : decode cX9_sheet 124 = .ok (.iload 7, 2) := by decide +kernel
theorem dX9_sheet_126 : decode cX9_sheet 126 = .ok (.iaload, 1) := by decide +kernel
theorem dX9_sheet_127 : decode cX9_sheet 127 = .ok (.iadd, 1) := by decide +kernel
theorem dX9_sheet_128 : decode cX9_sheet 128 = .ok (.istore 5, 2) := by decide +kernel
theorem dX9_sheet_130 : decode cX9_sheet 130 = .ok (.iload 6, 2) := by decide +kernel
theorem dX9_sheet_132 : decode cX9_sheet 132 = .ok (.iload 4, 2) := by decide +kernel
theorem dX9_sheet_134 : decode cX9_sheet 134 = .ok (.iadd, 1) := by decide +kernel
theorem dX9_sheet_135 : decode cX9_sheet 135 = .ok (.istore 6, 2) := by decide +kernel
theorem dX9_sheet_137 : decode cX9_sheet 137 = .ok (.iinc 7 1, 3) := by decide +kernel
theorem dX9_sheet_140 : decode cX9_sheet 140 = .ok (.goto (-94), 3) := by decide +kernel
theorem dX9_sheet_143 : decode cX9_sheet 143 = .ok (.iload_n 1, 1) := by decide +kernel
theorem dX9_sheet_144 : decode cX9_sheet 144 = .ok (.iconst 3, 1) := by decide +kernel
theorem dX9_sheet_145 : decode cX9_sheet 145 = .ok (.if_icmp .ne 8, 3) := by decide +kernel
theorem dX9_sheet_148 : decode cX9_sheet 148 = .ok (.bipush (-3), 2) := by decide +kernel
theorem dX9_sheet_150 : decode cX9_sheet 150 = .ok (.goto 5, 3) := by decide +kernel
theorem dX9_sheet_153 : decode cX9_sheet 153 = .ok (.iload 5, 2) := by decide +kernel
theorem dX9_sheet_155 : decode cX9_sheet 155 = .ok (.ireturn, 1) := by decide +kernel
theorem dX9_putsBy_0 : decode cX9_putsBy 0 = .ok (.iconst 0, 1) := by decide +kernel
theorem dX9_putsBy_1 : decode cX9_putsBy 1 = .ok (.istore_n 1, 1) := by decide +kernel
theorem dX9_putsBy_2 : decode cX9_putsBy 2 = .ok (.iload_n 1, 1) := by decide +kernel
theorem dX9_putsBy_3 : decode cX9_putsBy 3 = .ok (.bipush 9, 2) := by decide +kernel
theorem dX9_putsBy_5 : decode cX9_putsBy 5 = .ok (.if_icmp .ge 29, 3) := by decide +kernel
theorem dX9_putsBy_8 : decode cX9_putsBy 8 = .ok (.aload_n 0, 1) := by decide +kernel
theorem dX9_putsBy_9 : decode cX9_putsBy 9 = .ok (.getfield 49, 3) := by decide +kernel
theorem dX9_putsBy_12 : decode cX9_putsBy 12 = .ok (.bipush 9, 2) := by decide +kernel
theorem dX9_putsBy_14 : decode cX9_putsBy 14 = .ok (.aload_n 0, 1) := by decide +kernel
theorem dX9_putsBy_15 : decode cX9_putsBy 15 = .ok (.getfield 198, 3) := by decide +kernel
theorem dX9_putsBy_18 : decode cX9_putsBy 18 = .ok (.imul, 1) := by decide +kernel
theorem dX9_putsBy_19 : decode cX9_putsBy 19 = .ok (.iload_n 1, 1) := by decide +kernel
theorem dX9_putsBy_20 : decode cX9_putsBy 20 = .ok (.iadd, 1) := by decide +kernel
theorem dX9_putsBy_21 : decode cX9_putsBy 21 = .ok (.aload_n 0, 1) := by decide +kernel
theorem dX9_putsBy_22 : decode cX9_putsBy 22 = .ok (.getfield 24, 3) := by decide +kernel
theorem dX9_putsBy_25 : decode cX9_putsBy 25 = .ok (.iload_n 1, 1) := by decide +kernel
theorem dX9_putsBy_26 : decode cX9_putsBy 26 = .ok (.iaload, 1) := by decide +kernel
theorem dX9_putsBy_27 : decode cX9_putsBy 27 = .ok (.iastore, 1) := by decide +kernel
theorem dX9_putsBy_28 : decode cX9_putsBy 28 = .ok (.iinc 1 1, 3) := by decide +kernel
theorem dX9_putsBy_31 : decode cX9_putsBy 31 = .ok (.goto (-29), 3) := by decide +kernel
theorem dX9_putsBy_34 : decode cX9_putsBy 34 = .ok (.return_, 1) := by decide +kernel
theorem dX9_adds_0 : decode cX9_adds 0 = .ok (.aload_n 0, 1) := by decide +kernel
theorem dX9_adds_1 : decode cX9_adds 1 = .ok (.dup, 1) := by decide +kernel
theorem dX9_adds_2 : decode cX9_adds 2 = .ok (.getfield 198, 3) := by decide +kernel
theorem dX9_adds_5 : decode cX9_adds 5 = .ok (.iconst 1, 1) := by decide +kernel
theorem dX9_adds_6 : decode cX9_adds 6 = .ok (.iadd, 1) := by decide +kernel
theorem dX9_adds_7 : decode cX9_adds 7 = .ok (.putfield 198, 3) := by decide +kernel
theorem dX9_adds_10 : decode cX9_adds 10 = .ok (.aload_n 0, 1) := by decide +kernel
theorem dX9_adds_11 : decode cX9_adds 11 = .ok (.getfield 198, 3) := by decide +kernel
theorem dX9_adds_14 : decode cX9_adds 14 = .ok (.bipush 15, 2) := by decide +kernel
theorem dX9_adds_16 : decode cX9_adds 16 = .ok (.if_icmp .le 43, 3) := by decide +kernel
theorem dX9_adds_19 : decode cX9_adds 19 = .ok (.iconst 0, 1) := by decide +kernel
theorem dX9_adds_20 : decode cX9_adds 20 = .ok (.istore_n 2, 1) := by decide +kernel
theorem dX9_adds_21 : decode cX9_adds 21 = .ok (.iload_n 2, 1) := by decide +kernel
theorem dX9_adds_22 : decode cX9_adds 22 = .ok (.sipush 135, 3) := by decide +kernel
theorem dX9_adds_25 : decode cX9_adds 25 = .ok (.if_icmp .ge 24, 3) := by decide +kernel
theorem dX9_adds_28 : decode cX9_adds 28 = .ok (.aload_n 0, 1) := by decide +kernel
theorem dX9_adds_29 : decode cX9_adds 29 = .ok (.getfield 49, 3) := by decide +kernel
theorem dX9_adds_32 : decode cX9_adds 32 = .ok (.iload_n 2, 1) := by decide +kernel
theorem dX9_adds_33 : decode cX9_adds 33 = .ok (.aload_n 0, 1) := by decide +kernel
theorem dX9_adds_34 : decode cX9_adds 34 = .ok (.getfield 49, 3) := by decide +kernel
theorem dX9_adds_37 : decode cX9_adds 37 = .ok (.iload_n 2, 1) := by decide +kernel
theorem dX9_adds_38 : decode cX9_adds 38 = .ok (.bipush 9, 2) := by decide +kernel
theorem dX9_adds_40 : decode cX9_adds 40 = .ok (.iadd, 1) := by decide +kernel
theorem dX9_adds_41 : decode cX9_adds 41 = .ok (.iaload, 1) := by decide +kernel
theorem dX9_adds_42 : decode cX9_adds 42 = .ok (.iastore, 1) := by decide +kernel
theorem dX9_adds_43 : decode cX9_adds 43 = .ok (.iinc 2 1, 3) := by decide +kernel
theorem dX9_adds_46 : decode cX9_adds 46 = .ok (.goto (-25), 3) := by decide +kernel
theorem dX9_adds_49 : decode cX9_adds 49 = .ok (.aload_n 0, 1) := by decide +kernel
theorem dX9_adds_50 : decode cX9_adds 50 = .ok (.dup, 1) := by decide +kernel
theorem dX9_adds_51 : decode cX9_adds 51 = .ok (.getfield 198, 3) := by decide +kernel
theorem dX9_adds_54 : decode cX9_adds 54 = .ok (.iconst 1, 1) := by decide +kernel
theorem dX9_adds_55 : decode cX9_adds 55 = .ok (.isub, 1) := by decide +kernel
theorem dX9_adds_56 : decode cX9_adds 56 = .ok (.putfield 198, 3) := by decide +kernel
theorem dX9_adds_59 : decode cX9_adds 59 = .ok (.iload_n 1, 1) := by decide +kernel
theorem dX9_adds_60 : decode cX9_adds 60 = .ok (.ireturn, 1) := by decide +kernel
theorem dX9_counted_0 : decode cX9_counted 0 = .ok (.iload_n 1, 1) := by decide +kernel
theorem dX9_counted_1 : decode cX9_counted 1 = .ok (.ifCond .ge 7, 3) := by decide +kernel
theorem dX9_counted_4 : decode cX9_counted 4 = .ok (.iload_n 1, 1) := by decide +kernel
theorem dX9_counted_5 : decode cX9_counted 5 = .ok (.goto 8, 3) := by decide +kernel
theorem dX9_counted_8 : decode cX9_counted 8 = .ok (.aload_n 0, 1) := by decide +kernel
theorem dX9_counted_9 : decode cX9_counted 9 = .ok (.iload_n 1, 1) := by decide +kernel
theorem dX9_counted_10 : decode cX9_counted 10 = .ok (.invokevirtual 283, 3) := by decide +kernel
theorem dX9_counted_13 : decode cX9_counted 13 = .ok (.ireturn, 1) := by decide +kernel
theorem dX9_undo_0 : decode cX9_undo 0 = .ok (.aload_n 0, 1) := by decide +kernel
theorem dX9_undo_1 : decode cX9_undo 1 = .ok (.iconst 0, 1) := by decide +kernel
theorem dX9_undo_2 : decode cX9_undo 2 = .ok (.putfield 3, 3) := by decide +kernel
theorem dX9_undo_5 : decode cX9_undo 5 = .ok (.aload_n 0, 1) := by decide +kernel
theorem dX9_undo_6 : decode cX9_undo 6 = .ok (.getfield 198, 3) := by decide +kernel
theorem dX9_undo_9 : decode cX9_undo 9 = .ok (.ifCond .ne 5, 3) := by decide +kernel
theorem dX9_undo_12 : decode cX9_undo 12 = .ok (.iconst (-1), 1) := by decide +kernel
theorem dX9_undo_13 : decode cX9_undo 13 = .ok (.ireturn, 1) := by decide +kernel
theorem dX9_undo_14 : decode cX9_undo 14 = .ok (.aload_n 0, 1) := by decide +kernel
theorem dX9_undo_15 : decode cX9_undo 15 = .ok (.dup, 1) := by decide +kernel
theorem dX9_undo_16 : decode cX9_undo 16 = .ok (.getfield 198, 3) := by decide +kernel
theorem dX9_undo_19 : decode cX9_undo 19 = .ok (.iconst 1, 1) := by decide +kernel
theorem dX9_undo_20 : decode cX9_undo 20 = .ok (.isub, 1) := by decide +kernel
theorem dX9_undo_21 : decode cX9_undo 21 = .ok (.putfield 198, 3) := by decide +kernel
theorem dX9_undo_24 : decode cX9_undo 24 = .ok (.iconst 0, 1) := by decide +kernel
theorem dX9_undo_25 : decode cX9_undo 25 = .ok (.istore_n 1, 1) := by decide +kernel
theorem dX9_undo_26 : decode cX9_undo 26 = .ok (.iload_n 1, 1) := by decide +kernel
theorem dX9_undo_27 : decode cX9_undo 27 = .ok (.bipush 9, 2) := by decide +kernel
theorem dX9_undo_29 : decode cX9_undo 29 = .ok (.if_icmp .ge 29, 3) := by decide +kernel
theorem dX9_undo_32 : decode cX9_undo 32 = .ok (.aload_n 0, 1) := by decide +kernel
theorem dX9_undo_33 : decode cX9_undo 33 = .ok (.getfield 24, 3) := by decide +kernel
theorem dX9_undo_36 : decode cX9_undo 36 = .ok (.iload_n 1, 1) := by decide +kernel
theorem dX9_undo_37 : decode cX9_undo 37 = .ok (.aload_n 0, 1) := by decide +kernel
theorem dX9_undo_38 : decode cX9_undo 38 = .ok (.getfield 49, 3) := by decide +kernel
theorem dX9_undo_41 : decode cX9_undo 41 = .ok (.bipush 9, 2) := by decide +kernel
theorem dX9_undo_43 : decode cX9_undo 43 = .ok (.aload_n 0, 1) := by decide +kernel
theorem dX9_undo_44 : decode cX9_undo 44 = .ok (.getfield 198, 3) := by decide +kernel
theorem dX9_undo_47 : decode cX9_undo 47 = .ok (.imul, 1) := by decide +kernel
theorem dX9_undo_48 : decode cX9_undo 48 = .ok (.iload_n 1, 1) := by decide +kernel
theorem dX9_undo_49 : decode cX9_undo 49 = .ok (.iadd, 1) := by decide +kernel
theorem dX9_undo_50 : decode cX9_undo 50 = .ok (.iaload, 1) := by decide +kernel
theorem dX9_undo_51 : decode cX9_undo 51 = .ok (.iastore, 1) := by decide +kernel
theorem dX9_undo_52 : decode cX9_undo 52 = .ok (.iinc 1 1, 3) := by decide +kernel
theorem dX9_undo_55 : decode cX9_undo 55 = .ok (.goto (-29), 3) := by decide +kernel
theorem dX9_undo_58 : decode cX9_undo 58 = .ok (.aload_n 0, 1) := by decide +kernel
theorem dX9_undo_59 : decode cX9_undo 59 = .ok (.getfield 198, 3) := by decide +kernel
theorem dX9_undo_62 : decode cX9_undo 62 = .ok (.ireturn, 1) := by decide +kernel
theorem dX9_nightGoes_0 : decode cX9_nightGoes 0 = .ok (.aload_n 0, 1) := by decide +kernel
theorem dX9_nightGoes_1 : decode cX9_nightGoes 1 = .ok (.aload_n 1, 1) := by decide +kernel
theorem dX9_nightGoes_2 : decode cX9_nightGoes 2 = .ok (.invokevirtual 286, 3) := by decide +kernel
theorem dX9_nightGoes_5 : decode cX9_nightGoes 5 = .ok (.istore_n 2, 1) := by decide +kernel
theorem dX9_nightGoes_6 : decode cX9_nightGoes 6 = .ok (.iload_n 2, 1) := by decide +kernel
theorem dX9_nightGoes_7 : decode cX9_nightGoes 7 = .ok (.ifCond .lt 15, 3) := by decide +kernel
theorem dX9_nightGoes_10 : decode cX9_nightGoes 10 = .ok (.aload_n 1, 1) := by decide +kernel
theorem dX9_nightGoes_11 : decode cX9_nightGoes 11 = .ok (.iload_n 2, 1) := by decide +kernel
theorem dX9_nightGoes_12 : decode cX9_nightGoes 12 = .ok (.bipush 6, 2) := by decide +kernel
theorem dX9_nightGoes_14 : decode cX9_nightGoes 14 = .ok (.idiv, 1) := by decide +kernel
theorem dX9_nightGoes_15 : decode cX9_nightGoes 15 = .ok (.iload_n 2, 1) := by decide +kernel
theorem dX9_nightGoes_16 : decode cX9_nightGoes 16 = .ok (.bipush 6, 2) := by decide +kernel
theorem dX9_nightGoes_18 : decode cX9_nightGoes 18 = .ok (.irem, 1) := by decide +kernel
theorem dX9_nightGoes_19 : decode cX9_nightGoes 19 = .ok (.invokestatic 289, 3) := by decide +kernel
theorem dX9_nightGoes_22 : decode cX9_nightGoes 22 = .ok (.aload_n 1, 1) := by decide +kernel
theorem dX9_nightGoes_23 : decode cX9_nightGoes 23 = .ok (.bipush 8, 2) := by decide +kernel
theorem dX9_nightGoes_25 : decode cX9_nightGoes 25 = .ok (.dup2, 1) := by decide +kernel
theorem dX9_nightGoes_26 : decode cX9_nightGoes 26 = .ok (.iaload, 1) := by decide +kernel
theorem dX9_nightGoes_27 : decode cX9_nightGoes 27 = .ok (.iconst 1, 1) := by decide +kernel
theorem dX9_nightGoes_28 : decode cX9_nightGoes 28 = .ok (.iadd, 1) := by decide +kernel
theorem dX9_nightGoes_29 : decode cX9_nightGoes 29 = .ok (.iastore, 1) := by decide +kernel
theorem dX9_nightGoes_30 : decode cX9_nightGoes 30 = .ok (.iload_n 2, 1) := by decide +kernel
theorem dX9_nightGoes_31 : decode cX9_nightGoes 31 = .ok (.ireturn, 1) := by decide +kernel
theorem dX9_goesOn_0 : decode cX9_goesOn 0 = .ok (.iconst 0, 1) := by decide +kernel
theorem dX9_goesOn_1 : decode cX9_goesOn 1 = .ok (.istore_n 3, 1) := by decide +kernel
theorem dX9_goesOn_2 : decode cX9_goesOn 2 = .ok (.iload_n 3, 1) := by decide +kernel
theorem dX9_goesOn_3 : decode cX9_goesOn 3 = .ok (.iload_n 2, 1) := by decide +kernel
theorem dX9_goesOn_4 : decode cX9_goesOn 4 = .ok (.if_icmp .ge 15, 3) := by decide +kernel
theorem dX9_goesOn_7 : decode cX9_goesOn 7 = .ok (.aload_n 0, 1) := by decide +kernel
theorem dX9_goesOn_8 : decode cX9_goesOn 8 = .ok (.aload_n 1, 1) := by decide +kernel
theorem dX9_goesOn_9 : decode cX9_goesOn 9 = .ok (.invokevirtual 293, 3) := by decide +kernel
theorem dX9_goesOn_12 : decode cX9_goesOn 12 = .ok (.pop, 1) := by decide +kernel
theorem dX9_goesOn_13 : decode cX9_goesOn 13 = .ok (.iinc 3 1, 3) := by decide +kernel
theorem dX9_goesOn_16 : decode cX9_goesOn 16 = .ok (.goto (-14), 3) := by decide +kernel
theorem dX9_goesOn_19 : decode cX9_goesOn 19 = .ok (.return_, 1) := by decide +kernel
theorem dX9_weavesIn_0 : decode cX9_weavesIn 0 = .ok (.iload_n 1, 1) := by decide +kernel
theorem dX9_weavesIn_1 : decode cX9_weavesIn 1 = .ok (.i2l, 1) := by decide +kernel
theorem dX9_weavesIn_2 : decode cX9_weavesIn 2 = .ok (.lconst 0, 1) := by decide +kernel
theorem dX9_weavesIn_3 : decode cX9_weavesIn 3 = .ok (.lconst 1, 1) := by decide +kernel
theorem dX9_weavesIn_4 : decode cX9_weavesIn 4 = .ok (.invokestatic 104, 3) := by decide +kernel
theorem dX9_weavesIn_7 : decode cX9_weavesIn 7 = .ok (.ifCond .eq 36, 3) := by decide +kernel
theorem dX9_weavesIn_10 : decode cX9_weavesIn 10 = .ok (.iload_n 2, 1) := by decide +kernel
theorem dX9_weavesIn_11 : decode cX9_weavesIn 11 = .ok (.i2l, 1) := by decide +kernel
theorem dX9_weavesIn_12 : decode cX9_weavesIn 12 = .ok (.lconst 0, 1) := by decide +kernel
theorem dX9_weavesIn_13 : decode cX9_weavesIn 13 = .ok (.aload_n 0, 1) := by decide +kernel
theorem dX9_weavesIn_14 : decode cX9_weavesIn 14 = .ok (.iload_n 1, 1) := by decide +kernel
theorem dX9_weavesIn_15 : decode cX9_weavesIn 15 = .ok (.invokestatic 108, 3) := by decide +kernel
theorem dX9_weavesIn_18 : decode cX9_weavesIn 18 = .ok (.i2l, 1) := by decide +kernel
theorem dX9_weavesIn_19 : decode cX9_weavesIn 19 = .ok (.invokestatic 104, 3) := by decide +kernel
theorem dX9_weavesIn_22 : decode cX9_weavesIn 22 = .ok (.ifCond .eq 21, 3) := by decide +kernel
theorem dX9_weavesIn_25 : decode cX9_weavesIn 25 = .ok (.iload_n 3, 1) := by decide +kernel
theorem dX9_weavesIn_26 : decode cX9_weavesIn 26 = .ok (.i2l, 1) := by decide +kernel
theorem dX9_weavesIn_27 : decode cX9_weavesIn 27 = .ok (.lconst 0, 1) := by decide +kernel
theorem dX9_weavesIn_28 : decode cX9_weavesIn 28 = .ok (.aload_n 0, 1) := by decide +kernel
theorem dX9_weavesIn_29 : decode cX9_weavesIn 29 = .ok (.iload_n 1, 1) := by decide +kernel
theorem dX9_weavesIn_30 : decode cX9_weavesIn 30 = .ok (.invokestatic 124, 3) := by decide +kernel
theorem dX9_weavesIn_33 : decode cX9_weavesIn 33 = .ok (.invokestatic 127, 3) := by decide +kernel
theorem dX9_weavesIn_36 : decode cX9_weavesIn 36 = .ok (.i2l, 1) := by decide +kernel
theorem dX9_weavesIn_37 : decode cX9_weavesIn 37 = .ok (.invokestatic 104, 3) := by decide +kernel
theorem dX9_weavesIn_40 : decode cX9_weavesIn 40 = .ok (.ifCond .ne 5, 3) := by decide +kernel
theorem dX9_weavesIn_43 : decode cX9_weavesIn 43 = .ok (.iconst (-1), 1) := by decide +kernel
theorem dX9_weavesIn_44 : decode cX9_weavesIn 44 = .ok (.ireturn, 1) := by decide +kernel
theorem dX9_weavesIn_45 : decode cX9_weavesIn 45 = .ok (.aload_n 0, 1) := by decide +kernel
theorem dX9_weavesIn_46 : decode cX9_weavesIn 46 = .ok (.iload_n 1, 1) := by decide +kernel
theorem dX9_weavesIn_47 : decode cX9_weavesIn 47 = .ok (.invokestatic 108, 3) := by decide +kernel
theorem dX9_weavesIn_50 : decode cX9_weavesIn 50 = .ok (.bipush 6, 2) := by decide +kernel
theorem dX9_weavesIn_52 : decode cX9_weavesIn 52 = .ok (.if_icmp .ne 6, 3) := by decide +kernel
theorem dX9_weavesIn_55 : decode cX9_weavesIn 55 = .ok (.bipush (-2), 2) := by decide +kernel
theorem dX9_weavesIn_57 : decode cX9_weavesIn 57 = .ok (.ireturn, 1) := by decide +kernel
theorem dX9_weavesIn_58 : decode cX9_weavesIn 58 = .ok (.aload_n 0, 1) := by decide +kernel
theorem dX9_weavesIn_59 : decode cX9_weavesIn 59 = .ok (.iload_n 1, 1) := by decide +kernel
theorem dX9_weavesIn_60 : decode cX9_weavesIn 60 = .ok (.iload_n 2, 1) := by decide +kernel
theorem dX9_weavesIn_61 : decode cX9_weavesIn 61 = .ok (.iload_n 3, 1) := by decide +kernel
theorem dX9_weavesIn_62 : decode cX9_weavesIn 62 = .ok (.invokestatic 296, 3) := by decide +kernel
theorem dX9_weavesIn_65 : decode cX9_weavesIn 65 = .ok (.aload_n 0, 1) := by decide +kernel
theorem dX9_weavesIn_66 : decode cX9_weavesIn 66 = .ok (.iload_n 1, 1) := by decide +kernel
theorem dX9_weavesIn_67 : decode cX9_weavesIn 67 = .ok (.invokestatic 108, 3) := by decide +kernel
theorem dX9_weavesIn_70 : decode cX9_weavesIn 70 = .ok (.ireturn, 1) := by decide +kernel
theorem dX9_drawsOut_0 : decode cX9_drawsOut 0 = .ok (.aload_n 0, 1) := by decide +kernel
theorem dX9_drawsOut_1 : decode cX9_drawsOut 1 = .ok (.getfield 24, 3) := by decide +kernel
theorem dX9_drawsOut_4 : decode cX9_drawsOut 4 = .ok (.iload_n 1, 1) := by decide +kernel
theorem dX9_drawsOut_5 : decode cX9_drawsOut 5 = .ok (.iload_n 2, 1) := by decide +kernel
theorem dX9_drawsOut_6 : decode cX9_drawsOut 6 = .ok (.invokestatic 262, 3) := by decide +kernel
theorem dX9_drawsOut_9 : decode cX9_drawsOut 9 = .ok (.ifCond .ne 5, 3) := by decide +kernel
theorem dX9_drawsOut_12 : decode cX9_drawsOut 12 = .ok (.iconst (-1), 1) := by decide +kernel
theorem dX9_drawsOut_13 : decode cX9_drawsOut 13 = .ok (.ireturn, 1) := by decide +kernel
theorem dX9_drawsOut_14 : decode cX9_drawsOut 14 = .ok (.aload_n 0, 1) := by decide +kernel
theorem dX9_drawsOut_15 : decode cX9_drawsOut 15 = .ok (.getfield 24, 3) := by decide +kernel
theorem dX9_drawsOut_18 : decode cX9_drawsOut 18 = .ok (.iload_n 1, 1) := by decide +kernel
theorem dX9_drawsOut_19 : decode cX9_drawsOut 19 = .ok (.invokestatic 108, 3) := by decide +kernel
theorem dX9_drawsOut_22 : decode cX9_drawsOut 22 = .ok (.iconst 1, 1) := by decide +kernel
theorem dX9_drawsOut_23 : decode cX9_drawsOut 23 = .ok (.if_icmp .ne 6, 3) := by decide +kernel
theorem dX9_drawsOut_26 : decode cX9_drawsOut 26 = .ok (.bipush (-2), 2) := by decide +kernel
theorem dX9_drawsOut_28 : decode cX9_drawsOut 28 = .ok (.ireturn, 1) := by decide +kernel
theorem dX9_drawsOut_29 : decode cX9_drawsOut 29 = .ok (.aload_n 0, 1) := by decide +kernel
theorem dX9_drawsOut_30 : decode cX9_drawsOut 30 = .ok (.getfield 24, 3) := by decide +kernel
theorem dX9_drawsOut_33 : decode cX9_drawsOut 33 = .ok (.iload_n 1, 1) := by decide +kernel
theorem dX9_drawsOut_34 : decode cX9_drawsOut 34 = .ok (.iload_n 2, 1) := by decide +kernel
theorem dX9_drawsOut_35 : decode cX9_drawsOut 35 = .ok (.invokestatic 120, 3) := by decide +kernel
theorem dX9_drawsOut_38 : decode cX9_drawsOut 38 = .ok (.istore_n 3, 1) := by decide +kernel
theorem dX9_drawsOut_39 : decode cX9_drawsOut 39 = .ok (.aload_n 0, 1) := by decide +kernel
theorem dX9_drawsOut_40 : decode cX9_drawsOut 40 = .ok (.getfield 24, 3) := by decide +kernel
theorem dX9_drawsOut_43 : decode cX9_drawsOut 43 = .ok (.iload_n 1, 1) := by decide +kernel
theorem dX9_drawsOut_44 : decode cX9_drawsOut 44 = .ok (.iload_n 2, 1) := by decide +kernel
theorem dX9_drawsOut_45 : decode cX9_drawsOut 45 = .ok (.invokestatic 289, 3) := by decide +kernel
theorem dX9_drawsOut_48 : decode cX9_drawsOut 48 = .ok (.iload_n 3, 1) := by decide +kernel
theorem dX9_drawsOut_49 : decode cX9_drawsOut 49 = .ok (.ireturn, 1) := by decide +kernel
theorem dX9_flipsOne_0 : decode cX9_flipsOne 0 = .ok (.aload_n 0, 1) := by decide +kernel
theorem dX9_flipsOne_1 : decode cX9_flipsOne 1 = .ok (.iconst 0, 1) := by decide +kernel
theorem dX9_flipsOne_2 : decode cX9_flipsOne 2 = .ok (.iload_n 1, 1) := by decide +kernel
theorem dX9_flipsOne_3 : decode cX9_flipsOne 3 = .ok (.invokestatic 262, 3) := by decide +kernel
theorem dX9_flipsOne_6 : decode cX9_flipsOne 6 = .ok (.ifCond .eq 12, 3) := by decide +kernel
theorem dX9_flipsOne_9 : decode cX9_flipsOne 9 = .ok (.aload_n 0, 1) := by decide +kernel
theorem dX9_flipsOne_10 : decode cX9_flipsOne 10 = .ok (.iconst 1, 1) := by decide +kernel
theorem dX9_flipsOne_11 : decode cX9_flipsOne 11 = .ok (.iload_n 2, 1) := by decide +kernel
theorem dX9_flipsOne_12 : decode cX9_flipsOne 12 = .ok (.invokestatic 262, 3) := by decide +kernel
theorem dX9_flipsOne_15 : decode cX9_flipsOne 15 = .ok (.ifCond .ne 5, 3) := by decide +kernel
theorem dX9_flipsOne_18 : decode cX9_flipsOne 18 = .ok (.iconst (-1), 1) := by decide +kernel
theorem dX9_flipsOne_19 : decode cX9_flipsOne 19 = .ok (.ireturn, 1) := by decide +kernel
theorem dX9_flipsOne_20 : decode cX9_flipsOne 20 = .ok (.aload_n 0, 1) := by decide +kernel
theorem dX9_flipsOne_21 : decode cX9_flipsOne 21 = .ok (.iload_n 1, 1) := by decide +kernel
theorem dX9_flipsOne_22 : decode cX9_flipsOne 22 = .ok (.dup2, 1) := by decide +kernel
theorem dX9_flipsOne_23 : decode cX9_flipsOne 23 = .ok (.iaload, 1) := by decide +kernel
theorem dX9_flipsOne_24 : decode cX9_flipsOne 24 = .ok (.iconst 1, 1) := by decide +kernel
theorem dX9_flipsOne_25 : decode cX9_flipsOne 25 = .ok (.iload_n 2, 1) := by decide +kernel
theorem dX9_flipsOne_26 : decode cX9_flipsOne 26 = .ok (.ishl, 1) := by decide +kernel
theorem dX9_flipsOne_27 : decode cX9_flipsOne 27 = .ok (.ixor, 1) := by decide +kernel
theorem dX9_flipsOne_28 : decode cX9_flipsOne 28 = .ok (.iastore, 1) := by decide +kernel
theorem dX9_flipsOne_29 : decode cX9_flipsOne 29 = .ok (.aload_n 0, 1) := by decide +kernel
theorem dX9_flipsOne_30 : decode cX9_flipsOne 30 = .ok (.invokestatic 300, 3) := by decide +kernel
theorem dX9_flipsOne_33 : decode cX9_flipsOne 33 = .ok (.ireturn, 1) := by decide +kernel
theorem dX9_mirrorsAll_0 : decode cX9_mirrorsAll 0 = .ok (.iload_n 1, 1) := by decide +kernel
theorem dX9_mirrorsAll_1 : decode cX9_mirrorsAll 1 = .ok (.i2l, 1) := by decide +kernel
theorem dX9_mirrorsAll_2 : decode cX9_mirrorsAll 2 = .ok (.lconst 0, 1) := by decide +kernel
theorem dX9_mirrorsAll_3 : decode cX9_mirrorsAll 3 = .ok (.lconst 1, 1) := by decide +kernel
theorem dX9_mirrorsAll_4 : decode cX9_mirrorsAll 4 = .ok (.invokestatic 104, 3) := by decide +kernel
theorem dX9_mirrorsAll_7 : decode cX9_mirrorsAll 7 = .ok (.ifCond .ne 5, 3) := by decide +kernel
theorem dX9_mirrorsAll_10 : decode cX9_mirrorsAll 10 = .ok (.iconst (-1), 1) := by decide +kernel
theorem dX9_mirrorsAll_11 : decode cX9_mirrorsAll 11 = .ok (.ireturn, 1) := by decide +kernel
theorem dX9_mirrorsAll_12 : decode cX9_mirrorsAll 12 = .ok (.aload_n 0, 1) := by decide +kernel
theorem dX9_mirrorsAll_13 : decode cX9_mirrorsAll 13 = .ok (.getfield 28, 3) := by decide +kernel
theorem dX9_mirrorsAll_16 : decode cX9_mirrorsAll 16 = .ok (.aload_n 0, 1) := by decide +kernel
theorem dX9_mirrorsAll_17 : decode cX9_mirrorsAll 17 = .ok (.getfield 24, 3) := by decide +kernel
theorem dX9_mirrorsAll_20 : decode cX9_mirrorsAll 20 = .ok (.invokestatic 194, 3) := by decide +kernel
theorem dX9_mirrorsAll_23 : decode cX9_mirrorsAll 23 = .ok (.aload_n 0, 1) := by decide +kernel
theorem dX9_mirrorsAll_24 : decode cX9_mirrorsAll 24 = .ok (.getfield 24, 3) := by decide +kernel
theorem dX9_mirrorsAll_27 : decode cX9_mirrorsAll 27 = .ok (.iload_n 1, 1) := by decide +kernel
theorem dX9_mirrorsAll_28 : decode cX9_mirrorsAll 28 = .ok (.invokestatic 108, 3) := by decide +kernel
theorem dX9_mirrorsAll_31 : decode cX9_mirrorsAll 31 = .ok (.istore_n 2, 1) := by decide +kernel
theorem dX9_mirrorsAll_32 : decode cX9_mirrorsAll 32 = .ok (.iconst 0, 1) := by decide +kernel
theorem dX9_mirrorsAll_33 : decode cX9_mirrorsAll 33 = .ok (.istore_n 3, 1) := by decide +kernel
theorem dX9_mirrorsAll_34 : decode cX9_mirrorsAll 34 = .ok (.iload_n 3, 1) := by decide +kernel
theorem dX9_mirrorsAll_35 : decode cX9_mirrorsAll 35 = .ok (.iload_n 2, 1) := by decide +kernel
theorem dX9_mirrorsAll_36 : decode cX9_mirrorsAll 36 = .ok (.if_icmp .ge 44, 3) := by decide +kernel
theorem dX9_mirrorsAll_39 : decode cX9_mirrorsAll 39 = .ok (.aload_n 0, 1) := by decide +kernel
theorem dX9_mirrorsAll_40 : decode cX9_mirrorsAll 40 = .ok (.getfield 28, 3) := by decide +kernel
theorem dX9_mirrorsAll_43 : decode cX9_mirrorsAll 43 = .ok (.iload_n 1, 1) := by decide +kernel
theorem dX9_mirrorsAll_44 : decode cX9_mirrorsAll 44 = .ok (.iload_n 2, 1) := by decide +kernel
theorem dX9_mirrorsAll_45 : decode cX9_mirrorsAll 45 = .ok (.iconst 1, 1) := by decide +kernel
theorem dX9_mirrorsAll_46 : decode cX9_mirrorsAll 46 = .ok (.isub, 1) := by decide +kernel
theorem dX9_mirrorsAll_47 : decode cX9_mirrorsAll 47 = .ok (.iload_n 3, 1) := by decide +kernel
theorem dX9_mirrorsAll_48 : decode cX9_mirrorsAll 48 = .ok (.isub, 1) := by decide +kernel
theorem dX9_mirrorsAll_49 : decode cX9_mirrorsAll 49 = .ok (.invokestatic 120, 3) := by decide +kernel
theorem dX9_mirrorsAll_52 : decode cX9_mirrorsAll 52 = .ok (.istore 4, 2) := by decide +kernel
theorem dX9_mirrorsAll_54 : decode cX9_mirrorsAll 54 = .ok (.aload_n 0, 1) := by decide +kernel
theorem dX9_mirrorsAll_55 : decode cX9_mirrorsAll 55 = .ok (.getfield 24, 3) := by decide +kernel
theorem dX9_mirrorsAll_58 : decode cX9_mirrorsAll 58 = .ok (.iload_n 1, 1) := by decide +kernel
theorem dX9_mirrorsAll_59 : decode cX9_mirrorsAll 59 = .ok (.iload_n 3, 1) := by decide +kernel
theorem dX9_mirrorsAll_60 : decode cX9_mirrorsAll 60 = .ok (.invokestatic 289, 3) := by decide +kernel
theorem dX9_mirrorsAll_63 : decode cX9_mirrorsAll 63 = .ok (.aload_n 0, 1) := by decide +kernel
theorem dX9_mirrorsAll_64 : decode cX9_mirrorsAll 64 = .ok (.getfield 24, 3) := by decide +kernel
theorem dX9_mirrorsAll_67 : decode cX9_mirrorsAll 67 = .ok (.iload_n 1, 1) := by decide +kernel
theorem dX9_mirrorsAll_68 : decode cX9_mirrorsAll 68 = .ok (.iload_n 3, 1) := by decide +kernel
theorem dX9_mirrorsAll_69 : decode cX9_mirrorsAll 69 = .ok (.iload 4, 2) := by decide +kernel
theorem dX9_mirrorsAll_71 : decode cX9_mirrorsAll 71 = .ok (.invokestatic 296, 3) := by decide +kernel
theorem dX9_mirrorsAll_74 : decode cX9_mirrorsAll 74 = .ok (.iinc 3 1, 3) := by decide +kernel
theorem dX9_mirrorsAll_77 : decode cX9_mirrorsAll 77 = .ok (.goto (-43), 3) := by decide +kernel
theorem dX9_mirrorsAll_80 : decode cX9_mirrorsAll 80 = .ok (.iconst 0, 1) := by decide +kernel
theorem dX9_mirrorsAll_81 : decode cX9_mirrorsAll 81 = .ok (.istore_n 3, 1) := by decide +kernel
theorem dX9_mirrorsAll_82 : decode cX9_mirrorsAll 82 = .ok (.iconst 0, 1) := by decide +kernel
theorem dX9_mirrorsAll_83 : decode cX9_mirrorsAll 83 = .ok (.istore 4, 2) := by decide +kernel
theorem dX9_mirrorsAll_85 : decode cX9_mirrorsAll 85 = .ok (.iload 4, 2) := by decide +kernel
theorem dX9_mirrorsAll_87 : decode cX9_mirrorsAll 87 = .ok (.iload_n 2, 1) := by decide +kernel
theorem dX9_mirrorsAll_88 : decode cX9_mirrorsAll 88 = .ok (.if_icmp .ge 43, 3) := by decide +kernel
theorem dX9_mirrorsAll_91 : decode cX9_mirrorsAll 91 = .ok (.iload_n 3, 1) := by decide +kernel
theorem dX9_mirrorsAll_92 : decode cX9_mirrorsAll 92 = .ok (.aload_n 0, 1) := by decide +kernel
theorem dX9_mirrorsAll_93 : decode cX9_mirrorsAll 93 = .ok (.getfield 24, 3) := by decide +kernel
theorem dX9_mirrorsAll_96 : decode cX9_mirrorsAll 96 = .ok (.iload_n 1, 1) := by decide +kernel
theorem dX9_mirrorsAll_97 : decode cX9_mirrorsAll 97 = .ok (.iload 4, 2) := by decide +kernel
theorem dX9_mirrorsAll_99 : decode cX9_mirrorsAll 99 = .ok (.invokestatic 120, 3) := by decide +kernel
theorem dX9_mirrorsAll_102 : decode cX9_mirrorsAll 102 = .ok (.aload_n 0, 1) := by decide +kernel
theorem dX9_mirrorsAll_103 : decode cX9_mirrorsAll 103 = .ok (.getfield 28, 3) := by decide +kernel
theorem dX9_mirrorsAll_106 : decode cX9_mirrorsAll 106 = .ok (.iload_n 1, 1) := by decide +kernel
theorem dX9_mirrorsAll_107 : decode cX9_mirrorsAll 107 = .ok (.iload 4, 2) := by decide +kernel
theorem dX9_mirrorsAll_109 : decode cX9_mirrorsAll 109 = .ok (.invokestatic 120, 3) := by decide +kernel
theorem dX9_mirrorsAll_112 : decode cX9_mirrorsAll 112 = .ok (.if_icmp .eq 7, 3) := by decide +kernel
theorem dX9_mirrorsAll_115 : decode cX9_mirrorsAll 115 = .ok (.iconst 1, 1) := by decide +kernel
theorem dX9_mirrorsAll_116 : decode cX9_mirrorsAll 116 = .ok (.goto 4, 3) := by decide +kernel
theorem dX9_mirrorsAll_119 : decode cX9_mirrorsAll 119 = .ok (.iconst 0, 1) := by decide +kernel
theorem dX9_mirrorsAll_120 : decode cX9_mirrorsAll 120 = .ok (.invokestatic 116, 3) := by decide +kernel
theorem dX9_mirrorsAll_123 : decode cX9_mirrorsAll 123 = .ok (.iadd, 1) := by decide +kernel
theorem dX9_mirrorsAll_124 : decode cX9_mirrorsAll 124 = .ok (.istore_n 3, 1) := by decide +kernel
theorem dX9_mirrorsAll_125 : decode cX9_mirrorsAll 125 = .ok (.iinc 4 1, 3) := by decide +kernel
theorem dX9_mirrorsAll_128 : decode cX9_mirrorsAll 128 = .ok (.goto (-43), 3) := by decide +kernel
theorem dX9_mirrorsAll_131 : decode cX9_mirrorsAll 131 = .ok (.iload_n 3, 1) := by decide +kernel
theorem dX9_mirrorsAll_132 : decode cX9_mirrorsAll 132 = .ok (.ireturn, 1) := by decide +kernel
theorem dX9_nights_0 : decode cX9_nights 0 = .ok (.aload_n 0, 1) := by decide +kernel
theorem dX9_nights_1 : decode cX9_nights 1 = .ok (.iconst 0, 1) := by decide +kernel
theorem dX9_nights_2 : decode cX9_nights 2 = .ok (.putfield 3, 3) := by decide +kernel
theorem dX9_nights_5 : decode cX9_nights 5 = .ok (.iload_n 1, 1) := by decide +kernel
theorem dX9_nights_6 : decode cX9_nights 6 = .ok (.i2l, 1) := by decide +kernel
theorem dX9_nights_7 : decode cX9_nights 7 = .ok (.lconst 0, 1) := by decide +kernel
theorem dX9_nights_8 : decode cX9_nights 8 = .ok (.ldc2_w 303, 3) := by decide +kernel
theorem dX9_nights_11 : decode cX9_nights 11 = .ok (.invokestatic 104, 3) := by decide +kernel
theorem dX9_nights_14 : decode cX9_nights 14 = .ok (.ifCond .ne 5, 3) := by decide +kernel
theorem dX9_nights_17 : decode cX9_nights 17 = .ok (.iconst (-1), 1) := by decide +kernel
theorem dX9_nights_18 : decode cX9_nights 18 = .ok (.ireturn, 1) := by decide +kernel
theorem dX9_nights_19 : decode cX9_nights 19 = .ok (.aload_n 0, 1) := by decide +kernel
theorem dX9_nights_20 : decode cX9_nights 20 = .ok (.invokevirtual 305, 3) := by decide +kernel
theorem dX9_nights_23 : decode cX9_nights 23 = .ok (.aload_n 0, 1) := by decide +kernel
theorem dX9_nights_24 : decode cX9_nights 24 = .ok (.getfield 24, 3) := by decide +kernel
theorem dX9_nights_27 : decode cX9_nights 27 = .ok (.bipush 6, 2) := by decide +kernel
theorem dX9_nights_29 : decode cX9_nights 29 = .ok (.iaload, 1) := by decide +kernel
theorem dX9_nights_30 : decode cX9_nights 30 = .ok (.istore_n 2, 1) := by decide +kernel
theorem dX9_nights_31 : decode cX9_nights 31 = .ok (.aload_n 0, 1) := by decide +kernel
theorem dX9_nights_32 : decode cX9_nights 32 = .ok (.getfield 24, 3) := by decide +kernel
theorem dX9_nights_35 : decode cX9_nights 35 = .ok (.bipush 7, 2) := by decide +kernel
theorem dX9_nights_37 : decode cX9_nights 37 = .ok (.iaload, 1) := by decide +kernel
theorem dX9_nights_38 : decode cX9_nights 38 = .ok (.istore_n 3, 1) := by decide +kernel
theorem dX9_nights_39 : decode cX9_nights 39 = .ok (.aload_n 0, 1) := by decide +kernel
theorem dX9_nights_40 : decode cX9_nights 40 = .ok (.aload_n 0, 1) := by decide +kernel
theorem dX9_nights_41 : decode cX9_nights 41 = .ok (.getfield 24, 3) := by decide +kernel
theorem dX9_nights_44 : decode cX9_nights 44 = .ok (.iload_n 1, 1) := by decide +kernel
theorem dX9_nights_45 : decode cX9_nights 45 = .ok (.invokevirtual 308, 3) := by decide +kernel
theorem dX9_nights_48 : decode cX9_nights 48 = .ok (.aload_n 0, 1) := by decide +kernel
theorem dX9_nights_49 : decode cX9_nights 49 = .ok (.iconst 0, 1) := by decide +kernel
theorem dX9_nights_50 : decode cX9_nights 50 = .ok (.putfield 15, 3) := by decide +kernel
theorem dX9_nights_53 : decode cX9_nights 53 = .ok (.aload_n 0, 1) := by decide +kernel
theorem dX9_nights_54 : decode cX9_nights 54 = .ok (.iload_n 2, 1) := by decide +kernel
theorem dX9_nights_55 : decode cX9_nights 55 = .ok (.aload_n 0, 1) := by decide +kernel
theorem dX9_nights_56 : decode cX9_nights 56 = .ok (.getfield 24, 3) := by decide +kernel
theorem dX9_nights_59 : decode cX9_nights 59 = .ok (.bipush 6, 2) := by decide +kernel
theorem dX9_nights_61 : decode cX9_nights 61 = .ok (.iaload, 1) := by decide +kernel
theorem dX9_nights_62 : decode cX9_nights 62 = .ok (.isub, 1) := by decide +kernel
theorem dX9_nights_63 : decode cX9_nights 63 = .ok (.i2l, 1) := by decide +kernel
theorem dX9_nights_64 : decode cX9_nights 64 = .ok (.invokevirtual 311, 3) := by decide +kernel
theorem dX9_nights_67 : decode cX9_nights 67 = .ok (.aload_n 0, 1) := by decide +kernel
theorem dX9_nights_68 : decode cX9_nights 68 = .ok (.iload_n 3, 1) := by decide +kernel
theorem dX9_nights_69 : decode cX9_nights 69 = .ok (.aload_n 0, 1) := by decide +kernel
theorem dX9_nights_70 : decode cX9_nights 70 = .ok (.getfield 24, 3) := by decide +kernel
theorem dX9_nights_73 : decode cX9_nights 73 = .ok (.bipush 7, 2) := by decide +kernel
theorem dX9_nights_75 : decode cX9_nights 75 = .ok (.iaload, 1) := by decide +kernel
theorem dX9_nights_76 : decode cX9_nights 76 = .ok (.isub, 1) := by decide +kernel
theorem dX9_nights_77 : decode cX9_nights 77 = .ok (.i2l, 1) := by decide +kernel
theorem dX9_nights_78 : decode cX9_nights 78 = .ok (.invokevirtual 311, 3) := by decide +kernel
theorem dX9_nights_81 : decode cX9_nights 81 = .ok (.aload_n 0, 1) := by decide +kernel
theorem dX9_nights_82 : decode cX9_nights 82 = .ok (.aload_n 0, 1) := by decide +kernel
theorem dX9_nights_83 : decode cX9_nights 83 = .ok (.getfield 24, 3) := by decide +kernel
theorem dX9_nights_86 : decode cX9_nights 86 = .ok (.invokestatic 315, 3) := by decide +kernel
theorem dX9_nights_89 : decode cX9_nights 89 = .ok (.invokevirtual 283, 3) := by decide +kernel
theorem dX9_nights_92 : decode cX9_nights 92 = .ok (.ireturn, 1) := by decide +kernel
theorem dX9_weaves_0 : decode cX9_weaves 0 = .ok (.aload_n 0, 1) := by decide +kernel
theorem dX9_weaves_1 : decode cX9_weaves 1 = .ok (.iconst 0, 1) := by decide +kernel
theorem dX9_weaves_2 : decode cX9_weaves 2 = .ok (.putfield 3, 3) := by decide +kernel
theorem dX9_weaves_5 : decode cX9_weaves 5 = .ok (.aload_n 0, 1) := by decide +kernel
theorem dX9_weaves_6 : decode cX9_weaves 6 = .ok (.invokevirtual 305, 3) := by decide +kernel
theorem dX9_weaves_9 : decode cX9_weaves 9 = .ok (.aload_n 0, 1) := by decide +kernel
theorem dX9_weaves_10 : decode cX9_weaves 10 = .ok (.aload_n 0, 1) := by decide +kernel
theorem dX9_weaves_11 : decode cX9_weaves 11 = .ok (.getfield 24, 3) := by decide +kernel
theorem dX9_weaves_14 : decode cX9_weaves 14 = .ok (.iload_n 1, 1) := by decide +kernel
theorem dX9_weaves_15 : decode cX9_weaves 15 = .ok (.iload_n 2, 1) := by decide +kernel
theorem dX9_weaves_16 : decode cX9_weaves 16 = .ok (.iload_n 3, 1) := by decide +kernel
theorem dX9_weaves_17 : decode cX9_weaves 17 = .ok (.invokestatic 318, 3) := by decide +kernel
theorem dX9_weaves_20 : decode cX9_weaves 20 = .ok (.invokevirtual 322, 3) := by decide +kernel
theorem dX9_weaves_23 : decode cX9_weaves 23 = .ok (.ireturn, 1) := by decide +kernel
theorem dX9_draws_0 : decode cX9_draws 0 = .ok (.aload_n 0, 1) := by decide +kernel
theorem dX9_draws_1 : decode cX9_draws 1 = .ok (.iconst 0, 1) := by decide +kernel
theorem dX9_draws_2 : decode cX9_draws 2 = .ok (.putfield 3, 3) := by decide +kernel
theorem dX9_draws_5 : decode cX9_draws 5 = .ok (.aload_n 0, 1) := by decide +kernel
theorem dX9_draws_6 : decode cX9_draws 6 = .ok (.invokevirtual 305, 3) := by decide +kernel
theorem dX9_draws_9 : decode cX9_draws 9 = .ok (.aload_n 0, 1) := by decide +kernel
theorem dX9_draws_10 : decode cX9_draws 10 = .ok (.aload_n 0, 1) := by decide +kernel
theorem dX9_draws_11 : decode cX9_draws 11 = .ok (.iload_n 1, 1) := by decide +kernel
theorem dX9_draws_12 : decode cX9_draws 12 = .ok (.iload_n 2, 1) := by decide +kernel
theorem dX9_draws_13 : decode cX9_draws 13 = .ok (.invokevirtual 325, 3) := by decide +kernel
theorem dX9_draws_16 : decode cX9_draws 16 = .ok (.invokevirtual 322, 3) := by decide +kernel
theorem dX9_draws_19 : decode cX9_draws 19 = .ok (.ireturn, 1) := by decide +kernel
theorem dX9_flips_0 : decode cX9_flips 0 = .ok (.aload_n 0, 1) := by decide +kernel
theorem dX9_flips_1 : decode cX9_flips 1 = .ok (.iconst 0, 1) := by decide +kernel
theorem dX9_flips_2 : decode cX9_flips 2 = .ok (.putfield 3, 3) := by decide +kernel
theorem dX9_flips_5 : decode cX9_flips 5 = .ok (.aload_n 0, 1) := by decide +kernel
theorem dX9_flips_6 : decode cX9_flips 6 = .ok (.invokevirtual 305, 3) := by decide +kernel
theorem dX9_flips_9 : decode cX9_flips 9 = .ok (.aload_n 0, 1) := by decide +kernel
theorem dX9_flips_10 : decode cX9_flips 10 = .ok (.aload_n 0, 1) := by decide +kernel
theorem dX9_flips_11 : decode cX9_flips 11 = .ok (.getfield 24, 3) := by decide +kernel
theorem dX9_flips_14 : decode cX9_flips 14 = .ok (.iload_n 1, 1) := by decide +kernel
theorem dX9_flips_15 : decode cX9_flips 15 = .ok (.iload_n 2, 1) := by decide +kernel
theorem dX9_flips_16 : decode cX9_flips 16 = .ok (.invokestatic 328, 3) := by decide +kernel
theorem dX9_flips_19 : decode cX9_flips 19 = .ok (.invokevirtual 322, 3) := by decide +kernel
theorem dX9_flips_22 : decode cX9_flips 22 = .ok (.ireturn, 1) := by decide +kernel
theorem dX9_mirrors_0 : decode cX9_mirrors 0 = .ok (.aload_n 0, 1) := by decide +kernel
theorem dX9_mirrors_1 : decode cX9_mirrors 1 = .ok (.iconst 0, 1) := by decide +kernel
theorem dX9_mirrors_2 : decode cX9_mirrors 2 = .ok (.putfield 3, 3) := by decide +kernel
theorem dX9_mirrors_5 : decode cX9_mirrors 5 = .ok (.aload_n 0, 1) := by decide +kernel
theorem dX9_mirrors_6 : decode cX9_mirrors 6 = .ok (.invokevirtual 305, 3) := by decide +kernel
theorem dX9_mirrors_9 : decode cX9_mirrors 9 = .ok (.aload_n 0, 1) := by decide +kernel
theorem dX9_mirrors_10 : decode cX9_mirrors 10 = .ok (.aload_n 0, 1) := by decide +kernel
theorem dX9_mirrors_11 : decode cX9_mirrors 11 = .ok (.iload_n 1, 1) := by decide +kernel
theorem dX9_mirrors_12 : decode cX9_mirrors 12 = .ok (.invokevirtual 331, 3) := by decide +kernel
theorem dX9_mirrors_15 : decode cX9_mirrors 15 = .ok (.invokevirtual 322, 3) := by decide +kernel
theorem dX9_mirrors_18 : decode cX9_mirrors 18 = .ok (.ireturn, 1) := by decide +kernel
theorem dX9_readsAct_0 : decode cX9_readsAct 0 = .ok (.aload_n 0, 1) := by decide +kernel
theorem dX9_readsAct_1 : decode cX9_readsAct 1 = .ok (.getfield 334, 3) := by decide +kernel
theorem dX9_readsAct_4 : decode cX9_readsAct 4 = .ok (.istore_n 1, 1) := by decide +kernel
theorem dX9_readsAct_5 : decode cX9_readsAct 5 = .ok (.aload_n 0, 1) := by decide +kernel
theorem dX9_readsAct_6 : decode cX9_readsAct 6 = .ok (.getfield 52, 3) := by decide +kernel
theorem dX9_readsAct_9 : decode cX9_readsAct 9 = .ok (.iload_n 1, 1) := by decide +kernel
theorem dX9_readsAct_10 : decode cX9_readsAct 10 = .ok (.aload_n 0, 1) := by decide +kernel
theorem dX9_readsAct_11 : decode cX9_readsAct 11 = .ok (.ldc_w 337, 3) := by decide +kernel
theorem dX9_readsAct_14 : decode cX9_readsAct 14 = .ok (.invokevirtual 187, 3) := by decide +kernel
theorem dX9_readsAct_17 : decode cX9_readsAct 17 = .ok (.iastore, 1) := by decide +kernel
theorem dX9_readsAct_18 : decode cX9_readsAct 18 = .ok (.aload_n 0, 1) := by decide +kernel
theorem dX9_readsAct_19 : decode cX9_readsAct 19 = .ok (.dup, 1) := by decide +kernel
theorem dX9_readsAct_20 : decode cX9_readsAct 20 = .ok (.getfield 334, 3) := by decide +kernel
theorem dX9_readsAct_23 : decode cX9_readsAct 23 = .ok (.iconst 1, 1) := by decide +kernel
theorem dX9_readsAct_24 : decode cX9_readsAct 24 = .ok (.iadd, 1) := by decide +kernel
theorem dX9_readsAct_25 : decode cX9_readsAct 25 = .ok (.putfield 334, 3) := by decide +kernel
theorem dX9_readsAct_28 : decode cX9_readsAct 28 = .ok (.aload_n 0, 1) := by decide +kernel
theorem dX9_readsAct_29 : decode cX9_readsAct 29 = .ok (.getfield 52, 3) := by decide +kernel
theorem dX9_readsAct_32 : decode cX9_readsAct 32 = .ok (.iload_n 1, 1) := by decide +kernel
theorem dX9_readsAct_33 : decode cX9_readsAct 33 = .ok (.iaload, 1) := by decide +kernel
theorem dX9_readsAct_34 : decode cX9_readsAct 34 = .ok (.ifCond .ge 5, 3) := by decide +kernel
theorem dX9_readsAct_37 : decode cX9_readsAct 37 = .ok (.iconst 0, 1) := by decide +kernel
theorem dX9_readsAct_38 : decode cX9_readsAct 38 = .ok (.ireturn, 1) := by decide +kernel
theorem dX9_readsAct_39 : decode cX9_readsAct 39 = .ok (.aload_n 0, 1) := by decide +kernel
theorem dX9_readsAct_40 : decode cX9_readsAct 40 = .ok (.getfield 52, 3) := by decide +kernel
theorem dX9_readsAct_43 : decode cX9_readsAct 43 = .ok (.iload_n 1, 1) := by decide +kernel
theorem dX9_readsAct_44 : decode cX9_readsAct 44 = .ok (.iaload, 1) := by decide +kernel
theorem dX9_readsAct_45 : decode cX9_readsAct 45 = .ok (.iconst 1, 1) := by decide +kernel
theorem dX9_readsAct_46 : decode cX9_readsAct 46 = .ok (.if_icmp .eq 23, 3) := by decide +kernel
theorem dX9_readsAct_49 : decode cX9_readsAct 49 = .ok (.aload_n 0, 1) := by decide +kernel
theorem dX9_readsAct_50 : decode cX9_readsAct 50 = .ok (.getfield 52, 3) := by decide +kernel
theorem dX9_readsAct_53 : decode cX9_readsAct 53 = .ok (.iload_n 1, 1) := by decide +kernel
theorem dX9_readsAct_54 : decode cX9_readsAct 54 = .ok (.iaload, 1) := by decide +kernel
theorem dX9_readsAct_55 : decode cX9_readsAct 55 = .ok (.iconst 2, 1) := by decide +kernel
theorem dX9_readsAct_56 : decode cX9_readsAct 56 = .ok (.if_icmp .eq 13, 3) := by decide +kernel
theorem dX9_readsAct_59 : decode cX9_readsAct 59 = .ok (.aload_n 0, 1) := by decide +kernel
theorem dX9_readsAct_60 : decode cX9_readsAct 60 = .ok (.getfield 52, 3) := by decide +kernel
theorem dX9_readsAct_63 : decode cX9_readsAct 63 = .ok (.iload_n 1, 1) := by decide +kernel
theorem dX9_readsAct_64 : decode cX9_readsAct 64 = .ok (.iaload, 1) := by decide +kernel
theorem dX9_readsAct_65 : decode cX9_readsAct 65 = .ok (.iconst 4, 1) := by decide +kernel
theorem dX9_readsAct_66 : decode cX9_readsAct 66 = .ok (.if_icmp .ne 7, 3) := by decide +kernel
theorem dX9_readsAct_69 : decode cX9_readsAct 69 = .ok (.iconst 1, 1) := by decide +kernel
theorem dX9_readsAct_70 : decode cX9_readsAct 70 = .ok (.goto 4, 3) := by decide +kernel
theorem dX9_readsAct_73 : decode cX9_readsAct 73 = .ok (.iconst 0, 1) := by decide +kernel
theorem dX9_readsAct_74 : decode cX9_readsAct 74 = .ok (.istore_n 2, 1) := by decide +kernel
theorem dX9_readsAct_75 : decode cX9_readsAct 75 = .ok (.aload_n 0, 1) := by decide +kernel
theorem dX9_readsAct_76 : decode cX9_readsAct 76 = .ok (.getfield 55, 3) := by decide +kernel
theorem dX9_readsAct_79 : decode cX9_readsAct 79 = .ok (.iload_n 1, 1) := by decide +kernel
theorem dX9_readsAct_80 : decode cX9_readsAct 80 = .ok (.aload_n 0, 1) := by decide +kernel
theorem dX9_readsAct_81 : decode cX9_readsAct 81 = .ok (.iconst 0, 1) := by decide +kernel
theorem dX9_readsAct_82 : decode cX9_readsAct 82 = .ok (.iload_n 2, 1) := by decide +kernel
theorem dX9_readsAct_83 : decode cX9_readsAct 83 = .ok (.ifCond .eq 7, 3) := by decide +kernel
theorem dX9_readsAct_86 : decode cX9_readsAct 86 = .ok (.iconst 1, 1) := by decide +kernel
theorem dX9_readsAct_87 : decode cX9_readsAct 87 = .ok (.goto 5, 3) := by decide +kernel
theorem dX9_readsAct_90 : decode cX9_readsAct 90 = .ok (.bipush 9, 2) := by decide +kernel
theorem dX9_readsAct_92 : decode cX9_readsAct 92 = .ok (.invokevirtual 182, 3) := by decide +kernel
theorem dX9_readsAct_95 : decode cX9_readsAct 95 = .ok (.iastore, 1) := by decide +kernel
theorem dX9_readsAct_96 : decode cX9_readsAct 96 = .ok (.aload_n 0, 1) := by decide +kernel
theorem dX9_readsAct_97 : decode cX9_readsAct 97 = .ok (.getfield 55, 3) := by decide +kernel
theorem dX9_readsAct_100 : decode cX9_readsAct 100 = .ok (.iload_n 1, 1) := by decide +kernel
theorem dX9_readsAct_101 : decode cX9_readsAct 101 = .ok (.iaload, 1) := by decide +kernel
theorem dX9_readsAct_102 : decode cX9_readsAct 102 = .ok (.ifCond .lt 13, 3) := by decide +kernel
theorem dX9_readsAct_105 : decode cX9_readsAct 105 = .ok (.aload_n 0, 1) := by decide +kernel
theorem dX9_readsAct_106 : decode cX9_readsAct 106 = .ok (.getfield 52, 3) := by decide +kernel
theorem dX9_readsAct_109 : decode cX9_readsAct 109 = .ok (.iload_n 1, 1) := by decide +kernel
theorem dX9_readsAct_110 : decode cX9_readsAct 110 = .ok (.iaload, 1) := by decide +kernel
theorem dX9_readsAct_111 : decode cX9_readsAct 111 = .ok (.iconst 2, 1) := by decide +kernel
theorem dX9_readsAct_112 : decode cX9_readsAct 112 = .ok (.if_icmp .ge 18, 3) := by decide +kernel
theorem dX9_readsAct_115 : decode cX9_readsAct 115 = .ok (.aload_n 0, 1) := by decide +kernel
theorem dX9_readsAct_116 : decode cX9_readsAct 116 = .ok (.getfield 55, 3) := by decide +kernel
theorem dX9_readsAct_119 : decode cX9_readsAct 119 = .ok (.iload_n 1, 1) := by decide +kernel
theorem dX9_readsAct_120 : decode cX9_readsAct 120 = .ok (.iaload, 1) := by decide +kernel
theorem dX9_readsAct_121 : decode cX9_readsAct 121 = .ok (.ifCond .lt 7, 3) := by decide +kernel
theorem dX9_readsAct_124 : decode cX9_readsAct 124 = .ok (.iconst 1, 1) := by decide +kernel
theorem dX9_readsAct_125 : decode cX9_readsAct 125 = .ok (.goto 4, 3) := by decide +kernel
theorem dX9_readsAct_128 : decode cX9_readsAct 128 = .ok (.iconst 0, 1) := by decide +kernel
theorem dX9_readsAct_129 : decode cX9_readsAct 129 = .ok (.ireturn, 1) := by decide +kernel
theorem dX9_readsAct_130 : decode cX9_readsAct 130 = .ok (.aload_n 0, 1) := by decide +kernel
theorem dX9_readsAct_131 : decode cX9_readsAct 131 = .ok (.getfield 58, 3) := by decide +kernel
theorem dX9_readsAct_134 : decode cX9_readsAct 134 = .ok (.iload_n 1, 1) := by decide +kernel
theorem dX9_readsAct_135 : decode cX9_readsAct 135 = .ok (.aload_n 0, 1) := by decide +kernel
theorem dX9_readsAct_136 : decode cX9_readsAct 136 = .ok (.iconst 1, 1) := by decide +kernel
theorem dX9_readsAct_137 : decode cX9_readsAct 137 = .ok (.invokevirtual 218, 3) := by decide +kernel
theorem dX9_readsAct_140 : decode cX9_readsAct 140 = .ok (.iastore, 1) := by decide +kernel
theorem dX9_readsAct_141 : decode cX9_readsAct 141 = .ok (.aload_n 0, 1) := by decide +kernel
theorem dX9_readsAct_142 : decode cX9_readsAct 142 = .ok (.getfield 58, 3) := by decide +kernel
theorem dX9_readsAct_145 : decode cX9_readsAct 145 = .ok (.iload_n 1, 1) := by decide +kernel
theorem dX9_readsAct_146 : decode cX9_readsAct 146 = .ok (.iaload, 1) := by decide +kernel
theorem dX9_readsAct_147 : decode cX9_readsAct 147 = .ok (.ifCond .lt 13, 3) := by decide +kernel
theorem dX9_readsAct_150 : decode cX9_readsAct 150 = .ok (.aload_n 0, 1) := by decide +kernel
theorem dX9_readsAct_151 : decode cX9_readsAct 151 = .ok (.getfield 52, 3) := by decide +kernel
theorem dX9_readsAct_154 : decode cX9_readsAct 154 = .ok (.iload_n 1, 1) := by decide +kernel
theorem dX9_readsAct_155 : decode cX9_readsAct 155 = .ok (.iaload, 1) := by decide +kernel
theorem dX9_readsAct_156 : decode cX9_readsAct 156 = .ok (.iconst 4, 1) := by decide +kernel
theorem dX9_readsAct_157 : decode cX9_readsAct 157 = .ok (.if_icmp .ge 18, 3) := by decide +kernel
theorem dX9_readsAct_160 : decode cX9_readsAct 160 = .ok (.aload_n 0, 1) := by decide +kernel
theorem dX9_readsAct_161 : decode cX9_readsAct 161 = .ok (.getfield 58, 3) := by decide +kernel
theorem dX9_readsAct_164 : decode cX9_readsAct 164 = .ok (.iload_n 1, 1) := by decide +kernel
theorem dX9_readsAct_165 : decode cX9_readsAct 165 = .ok (.iaload, 1) := by decide +kernel
theorem dX9_readsAct_166 : decode cX9_readsAct 166 = .ok (.ifCond .lt 7, 3) := by decide +kernel
theorem dX9_readsAct_169 : decode cX9_readsAct 169 = .ok (.iconst 1, 1) := by decide +kernel
theorem dX9_readsAct_170 : decode cX9_readsAct 170 = .ok (.goto 4, 3) := by decide +kernel
theorem dX9_readsAct_173 : decode cX9_readsAct 173 = .ok (.iconst 0, 1) := by decide +kernel
theorem dX9_readsAct_174 : decode cX9_readsAct 174 = .ok (.ireturn, 1) := by decide +kernel
theorem dX9_readsAct_175 : decode cX9_readsAct 175 = .ok (.aload_n 0, 1) := by decide +kernel
theorem dX9_readsAct_176 : decode cX9_readsAct 176 = .ok (.iconst 1, 1) := by decide +kernel
theorem dX9_readsAct_177 : decode cX9_readsAct 177 = .ok (.invokevirtual 218, 3) := by decide +kernel
theorem dX9_readsAct_180 : decode cX9_readsAct 180 = .ok (.istore_n 3, 1) := by decide +kernel
theorem dX9_readsAct_181 : decode cX9_readsAct 181 = .ok (.iload_n 3, 1) := by decide +kernel
theorem dX9_readsAct_182 : decode cX9_readsAct 182 = .ok (.ifCond .ge 7, 3) := by decide +kernel
theorem dX9_readsAct_185 : decode cX9_readsAct 185 = .ok (.iconst (-1), 1) := by decide +kernel
theorem dX9_readsAct_186 : decode cX9_readsAct 186 = .ok (.goto 8, 3) := by decide +kernel
theorem dX9_readsAct_189 : decode cX9_readsAct 189 = .ok (.aload_n 0, 1) := by decide +kernel
theorem dX9_readsAct_190 : decode cX9_readsAct 190 = .ok (.iconst 1, 1) := by decide +kernel
theorem dX9_readsAct_191 : decode cX9_readsAct 191 = .ok (.invokevirtual 218, 3) := by decide +kernel
theorem dX9_readsAct_194 : decode cX9_readsAct 194 = .ok (.istore 4, 2) := by decide +kernel
theorem dX9_readsAct_196 : decode cX9_readsAct 196 = .ok (.aload_n 0, 1) := by decide +kernel
theorem dX9_readsAct_197 : decode cX9_readsAct 197 = .ok (.getfield 61, 3) := by decide +kernel
theorem dX9_readsAct_200 : decode cX9_readsAct 200 = .ok (.iload_n 1, 1) := by decide +kernel
theorem dX9_readsAct_201 : decode cX9_readsAct 201 = .ok (.bipush 10, 2) := by decide +kernel
theorem dX9_readsAct_203 : decode cX9_readsAct 203 = .ok (.iload_n 3, 1) := by decide +kernel
theorem dX9_readsAct_204 : decode cX9_readsAct 204 = .ok (.imul, 1) := by decide +kernel
theorem dX9_readsAct_205 : decode cX9_readsAct 205 = .ok (.iload 4, 2) := by decide +kernel
theorem dX9_readsAct_207 : decode cX9_readsAct 207 = .ok (.iadd, 1) := by decide +kernel
theorem dX9_readsAct_208 : decode cX9_readsAct 208 = .ok (.iastore, 1) := by decide +kernel
theorem dX9_readsAct_209 : decode cX9_readsAct 209 = .ok (.iload 4, 2) := by decide +kernel
theorem dX9_readsAct_211 : decode cX9_readsAct 211 = .ok (.ifCond .lt 7, 3) := by decide +kernel
theorem dX9_readsAct_214 : decode cX9_readsAct 214 = .ok (.iconst 1, 1) := by decide +kernel
theorem dX9_readsAct_215 : decode cX9_readsAct 215 = .ok (.goto 4, 3) := by decide +kernel
theorem dX9_readsAct_218 : decode cX9_readsAct 218 = .ok (.iconst 0, 1) := by decide +kernel
theorem dX9_readsAct_219 : decode cX9_readsAct 219 = .ok (.ireturn, 1) := by decide +kernel
theorem dX9_does_0 : decode cX9_does 0 = .ok (.aload_n 0, 1) := by decide +kernel
theorem dX9_does_1 : decode cX9_does 1 = .ok (.getfield 55, 3) := by decide +kernel
theorem dX9_does_4 : decode cX9_does 4 = .ok (.iload_n 1, 1) := by decide +kernel
theorem dX9_does_5 : decode cX9_does 5 = .ok (.iaload, 1) := by decide +kernel
theorem dX9_does_6 : decode cX9_does 6 = .ok (.istore_n 2, 1) := by decide +kernel
theorem dX9_does_7 : decode cX9_does 7 = .ok (.aload_n 0, 1) := by decide +kernel
theorem dX9_does_8 : decode cX9_does 8 = .ok (.getfield 52, 3) := by decide +kernel
theorem dX9_does_11 : decode cX9_does 11 = .ok (.iload_n 1, 1) := by decide +kernel
theorem dX9_does_12 : decode cX9_does 12 = .ok (.iaload, 1) := by decide +kernel
theorem dX9_does_13 : decode cX9_does 13 = .ok (.tableswitch 99 0 3 #[31, 42, 56, 76], 31) := by decide +kernel
theorem dX9_does_44 : decode cX9_does 44 = .ok (.aload_n 0, 1) := by decide +kernel
theorem dX9_does_45 : decode cX9_does 45 = .ok (.aload_n 0, 1) := by decide +kernel
theorem dX9_does_46 : decode cX9_does 46 = .ok (.getfield 24, 3) := by decide +kernel
theorem dX9_does_49 : decode cX9_does 49 = .ok (.iload_n 2, 1) := by decide +kernel
theorem dX9_does_50 : decode cX9_does 50 = .ok (.invokevirtual 308, 3) := by decide +kernel
theorem dX9_does_53 : decode cX9_does 53 = .ok (.iconst 1, 1) := by decide +kernel
theorem dX9_does_54 : decode cX9_does 54 = .ok (.ireturn, 1) := by decide +kernel
theorem dX9_does_55 : decode cX9_does 55 = .ok (.aload_n 0, 1) := by decide +kernel
theorem dX9_does_56 : decode cX9_does 56 = .ok (.iload_n 2, 1) := by decide +kernel
theorem dX9_does_57 : decode cX9_does 57 = .ok (.invokevirtual 331, 3) := by decide +kernel
theorem dX9_does_60 : decode cX9_does 60 = .ok (.ifCond .lt 7, 3) := by decide +kernel
theorem dX9_does_63 : decode cX9_does 63 = .ok (.iconst 1, 1) := by decide +kernel
theorem dX9_does_64 : decode cX9_does 64 = .ok (.goto 4, 3) := by decide +kernel
theorem dX9_does_67 : decode cX9_does 67 = .ok (.iconst 0, 1) := by decide +kernel
theorem dX9_does_68 : decode cX9_does 68 = .ok (.ireturn, 1) := by decide +kernel
theorem dX9_does_69 : decode cX9_does 69 = .ok (.aload_n 0, 1) := by decide +kernel
theorem dX9_does_70 : decode cX9_does 70 = .ok (.iload_n 2, 1) := by decide +kernel
theorem dX9_does_71 : decode cX9_does 71 = .ok (.aload_n 0, 1) := by decide +kernel
theorem dX9_does_72 : decode cX9_does 72 = .ok (.getfield 58, 3) := by decide +kernel
theorem dX9_does_75 : decode cX9_does 75 = .ok (.iload_n 1, 1) := by decide +kernel
theorem dX9_does_76 : decode cX9_does 76 = .ok (.iaload, 1) := by decide +kernel
theorem dX9_does_77 : decode cX9_does 77 = .ok (.invokevirtual 325, 3) := by decide +kernel
theorem dX9_does_80 : decode cX9_does 80 = .ok (.ifCond .lt 7, 3) := by decide +kernel
theorem dX9_does_83 : decode cX9_does 83 = .ok (.iconst 1, 1) := by decide +kernel
theorem dX9_does_84 : decode cX9_does 84 = .ok (.goto 4, 3) := by decide +kernel
theorem dX9_does_87 : decode cX9_does 87 = .ok (.iconst 0, 1) := by decide +kernel
theorem dX9_does_88 : decode cX9_does 88 = .ok (.ireturn, 1) := by decide +kernel
theorem dX9_does_89 : decode cX9_does 89 = .ok (.aload_n 0, 1) := by decide +kernel
theorem dX9_does_90 : decode cX9_does 90 = .ok (.getfield 24, 3) := by decide +kernel
theorem dX9_does_93 : decode cX9_does 93 = .ok (.iload_n 2, 1) := by decide +kernel
theorem dX9_does_94 : decode cX9_does 94 = .ok (.aload_n 0, 1) := by decide +kernel
theorem dX9_does_95 : decode cX9_does 95 = .ok (.getfield 58, 3) := by decide +kernel
theorem dX9_does_98 : decode cX9_does 98 = .ok (.iload_n 1, 1) := by decide +kernel
theorem dX9_does_99 : decode cX9_does 99 = .ok (.iaload, 1) := by decide +kernel
theorem dX9_does_100 : decode cX9_does 100 = .ok (.invokestatic 328, 3) := by decide +kernel
theorem dX9_does_103 : decode cX9_does 103 = .ok (.ifCond .lt 7, 3) := by decide +kernel
theorem dX9_does_106 : decode cX9_does 106 = .ok (.iconst 1, 1) := by decide +kernel
theorem dX9_does_107 : decode cX9_does 107 = .ok (.goto 4, 3) := by decide +kernel
theorem dX9_does_110 : decode cX9_does 110 = .ok (.iconst 0, 1) := by decide +kernel
theorem dX9_does_111 : decode cX9_does 111 = .ok (.ireturn, 1) := by decide +kernel
theorem dX9_does_112 : decode cX9_does 112 = .ok (.aload_n 0, 1) := by decide +kernel
theorem dX9_does_113 : decode cX9_does 113 = .ok (.getfield 24, 3) := by decide +kernel
theorem dX9_does_116 : decode cX9_does 116 = .ok (.iload_n 2, 1) := by decide +kernel
theorem dX9_does_117 : decode cX9_does 117 = .ok (.aload_n 0, 1) := by decide +kernel
theorem dX9_does_118 : decode cX9_does 118 = .ok (.getfield 58, 3) := by decide +kernel
theorem dX9_does_121 : decode cX9_does 121 = .ok (.iload_n 1, 1) := by decide +kernel
theorem dX9_does_122 : decode cX9_does 122 = .ok (.iaload, 1) := by decide +kernel
theorem dX9_does_123 : decode cX9_does 123 = .ok (.aload_n 0, 1) := by decide +kernel
theorem dX9_does_124 : decode cX9_does 124 = .ok (.getfield 61, 3) := by decide +kernel
theorem dX9_does_127 : decode cX9_does 127 = .ok (.iload_n 1, 1) := by decide +kernel
theorem dX9_does_128 : decode cX9_does 128 = .ok (.iaload, 1) := by decide +kernel
theorem dX9_does_129 : decode cX9_does 129 = .ok (.invokestatic 318, 3) := by decide +kernel
theorem dX9_does_132 : decode cX9_does 132 = .ok (.ifCond .lt 7, 3) := by decide +kernel
theorem dX9_does_135 : decode cX9_does 135 = .ok (.iconst 1, 1) := by decide +kernel
theorem dX9_does_136 : decode cX9_does 136 = .ok (.goto 4, 3) := by decide +kernel
theorem dX9_does_139 : decode cX9_does 139 = .ok (.iconst 0, 1) := by decide +kernel
theorem dX9_does_140 : decode cX9_does 140 = .ok (.ireturn, 1) := by decide +kernel
theorem dX9_work_0 : decode cX9_work 0 = .ok (.aload_n 0, 1) := by decide +kernel
theorem dX9_work_1 : decode cX9_work 1 = .ok (.iconst 0, 1) := by decide +kernel
theorem dX9_work_2 : decode cX9_work 2 = .ok (.putfield 3, 3) := by decide +kernel
theorem dX9_work_5 : decode cX9_work 5 = .ok (.aload_n 0, 1) := by decide +kernel
theorem dX9_work_6 : decode cX9_work 6 = .ok (.bipush 60, 2) := by decide +kernel
theorem dX9_work_8 : decode cX9_work 8 = .ok (.invokevirtual 179, 3) := by decide +kernel
theorem dX9_work_11 : decode cX9_work 11 = .ok (.istore_n 1, 1) := by decide +kernel
theorem dX9_work_12 : decode cX9_work 12 = .ok (.aload_n 0, 1) := by decide +kernel
theorem dX9_work_13 : decode cX9_work 13 = .ok (.iconst 0, 1) := by decide +kernel
theorem dX9_work_14 : decode cX9_work 14 = .ok (.putfield 334, 3) := by decide +kernel
theorem dX9_work_17 : decode cX9_work 17 = .ok (.iconst 1, 1) := by decide +kernel
theorem dX9_work_18 : decode cX9_work 18 = .ok (.istore_n 2, 1) := by decide +kernel
theorem dX9_work_19 : decode cX9_work 19 = .ok (.iload_n 2, 1) := by decide +kernel
theorem dX9_work_20 : decode cX9_work 20 = .ok (.ifCond .eq 22, 3) := by decide +kernel
theorem dX9_work_23 : decode cX9_work 23 = .ok (.aload_n 0, 1) := by decide +kernel
theorem dX9_work_24 : decode cX9_work 24 = .ok (.getfield 147, 3) := by decide +kernel
theorem dX9_work_27 : decode cX9_work 27 = .ok (.aload_n 0, 1) := by decide +kernel
theorem dX9_work_28 : decode cX9_work 28 = .ok (.getfield 158, 3) := by decide +kernel
theorem dX9_work_31 : decode cX9_work 31 = .ok (.if_icmp .ge 11, 3) := by decide +kernel
theorem dX9_work_34 : decode cX9_work 34 = .ok (.aload_n 0, 1) := by decide +kernel
theorem dX9_work_35 : decode cX9_work 35 = .ok (.invokevirtual 339, 3) := by decide +kernel
theorem dX9_work_38 : decode cX9_work 38 = .ok (.istore_n 2, 1) := by decide +kernel
theorem dX9_work_39 : decode cX9_work 39 = .ok (.goto (-20), 3) := by decide +kernel
theorem dX9_work_42 : decode cX9_work 42 = .ok (.aload_n 0, 1) := by decide +kernel
theorem dX9_work_43 : decode cX9_work 43 = .ok (.iload_n 1, 1) := by decide +kernel
theorem dX9_work_44 : decode cX9_work 44 = .ok (.bipush 60, 2) := by decide +kernel
theorem dX9_work_46 : decode cX9_work 46 = .ok (.iload_n 2, 1) := by decide +kernel
theorem dX9_work_47 : decode cX9_work 47 = .ok (.invokevirtual 232, 3) := by decide +kernel
theorem dX9_work_50 : decode cX9_work 50 = .ok (.istore_n 3, 1) := by decide +kernel
theorem dX9_work_51 : decode cX9_work 51 = .ok (.iload_n 3, 1) := by decide +kernel
theorem dX9_work_52 : decode cX9_work 52 = .ok (.ifCond .ge 5, 3) := by decide +kernel
theorem dX9_work_55 : decode cX9_work 55 = .ok (.iload_n 3, 1) := by decide +kernel
theorem dX9_work_56 : decode cX9_work 56 = .ok (.ireturn, 1) := by decide +kernel
theorem dX9_work_57 : decode cX9_work 57 = .ok (.aload_n 0, 1) := by decide +kernel
theorem dX9_work_58 : decode cX9_work 58 = .ok (.invokevirtual 305, 3) := by decide +kernel
theorem dX9_work_61 : decode cX9_work 61 = .ok (.iconst 0, 1) := by decide +kernel
theorem dX9_work_62 : decode cX9_work 62 = .ok (.istore 4, 2) := by decide +kernel
theorem dX9_work_64 : decode cX9_work 64 = .ok (.iload 4, 2) := by decide +kernel
theorem dX9_work_66 : decode cX9_work 66 = .ok (.aload_n 0, 1) := by decide +kernel
theorem dX9_work_67 : decode cX9_work 67 = .ok (.getfield 334, 3) := by decide +kernel
theorem dX9_work_70 : decode cX9_work 70 = .ok (.if_icmp .ge 18, 3) := by decide +kernel
theorem dX9_work_73 : decode cX9_work 73 = .ok (.aload_n 0, 1) := by decide +kernel
theorem dX9_work_74 : decode cX9_work 74 = .ok (.iload 4, 2) := by decide +kernel
theorem dX9_work_76 : decode cX9_work 76 = .ok (.invokevirtual 342, 3) := by decide +kernel
theorem dX9_work_79 : decode cX9_work 79 = .ok (.ifCond .eq 9, 3) := by decide +kernel
theorem dX9_work_82 : decode cX9_work 82 = .ok (.iinc 4 1, 3) := by decide +kernel
theorem dX9_work_85 : decode cX9_work 85 = .ok (.goto (-21), 3) := by decide +kernel
theorem dX9_work_88 : decode cX9_work 88 = .ok (.aload_n 0, 1) := by decide +kernel
theorem dX9_work_89 : decode cX9_work 89 = .ok (.iconst 0, 1) := by decide +kernel
theorem dX9_work_90 : decode cX9_work 90 = .ok (.putfield 15, 3) := by decide +kernel
theorem dX9_work_93 : decode cX9_work 93 = .ok (.aload_n 0, 1) := by decide +kernel
theorem dX9_work_94 : decode cX9_work 94 = .ok (.iload 4, 2) := by decide +kernel
theorem dX9_work_96 : decode cX9_work 96 = .ok (.aload_n 0, 1) := by decide +kernel
theorem dX9_work_97 : decode cX9_work 97 = .ok (.getfield 334, 3) := by decide +kernel
theorem dX9_work_100 : decode cX9_work 100 = .ok (.if_icmp .ge 7, 3) := by decide +kernel
theorem dX9_work_103 : decode cX9_work 103 = .ok (.iconst 1, 1) := by decide +kernel
theorem dX9_work_104 : decode cX9_work 104 = .ok (.goto 4, 3) := by decide +kernel
theorem dX9_work_107 : decode cX9_work 107 = .ok (.iconst 0, 1) := by decide +kernel
theorem dX9_work_108 : decode cX9_work 108 = .ok (.invokestatic 116, 3) := by decide +kernel
theorem dX9_work_111 : decode cX9_work 111 = .ok (.i2l, 1) := by decide +kernel
theorem dX9_work_112 : decode cX9_work 112 = .ok (.invokevirtual 311, 3) := by decide +kernel
theorem dX9_work_115 : decode cX9_work 115 = .ok (.aload_n 0, 1) := by decide +kernel
theorem dX9_work_116 : decode cX9_work 116 = .ok (.aload_n 0, 1) := by decide +kernel
theorem dX9_work_117 : decode cX9_work 117 = .ok (.getfield 24, 3) := by decide +kernel
theorem dX9_work_120 : decode cX9_work 120 = .ok (.invokestatic 315, 3) := by decide +kernel
theorem dX9_work_123 : decode cX9_work 123 = .ok (.i2l, 1) := by decide +kernel
theorem dX9_work_124 : decode cX9_work 124 = .ok (.invokevirtual 311, 3) := by decide +kernel
theorem dX9_work_127 : decode cX9_work 127 = .ok (.iload 4, 2) := by decide +kernel
theorem dX9_work_129 : decode cX9_work 129 = .ok (.ifCond .le 12, 3) := by decide +kernel
theorem dX9_work_132 : decode cX9_work 132 = .ok (.aload_n 0, 1) := by decide +kernel
theorem dX9_work_133 : decode cX9_work 133 = .ok (.iload 4, 2) := by decide +kernel
theorem dX9_work_135 : decode cX9_work 135 = .ok (.invokevirtual 283, 3) := by decide +kernel
theorem dX9_work_138 : decode cX9_work 138 = .ok (.goto 4, 3) := by decide +kernel
theorem dX9_work_141 : decode cX9_work 141 = .ok (.iconst 0, 1) := by decide +kernel
theorem dX9_work_142 : decode cX9_work 142 = .ok (.ireturn, 1) := by decide +kernel
theorem dX9_allOf_0 : decode cX9_allOf 0 = .ok (.aload_n 0, 1) := by decide +kernel
theorem dX9_allOf_1 : decode cX9_allOf 1 = .ok (.bipush 6, 2) := by decide +kernel
theorem dX9_allOf_3 : decode cX9_allOf 3 = .ok (.iaload, 1) := by decide +kernel
theorem dX9_allOf_4 : decode cX9_allOf 4 = .ok (.invokestatic 127, 3) := by decide +kernel
theorem dX9_allOf_7 : decode cX9_allOf 7 = .ok (.aload_n 0, 1) := by decide +kernel
theorem dX9_allOf_8 : decode cX9_allOf 8 = .ok (.bipush 7, 2) := by decide +kernel
theorem dX9_allOf_10 : decode cX9_allOf 10 = .ok (.iaload, 1) := by decide +kernel
theorem dX9_allOf_11 : decode cX9_allOf 11 = .ok (.invokestatic 127, 3) := by decide +kernel
theorem dX9_allOf_14 : decode cX9_allOf 14 = .ok (.bipush 6, 2) := by decide +kernel
theorem dX9_allOf_16 : decode cX9_allOf 16 = .ok (.ishl, 1) := by decide +kernel
theorem dX9_allOf_17 : decode cX9_allOf 17 = .ok (.ior, 1) := by decide +kernel
theorem dX9_allOf_18 : decode cX9_allOf 18 = .ok (.ireturn, 1) := by decide +kernel
theorem dX9_laysAbove_0 : decode cX9_laysAbove 0 = .ok (.iconst 0, 1) := by decide +kernel
theorem dX9_laysAbove_1 : decode cX9_laysAbove 1 = .ok (.istore_n 2, 1) := by decide +kernel
theorem dX9_laysAbove_2 : decode cX9_laysAbove 2 = .ok (.iload_n 2, 1) := by decide +kernel
theorem dX9_laysAbove_3 : decode cX9_laysAbove 3 = .ok (.bipush 12, 2) := by decide +kernel
theorem dX9_laysAbove_5 : decode cX9_laysAbove 5 = .ok (.if_icmp .ge 23, 3) := by decide +kernel
theorem dX9_laysAbove_8 : decode cX9_laysAbove 8 = .ok (.aload_n 0, 1) := by decide +kernel
theorem dX9_laysAbove_9 : decode cX9_laysAbove 9 = .ok (.getfield 64, 3) := by decide +kernel
theorem dX9_laysAbove_12 : decode cX9_laysAbove 12 = .ok (.iload_n 2, 1) := by decide +kernel
theorem dX9_laysAbove_13 : decode cX9_laysAbove 13 = .ok (.iconst 0, 1) := by decide +kernel
theorem dX9_laysAbove_14 : decode cX9_laysAbove 14 = .ok (.iastore, 1) := by decide +kernel
theorem dX9_laysAbove_15 : decode cX9_laysAbove 15 = .ok (.aload_n 0, 1) := by decide +kernel
theorem dX9_laysAbove_16 : decode cX9_laysAbove 16 = .ok (.getfield 67, 3) := by decide +kernel
theorem dX9_laysAbove_19 : decode cX9_laysAbove 19 = .ok (.iload_n 2, 1) := by decide +kernel
theorem dX9_laysAbove_20 : decode cX9_laysAbove 20 = .ok (.iconst 0, 1) := by decide +kernel
theorem dX9_laysAbove_21 : decode cX9_laysAbove 21 = .ok (.iastore, 1) := by decide +kernel
theorem dX9_laysAbove_22 : decode cX9_laysAbove 22 = .ok (.iinc 2 1, 3) := by decide +kernel
theorem dX9_laysAbove_25 : decode cX9_laysAbove 25 = .ok (.goto (-23), 3) := by decide +kernel
theorem dX9_laysAbove_28 : decode cX9_laysAbove 28 = .ok (.iconst 0, 1) := by decide +kernel
theorem dX9_laysAbove_29 : decode cX9_laysAbove 29 = .ok (.istore_n 2, 1) := by decide +kernel
theorem dX9_laysAbove_30 : decode cX9_laysAbove 30 = .ok (.iload_n 2, 1) := by decide +kernel
theorem dX9_laysAbove_31 : decode cX9_laysAbove 31 = .ok (.aload_n 1, 1) := by decide +kernel
theorem dX9_laysAbove_32 : decode cX9_laysAbove 32 = .ok (.bipush 6, 2) := by decide +kernel
theorem dX9_laysAbove_34 : decode cX9_laysAbove 34 = .ok (.iaload, 1) := by decide +kernel
theorem dX9_laysAbove_35 : decode cX9_laysAbove 35 = .ok (.if_icmp .ge 92, 3) := by decide +kernel
theorem dX9_laysAbove_38 : decode cX9_laysAbove 38 = .ok (.iconst 0, 1) := by decide +kernel
theorem dX9_laysAbove_39 : decode cX9_laysAbove 39 = .ok (.istore_n 3, 1) := by decide +kernel
theorem dX9_laysAbove_40 : decode cX9_laysAbove 40 = .ok (.iload_n 3, 1) := by decide +kernel
theorem dX9_laysAbove_41 : decode cX9_laysAbove 41 = .ok (.aload_n 1, 1) := by decide +kernel
theorem dX9_laysAbove_42 : decode cX9_laysAbove 42 = .ok (.bipush 7, 2) := by decide +kernel
theorem dX9_laysAbove_44 : decode cX9_laysAbove 44 = .ok (.iaload, 1) := by decide +kernel
theorem dX9_laysAbove_45 : decode cX9_laysAbove 45 = .ok (.if_icmp .ge 76, 3) := by decide +kernel
theorem dX9_laysAbove_48 : decode cX9_laysAbove 48 = .ok (.aload_n 1, 1) := by decide +kernel
theorem dX9_laysAbove_49 : decode cX9_laysAbove 49 = .ok (.iload_n 2, 1) := by decide +kernel
theorem dX9_laysAbove_50 : decode cX9_laysAbove 50 = .ok (.iaload, 1) := by decide +kernel
theorem dX9_laysAbove_51 : decode cX9_laysAbove 51 = .ok (.iload_n 3, 1) := by decide +kernel
theorem dX9_laysAbove_52 : decode cX9_laysAbove 52 = .ok (.invokestatic 112, 3) := by decide +kernel
theorem dX9_laysAbove_55 : decode cX9_laysAbove 55 = .ok (.istore 4, 2) := by decide +kernel
theorem dX9_laysAbove_57 : decode cX9_laysAbove 57 = .ok (.iload 4, 2) := by decide +kernel
theorem dX9_laysAbove_59 : decode cX9_laysAbove 59 = .ok (.ifCond .eq 7, 3) := by decide +kernel
theorem dX9_laysAbove_62 : decode cX9_laysAbove 62 = .ok (.iload_n 2, 1) := by decide +kernel
theorem dX9_laysAbove_63 : decode cX9_laysAbove 63 = .ok (.goto 7, 3) := by decide +kernel
theorem dX9_laysAbove_66 : decode cX9_laysAbove 66 = .ok (.bipush 6, 2) := by decide +kernel
theorem dX9_laysAbove_68 : decode cX9_laysAbove 68 = .ok (.iload_n 3, 1) := by decide +kernel
theorem dX9_laysAbove_69 : decode cX9_laysAbove 69 = .ok (.iadd, 1) := by decide +kernel
theorem dX9_laysAbove_70 : decode cX9_laysAbove 70 = .ok (.istore 5, 2) := by decide +kernel
theorem dX9_laysAbove_72 : decode cX9_laysAbove 72 = .ok (.iload 4, 2) := by decide +kernel
theorem dX9_laysAbove_74 : decode cX9_laysAbove 74 = .ok (.ifCond .eq 10, 3) := by decide +kernel
theorem dX9_laysAbove_77 : decode cX9_laysAbove 77 = .ok (.bipush 6, 2) := by decide +kernel
theorem dX9_laysAbove_79 : decode cX9_laysAbove 79 = .ok (.iload_n 3, 1) := by decide +kernel
theorem dX9_laysAbove_80 : decode cX9_laysAbove 80 = .ok (.iadd, 1) := by decide +kernel
theorem dX9_laysAbove_81 : decode cX9_laysAbove 81 = .ok (.goto 4, 3) := by decide +kernel
theorem dX9_laysAbove_84 : decode cX9_laysAbove 84 = .ok (.iload_n 2, 1) := by decide +kernel
theorem dX9_laysAbove_85 : decode cX9_laysAbove 85 = .ok (.istore 6, 2) := by decide +kernel
theorem dX9_laysAbove_87 : decode cX9_laysAbove 87 = .ok (.aload_n 0, 1) := by decide +kernel
theorem dX9_laysAbove_88 : decode cX9_laysAbove 88 = .ok (.getfield 64, 3) := by decide +kernel
theorem dX9_laysAbove_91 : decode cX9_laysAbove 91 = .ok (.iload 5, 2) := by decide +kernel
theorem dX9_laysAbove_93 : decode cX9_laysAbove 93 = .ok (.dup2, 1) := by decide +kernel
theorem dX9_laysAbove_94 : decode cX9_laysAbove 94 = .ok (.iaload, 1) := by decide +kernel
theorem dX9_laysAbove_95 : decode cX9_laysAbove 95 = .ok (.iconst 1, 1) := by decide +kernel
theorem dX9_laysAbove_96 : decode cX9_laysAbove 96 = .ok (.iload 6, 2) := by decide +kernel
theorem dX9_laysAbove_98 : decode cX9_laysAbove 98 = .ok (.ishl, 1) := by decide +kernel
theorem dX9_laysAbove_99 : decode cX9_laysAbove 99 = .ok (.ior, 1) := by decide +kernel
theorem dX9_laysAbove_100 : decode cX9_laysAbove 100 = .ok (.iastore, 1) := by decide +kernel
theorem dX9_laysAbove_101 : decode cX9_laysAbove 101 = .ok (.aload_n 0, 1) := by decide +kernel
theorem dX9_laysAbove_102 : decode cX9_laysAbove 102 = .ok (.getfield 67, 3) := by decide +kernel
theorem dX9_laysAbove_105 : decode cX9_laysAbove 105 = .ok (.iload 6, 2) := by decide +kernel
theorem dX9_laysAbove_107 : decode cX9_laysAbove 107 = .ok (.dup2, 1) := by decide +kernel
theorem dX9_laysAbove_108 : decode cX9_laysAbove 108 = .ok (.iaload, 1) := by decide +kernel
theorem dX9_laysAbove_109 : decode cX9_laysAbove 109 = .ok (.iconst 1, 1) := by decide +kernel
theorem dX9_laysAbove_110 : decode cX9_laysAbove 110 = .ok (.iload 5, 2) := by decide +kernel
theorem dX9_laysAbove_112 : decode cX9_laysAbove 112 = .ok (.ishl, 1) := by decide +kernel
theorem dX9_laysAbove_113 : decode cX9_laysAbove 113 = .ok (.ior, 1) := by decide +kernel
theorem dX9_laysAbove_114 : decode cX9_laysAbove 114 = .ok (.iastore, 1) := by decide +kernel
theorem dX9_laysAbove_115 : decode cX9_laysAbove 115 = .ok (.iinc 3 1, 3) := by decide +kernel
theorem dX9_laysAbove_118 : decode cX9_laysAbove 118 = .ok (.goto (-78), 3) := by decide +kernel
theorem dX9_laysAbove_121 : decode cX9_laysAbove 121 = .ok (.iinc 2 1, 3) := by decide +kernel
theorem dX9_laysAbove_124 : decode cX9_laysAbove 124 = .ok (.goto (-94), 3) := by decide +kernel
theorem dX9_laysAbove_127 : decode cX9_laysAbove 127 = .ok (.return_, 1) := by decide +kernel
theorem dX9_reach_0 : decode cX9_reach 0 = .ok (.iconst 1, 1) := by decide +kernel
theorem dX9_reach_1 : decode cX9_reach 1 = .ok (.iload_n 0, 1) := by decide +kernel
theorem dX9_reach_2 : decode cX9_reach 2 = .ok (.ishl, 1) := by decide +kernel
theorem dX9_reach_3 : decode cX9_reach 3 = .ok (.istore_n 3, 1) := by decide +kernel
theorem dX9_reach_4 : decode cX9_reach 4 = .ok (.iload_n 3, 1) := by decide +kernel
theorem dX9_reach_5 : decode cX9_reach 5 = .ok (.istore 4, 2) := by decide +kernel
theorem dX9_reach_7 : decode cX9_reach 7 = .ok (.iload 4, 2) := by decide +kernel
theorem dX9_reach_9 : decode cX9_reach 9 = .ok (.ifCond .eq 44, 3) := by decide +kernel
theorem dX9_reach_12 : decode cX9_reach 12 = .ok (.iload 4, 2) := by decide +kernel
theorem dX9_reach_14 : decode cX9_reach 14 = .ok (.invokestatic 345, 3) := by decide +kernel
theorem dX9_reach_17 : decode cX9_reach 17 = .ok (.istore 5, 2) := by decide +kernel
theorem dX9_reach_19 : decode cX9_reach 19 = .ok (.aload_n 2, 1) := by decide +kernel
theorem dX9_reach_20 : decode cX9_reach 20 = .ok (.iload 5, 2) := by decide +kernel
theorem dX9_reach_22 : decode cX9_reach 22 = .ok (.iaload, 1) := by decide +kernel
theorem dX9_reach_23 : decode cX9_reach 23 = .ok (.iload_n 1, 1) := by decide +kernel
theorem dX9_reach_24 : decode cX9_reach 24 = .ok (.iand, 1) := by decide +kernel
theorem dX9_reach_25 : decode cX9_reach 25 = .ok (.iload_n 3, 1) := by decide +kernel
theorem dX9_reach_26 : decode cX9_reach 26 = .ok (.iconst (-1), 1) := by decide +kernel
theorem dX9_reach_27 : decode cX9_reach 27 = .ok (.ixor, 1) := by decide +kernel
theorem dX9_reach_28 : decode cX9_reach 28 = .ok (.iand, 1) := by decide +kernel
theorem dX9_reach_29 : decode cX9_reach 29 = .ok (.istore 6, 2) := by decide +kernel
theorem dX9_reach_31 : decode cX9_reach 31 = .ok (.iload_n 3, 1) := by decide +kernel
theorem dX9_reach_32 : decode cX9_reach 32 = .ok (.iload 6, 2) := by decide +kernel
theorem dX9_reach_34 : decode cX9_reach 34 = .ok (.ior, 1) := by decide +kernel
theorem dX9_reach_35 : decode cX9_reach 35 = .ok (.istore_n 3, 1) := by decide +kernel
theorem dX9_reach_36 : decode cX9_reach 36 = .ok (.iload 4, 2) := by decide +kernel
theorem dX9_reach_38 : decode cX9_reach 38 = .ok (.iconst 1, 1) := by decide +kernel
theorem dX9_reach_39 : decode cX9_reach 39 = .ok (.iload 5, 2) := by decide +kernel
theorem dX9_reach_41 : decode cX9_reach 41 = .ok (.ishl, 1) := by decide +kernel
theorem dX9_reach_42 : decode cX9_reach 42 = .ok (.iconst (-1), 1) := by decide +kernel
theorem dX9_reach_43 : decode cX9_reach 43 = .ok (.ixor, 1) := by decide +kernel
theorem dX9_reach_44 : decode cX9_reach 44 = .ok (.iand, 1) := by decide +kernel
theorem dX9_reach_45 : decode cX9_reach 45 = .ok (.iload 6, 2) := by decide +kernel
theorem dX9_reach_47 : decode cX9_reach 47 = .ok (.ior, 1) := by decide +kernel
theorem dX9_reach_48 : decode cX9_reach 48 = .ok (.istore 4, 2) := by decide +kernel
theorem dX9_reach_50 : decode cX9_reach 50 = .ok (.goto (-43), 3) := by decide +kernel
theorem dX9_reach_53 : decode cX9_reach 53 = .ok (.iload_n 3, 1) := by decide +kernel
theorem dX9_reach_54 : decode cX9_reach 54 = .ok (.ireturn, 1) := by decide +kernel
theorem dX9_isHanging_0 : decode cX9_isHanging 0 = .ok (.iload_n 1, 1) := by decide +kernel
theorem dX9_isHanging_1 : decode cX9_isHanging 1 = .ok (.ifCond .ne 5, 3) := by decide +kernel
theorem dX9_isHanging_4 : decode cX9_isHanging 4 = .ok (.iconst 0, 1) := by decide +kernel
theorem dX9_isHanging_5 : decode cX9_isHanging 5 = .ok (.ireturn, 1) := by decide +kernel
theorem dX9_isHanging_6 : decode cX9_isHanging 6 = .ok (.iload_n 1, 1) := by decide +kernel
theorem dX9_isHanging_7 : decode cX9_isHanging 7 = .ok (.invokestatic 345, 3) := by decide +kernel
theorem dX9_isHanging_10 : decode cX9_isHanging 10 = .ok (.istore_n 2, 1) := by decide +kernel
theorem dX9_isHanging_11 : decode cX9_isHanging 11 = .ok (.iload_n 2, 1) := by decide +kernel
theorem dX9_isHanging_12 : decode cX9_isHanging 12 = .ok (.iload_n 1, 1) := by decide +kernel
theorem dX9_isHanging_13 : decode cX9_isHanging 13 = .ok (.aload_n 0, 1) := by decide +kernel
theorem dX9_isHanging_14 : decode cX9_isHanging 14 = .ok (.getfield 64, 3) := by decide +kernel
theorem dX9_isHanging_17 : decode cX9_isHanging 17 = .ok (.invokestatic 348, 3) := by decide +kernel
theorem dX9_isHanging_20 : decode cX9_isHanging 20 = .ok (.iload_n 1, 1) := by decide +kernel
theorem dX9_isHanging_21 : decode cX9_isHanging 21 = .ok (.if_icmp .ne 20, 3) := by decide +kernel
theorem dX9_isHanging_24 : decode cX9_isHanging 24 = .ok (.iload_n 2, 1) := by decide +kernel
theorem dX9_isHanging_25 : decode cX9_isHanging 25 = .ok (.iload_n 1, 1) := by decide +kernel
theorem dX9_isHanging_26 : decode cX9_isHanging 26 = .ok (.aload_n 0, 1) := by decide +kernel
theorem dX9_isHanging_27 : decode cX9_isHanging 27 = .ok (.getfield 67, 3) := by decide +kernel
theorem dX9_isHanging_30 : decode cX9_isHanging 30 = .ok (.invokestatic 348, 3) := by decide +kernel
theorem dX9_isHanging_33 : decode cX9_isHanging 33 = .ok (.iload_n 1, 1) := by decide +kernel
theorem dX9_isHanging_34 : decode cX9_isHanging 34 = .ok (.if_icmp .ne 7, 3) := by decide +kernel
theorem dX9_isHanging_37 : decode cX9_isHanging 37 = .ok (.iconst 1, 1) := by decide +kernel
theorem dX9_isHanging_38 : decode cX9_isHanging 38 = .ok (.goto 4, 3) := by decide +kernel
theorem dX9_isHanging_41 : decode cX9_isHanging 41 = .ok (.iconst 0, 1) := by decide +kernel
theorem dX9_isHanging_42 : decode cX9_isHanging 42 = .ok (.ireturn, 1) := by decide +kernel
theorem dX9_doesHang_0 : decode cX9_doesHang 0 = .ok (.aload_n 0, 1) := by decide +kernel
theorem dX9_doesHang_1 : decode cX9_doesHang 1 = .ok (.aload_n 1, 1) := by decide +kernel
theorem dX9_doesHang_2 : decode cX9_doesHang 2 = .ok (.invokevirtual 352, 3) := by decide +kernel
theorem dX9_doesHang_5 : decode cX9_doesHang 5 = .ok (.aload_n 0, 1) := by decide +kernel
theorem dX9_doesHang_6 : decode cX9_doesHang 6 = .ok (.aload_n 1, 1) := by decide +kernel
theorem dX9_doesHang_7 : decode cX9_doesHang 7 = .ok (.invokestatic 356, 3) := by decide +kernel
theorem dX9_doesHang_10 : decode cX9_doesHang 10 = .ok (.invokevirtual 359, 3) := by decide +kernel
theorem dX9_doesHang_13 : decode cX9_doesHang 13 = .ok (.ireturn, 1) := by decide +kernel
theorem dX9_laysHangs_0 : decode cX9_laysHangs 0 = .ok (.aload_n 0, 1) := by decide +kernel
theorem dX9_laysHangs_1 : decode cX9_laysHangs 1 = .ok (.aload_n 0, 1) := by decide +kernel
theorem dX9_laysHangs_2 : decode cX9_laysHangs 2 = .ok (.getfield 24, 3) := by decide +kernel
theorem dX9_laysHangs_5 : decode cX9_laysHangs 5 = .ok (.invokevirtual 352, 3) := by decide +kernel
theorem dX9_laysHangs_8 : decode cX9_laysHangs 8 = .ok (.aload_n 0, 1) := by decide +kernel
theorem dX9_laysHangs_9 : decode cX9_laysHangs 9 = .ok (.getfield 24, 3) := by decide +kernel
theorem dX9_laysHangs_12 : decode cX9_laysHangs 12 = .ok (.invokestatic 356, 3) := by decide +kernel
theorem dX9_laysHangs_15 : decode cX9_laysHangs 15 = .ok (.istore_n 1, 1) := by decide +kernel
theorem dX9_laysHangs_16 : decode cX9_laysHangs 16 = .ok (.iconst 0, 1) := by decide +kernel
theorem dX9_laysHangs_17 : decode cX9_laysHangs 17 = .ok (.istore_n 2, 1) := by decide +kernel
theorem dX9_laysHangs_18 : decode cX9_laysHangs 18 = .ok (.iload_n 2, 1) := by decide +kernel
theorem dX9_laysHangs_19 : decode cX9_laysHangs 19 = .ok (.iload_n 1, 1) := by decide +kernel
theorem dX9_laysHangs_20 : decode cX9_laysHangs 20 = .ok (.if_icmp .gt 36, 3) := by decide +kernel
theorem dX9_laysHangs_23 : decode cX9_laysHangs 23 = .ok (.aload_n 0, 1) := by decide +kernel
theorem dX9_laysHangs_24 : decode cX9_laysHangs 24 = .ok (.getfield 70, 3) := by decide +kernel
theorem dX9_laysHangs_27 : decode cX9_laysHangs 27 = .ok (.iload_n 2, 1) := by decide +kernel
theorem dX9_laysHangs_28 : decode cX9_laysHangs 28 = .ok (.iload_n 2, 1) := by decide +kernel
theorem dX9_laysHangs_29 : decode cX9_laysHangs 29 = .ok (.iload_n 1, 1) := by decide +kernel
theorem dX9_laysHangs_30 : decode cX9_laysHangs 30 = .ok (.iconst (-1), 1) := by decide +kernel
theorem dX9_laysHangs_31 : decode cX9_laysHangs 31 = .ok (.ixor, 1) := by decide +kernel
theorem dX9_laysHangs_32 : decode cX9_laysHangs 32 = .ok (.iand, 1) := by decide +kernel
theorem dX9_laysHangs_33 : decode cX9_laysHangs 33 = .ok (.ifCond .ne 15, 3) := by decide +kernel
theorem dX9_laysHangs_36 : decode cX9_laysHangs 36 = .ok (.aload_n 0, 1) := by decide +kernel
theorem dX9_laysHangs_37 : decode cX9_laysHangs 37 = .ok (.iload_n 2, 1) := by decide +kernel
theorem dX9_laysHangs_38 : decode cX9_laysHangs 38 = .ok (.invokevirtual 359, 3) := by decide +kernel
theorem dX9_laysHangs_41 : decode cX9_laysHangs 41 = .ok (.ifCond .eq 7, 3) := by decide +kernel
theorem dX9_laysHangs_44 : decode cX9_laysHangs 44 = .ok (.iconst 1, 1) := by decide +kernel
theorem dX9_laysHangs_45 : decode cX9_laysHangs 45 = .ok (.goto 4, 3) := by decide +kernel
theorem dX9_laysHangs_48 : decode cX9_laysHangs 48 = .ok (.iconst 0, 1) := by decide +kernel
theorem dX9_laysHangs_49 : decode cX9_laysHangs 49 = .ok (.bastore, 1) := by decide +kernel
theorem dX9_laysHangs_50 : decode cX9_laysHangs 50 = .ok (.iinc 2 1, 3) := by decide +kernel
theorem dX9_laysHangs_53 : decode cX9_laysHangs 53 = .ok (.goto (-35), 3) := by decide +kernel
theorem dX9_laysHangs_56 : decode cX9_laysHangs 56 = .ok (.return_, 1) := by decide +kernel
theorem dX9_next_0 : decode cX9_next 0 = .ok (.aload_n 0, 1) := by decide +kernel
theorem dX9_next_1 : decode cX9_next 1 = .ok (.iconst 0, 1) := by decide +kernel
theorem dX9_next_2 : decode cX9_next 2 = .ok (.putfield 3, 3) := by decide +kernel
theorem dX9_next_5 : decode cX9_next 5 = .ok (.aload_n 0, 1) := by decide +kernel
theorem dX9_next_6 : decode cX9_next 6 = .ok (.aload_n 0, 1) := by decide +kernel
theorem dX9_next_7 : decode cX9_next 7 = .ok (.getfield 24, 3) := by decide +kernel
theorem dX9_next_10 : decode cX9_next 10 = .ok (.invokevirtual 286, 3) := by decide +kernel
theorem dX9_next_13 : decode cX9_next 13 = .ok (.istore_n 1, 1) := by decide +kernel
theorem dX9_next_14 : decode cX9_next 14 = .ok (.iload_n 1, 1) := by decide +kernel
theorem dX9_next_15 : decode cX9_next 15 = .ok (.ifCond .lt 32, 3) := by decide +kernel
theorem dX9_next_18 : decode cX9_next 18 = .ok (.aload_n 0, 1) := by decide +kernel
theorem dX9_next_19 : decode cX9_next 19 = .ok (.iconst 0, 1) := by decide +kernel
theorem dX9_next_20 : decode cX9_next 20 = .ok (.putfield 15, 3) := by decide +kernel
theorem dX9_next_23 : decode cX9_next 23 = .ok (.aload_n 0, 1) := by decide +kernel
theorem dX9_next_24 : decode cX9_next 24 = .ok (.bipush 100, 2) := by decide +kernel
theorem dX9_next_26 : decode cX9_next 26 = .ok (.aload_n 0, 1) := by decide +kernel
theorem dX9_next_27 : decode cX9_next 27 = .ok (.aload_n 0, 1) := by decide +kernel
theorem dX9_next_28 : decode cX9_next 28 = .ok (.getfield 24, 3) := by decide +kernel
theorem dX9_next_31 : decode cX9_next 31 = .ok (.iload_n 1, 1) := by decide +kernel
theorem dX9_next_32 : decode cX9_next 32 = .ok (.bipush 6, 2) := by decide +kernel
theorem dX9_next_34 : decode cX9_next 34 = .ok (.idiv, 1) := by decide +kernel
theorem dX9_next_35 : decode cX9_next 35 = .ok (.iload_n 1, 1) := by decide +kernel
theorem dX9_next_36 : decode cX9_next 36 = .ok (.bipush 6, 2) := by decide +kernel
theorem dX9_next_38 : decode cX9_next 38 = .ok (.irem, 1) := by decide +kernel
theorem dX9_next_39 : decode cX9_next 39 = .ok (.invokevirtual 266, 3) := by decide +kernel
theorem dX9_next_42 : decode cX9_next 42 = .ok (.iadd, 1) := by decide +kernel
theorem dX9_next_43 : decode cX9_next 43 = .ok (.i2l, 1) := by decide +kernel
theorem dX9_next_44 : decode cX9_next 44 = .ok (.invokevirtual 311, 3) := by decide +kernel
theorem dX9_next_47 : decode cX9_next 47 = .ok (.iload_n 1, 1) := by decide +kernel
theorem dX9_next_48 : decode cX9_next 48 = .ok (.ireturn, 1) := by decide +kernel
theorem dX9_later_0 : decode cX9_later 0 = .ok (.aload_n 0, 1) := by decide +kernel
theorem dX9_later_1 : decode cX9_later 1 = .ok (.iconst 0, 1) := by decide +kernel
theorem dX9_later_2 : decode cX9_later 2 = .ok (.putfield 3, 3) := by decide +kernel
theorem dX9_later_5 : decode cX9_later 5 = .ok (.iload_n 1, 1) := by decide +kernel
theorem dX9_later_6 : decode cX9_later 6 = .ok (.i2l, 1) := by decide +kernel
theorem dX9_later_7 : decode cX9_later 7 = .ok (.lconst 0, 1) := by decide +kernel
theorem dX9_later_8 : decode cX9_later 8 = .ok (.ldc2_w 303, 3) := by decide +kernel
theorem dX9_later_11 : decode cX9_later 11 = .ok (.invokestatic 104, 3) := by decide +kernel
theorem dX9_later_14 : decode cX9_later 14 = .ok (.ifCond .ne 5, 3) := by decide +kernel
theorem dX9_later_17 : decode cX9_later 17 = .ok (.iconst (-1), 1) := by decide +kernel
theorem dX9_later_18 : decode cX9_later 18 = .ok (.ireturn, 1) := by decide +kernel
theorem dX9_later_19 : decode cX9_later 19 = .ok (.aload_n 0, 1) := by decide +kernel
theorem dX9_later_20 : decode cX9_later 20 = .ok (.getfield 28, 3) := by decide +kernel
theorem dX9_later_23 : decode cX9_later 23 = .ok (.aload_n 0, 1) := by decide +kernel
theorem dX9_later_24 : decode cX9_later 24 = .ok (.getfield 24, 3) := by decide +kernel
theorem dX9_later_27 : decode cX9_later 27 = .ok (.invokestatic 194, 3) := by decide +kernel
theorem dX9_later_30 : decode cX9_later 30 = .ok (.aload_n 0, 1) := by decide +kernel
theorem dX9_later_31 : decode cX9_later 31 = .ok (.aload_n 0, 1) := by decide +kernel
theorem dX9_later_32 : decode cX9_later 32 = .ok (.getfield 28, 3) := by decide +kernel
theorem dX9_later_35 : decode cX9_later 35 = .ok (.iload_n 1, 1) := by decide +kernel
theorem dX9_later_36 : decode cX9_later 36 = .ok (.invokevirtual 308, 3) := by decide +kernel
theorem dX9_later_39 : decode cX9_later 39 = .ok (.aload_n 0, 1) := by decide +kernel
theorem dX9_later_40 : decode cX9_later 40 = .ok (.iconst 0, 1) := by decide +kernel
theorem dX9_later_41 : decode cX9_later 41 = .ok (.putfield 15, 3) := by decide +kernel
theorem dX9_later_44 : decode cX9_later 44 = .ok (.aload_n 0, 1) := by decide +kernel
theorem dX9_later_45 : decode cX9_later 45 = .ok (.aload_n 0, 1) := by decide +kernel
theorem dX9_later_46 : decode cX9_later 46 = .ok (.getfield 28, 3) := by decide +kernel
theorem dX9_later_49 : decode cX9_later 49 = .ok (.bipush 6, 2) := by decide +kernel
theorem dX9_later_51 : decode cX9_later 51 = .ok (.iaload, 1) := by decide +kernel
theorem dX9_later_52 : decode cX9_later 52 = .ok (.i2l, 1) := by decide +kernel
theorem dX9_later_53 : decode cX9_later 53 = .ok (.invokevirtual 311, 3) := by decide +kernel
theorem dX9_later_56 : decode cX9_later 56 = .ok (.aload_n 0, 1) := by decide +kernel
theorem dX9_later_57 : decode cX9_later 57 = .ok (.aload_n 0, 1) := by decide +kernel
theorem dX9_later_58 : decode cX9_later 58 = .ok (.getfield 28, 3) := by decide +kernel
theorem dX9_later_61 : decode cX9_later 61 = .ok (.bipush 7, 2) := by decide +kernel
theorem dX9_later_63 : decode cX9_later 63 = .ok (.iaload, 1) := by decide +kernel
theorem dX9_later_64 : decode cX9_later 64 = .ok (.i2l, 1) := by decide +kernel
theorem dX9_later_65 : decode cX9_later 65 = .ok (.invokevirtual 311, 3) := by decide +kernel
theorem dX9_later_68 : decode cX9_later 68 = .ok (.iconst 0, 1) := by decide +kernel
theorem dX9_later_69 : decode cX9_later 69 = .ok (.istore_n 2, 1) := by decide +kernel
theorem dX9_later_70 : decode cX9_later 70 = .ok (.iload_n 2, 1) := by decide +kernel
theorem dX9_later_71 : decode cX9_later 71 = .ok (.aload_n 0, 1) := by decide +kernel
theorem dX9_later_72 : decode cX9_later 72 = .ok (.getfield 28, 3) := by decide +kernel
theorem dX9_later_75 : decode cX9_later 75 = .ok (.bipush 6, 2) := by decide +kernel
theorem dX9_later_77 : decode cX9_later 77 = .ok (.iaload, 1) := by decide +kernel
theorem dX9_later_78 : decode cX9_later 78 = .ok (.if_icmp .ge 20, 3) := by decide +kernel
theorem dX9_later_81 : decode cX9_later 81 = .ok (.aload_n 0, 1) := by decide +kernel
theorem dX9_later_82 : decode cX9_later 82 = .ok (.aload_n 0, 1) := by decide +kernel
theorem dX9_later_83 : decode cX9_later 83 = .ok (.getfield 28, 3) := by decide +kernel
theorem dX9_later_86 : decode cX9_later 86 = .ok (.iload_n 2, 1) := by decide +kernel
theorem dX9_later_87 : decode cX9_later 87 = .ok (.iaload, 1) := by decide +kernel
theorem dX9_later_88 : decode cX9_later 88 = .ok (.i2l, 1) := by decide +kernel
theorem dX9_later_89 : decode cX9_later 89 = .ok (.invokevirtual 311, 3) := by decide +kernel
theorem dX9_later_92 : decode cX9_later 92 = .ok (.iinc 2 1, 3) := by decide +kernel
theorem dX9_later_95 : decode cX9_later 95 = .ok (.goto (-25), 3) := by decide +kernel
theorem dX9_later_98 : decode cX9_later 98 = .ok (.aload_n 0, 1) := by decide +kernel
theorem dX9_later_99 : decode cX9_later 99 = .ok (.getfield 28, 3) := by decide +kernel
theorem dX9_later_102 : decode cX9_later 102 = .ok (.invokestatic 315, 3) := by decide +kernel
theorem dX9_later_105 : decode cX9_later 105 = .ok (.ireturn, 1) := by decide +kernel
theorem dX9_falls_0 : decode cX9_falls 0 = .ok (.aload_n 0, 1) := by decide +kernel
theorem dX9_falls_1 : decode cX9_falls 1 = .ok (.iconst 0, 1) := by decide +kernel
theorem dX9_falls_2 : decode cX9_falls 2 = .ok (.putfield 3, 3) := by decide +kernel
theorem dX9_falls_5 : decode cX9_falls 5 = .ok (.aload_n 0, 1) := by decide +kernel
theorem dX9_falls_6 : decode cX9_falls 6 = .ok (.getfield 28, 3) := by decide +kernel
theorem dX9_falls_9 : decode cX9_falls 9 = .ok (.aload_n 0, 1) := by decide +kernel
theorem dX9_falls_10 : decode cX9_falls 10 = .ok (.getfield 24, 3) := by decide +kernel
theorem dX9_falls_13 : decode cX9_falls 13 = .ok (.invokestatic 194, 3) := by decide +kernel
theorem dX9_falls_16 : decode cX9_falls 16 = .ok (.iconst 0, 1) := by decide +kernel
theorem dX9_falls_17 : decode cX9_falls 17 = .ok (.istore_n 1, 1) := by decide +kernel
theorem dX9_falls_18 : decode cX9_falls 18 = .ok (.iload_n 1, 1) := by decide +kernel
theorem dX9_falls_19 : decode cX9_falls 19 = .ok (.bipush 60, 2) := by decide +kernel
theorem dX9_falls_21 : decode cX9_falls 21 = .ok (.if_icmp .gt 48, 3) := by decide +kernel
theorem dX9_falls_24 : decode cX9_falls 24 = .ok (.aload_n 0, 1) := by decide +kernel
theorem dX9_falls_25 : decode cX9_falls 25 = .ok (.aload_n 0, 1) := by decide +kernel
theorem dX9_falls_26 : decode cX9_falls 26 = .ok (.getfield 28, 3) := by decide +kernel
theorem dX9_falls_29 : decode cX9_falls 29 = .ok (.invokevirtual 362, 3) := by decide +kernel
theorem dX9_falls_32 : decode cX9_falls 32 = .ok (.ifCond .ne 22, 3) := by decide +kernel
theorem dX9_falls_35 : decode cX9_falls 35 = .ok (.aload_n 0, 1) := by decide +kernel
theorem dX9_falls_36 : decode cX9_falls 36 = .ok (.iconst 0, 1) := by decide +kernel
theorem dX9_falls_37 : decode cX9_falls 37 = .ok (.putfield 15, 3) := by decide +kernel
theorem dX9_falls_40 : decode cX9_falls 40 = .ok (.aload_n 0, 1) := by decide +kernel
theorem dX9_falls_41 : decode cX9_falls 41 = .ok (.aload_n 0, 1) := by decide +kernel
theorem dX9_falls_42 : decode cX9_falls 42 = .ok (.getfield 28, 3) := by decide +kernel
theorem dX9_falls_45 : decode cX9_falls 45 = .ok (.invokestatic 315, 3) := by decide +kernel
theorem dX9_falls_48 : decode cX9_falls 48 = .ok (.i2l, 1) := by decide +kernel
theorem dX9_falls_49 : decode cX9_falls 49 = .ok (.invokevirtual 311, 3) := by decide +kernel
theorem dX9_falls_52 : decode cX9_falls 52 = .ok (.iload_n 1, 1) := by decide +kernel
theorem dX9_falls_53 : decode cX9_falls 53 = .ok (.ireturn, 1) := by decide +kernel
theorem dX9_falls_54 : decode cX9_falls 54 = .ok (.aload_n 0, 1) := by decide +kernel
theorem dX9_falls_55 : decode cX9_falls 55 = .ok (.aload_n 0, 1) := by decide +kernel
theorem dX9_falls_56 : decode cX9_falls 56 = .ok (.getfield 28, 3) := by decide +kernel
theorem dX9_falls_59 : decode cX9_falls 59 = .ok (.invokevirtual 293, 3) := by decide +kernel
theorem dX9_falls_62 : decode cX9_falls 62 = .ok (.pop, 1) := by decide +kernel
theorem dX9_falls_63 : decode cX9_falls 63 = .ok (.iinc 1 1, 3) := by decide +kernel
theorem dX9_falls_66 : decode cX9_falls 66 = .ok (.goto (-48), 3) := by decide +kernel
theorem dX9_falls_69 : decode cX9_falls 69 = .ok (.bipush (-2), 2) := by decide +kernel
theorem dX9_falls_71 : decode cX9_falls 71 = .ok (.ireturn, 1) := by decide +kernel
theorem dX9_leaves_0 : decode cX9_leaves 0 = .ok (.aload_n 1, 1) := by decide +kernel
theorem dX9_leaves_1 : decode cX9_leaves 1 = .ok (.aload_n 0, 1) := by decide +kernel
theorem dX9_leaves_2 : decode cX9_leaves 2 = .ok (.getfield 24, 3) := by decide +kernel
theorem dX9_leaves_5 : decode cX9_leaves 5 = .ok (.invokestatic 194, 3) := by decide +kernel
theorem dX9_leaves_8 : decode cX9_leaves 8 = .ok (.bipush 11, 2) := by decide +kernel
theorem dX9_leaves_10 : decode cX9_leaves 10 = .ok (.istore_n 3, 1) := by decide +kernel
theorem dX9_leaves_11 : decode cX9_leaves 11 = .ok (.iload_n 3, 1) := by decide +kernel
theorem dX9_leaves_12 : decode cX9_leaves 12 = .ok (.ifCond .lt 29, 3) := by decide +kernel
theorem dX9_leaves_15 : decode cX9_leaves 15 = .ok (.iload_n 2, 1) := by decide +kernel
theorem dX9_leaves_16 : decode cX9_leaves 16 = .ok (.iload_n 3, 1) := by decide +kernel
theorem dX9_leaves_17 : decode cX9_leaves 17 = .ok (.invokestatic 112, 3) := by decide +kernel
theorem dX9_leaves_20 : decode cX9_leaves 20 = .ok (.ifCond .eq 15, 3) := by decide +kernel
theorem dX9_leaves_23 : decode cX9_leaves 23 = .ok (.aload_n 1, 1) := by decide +kernel
theorem dX9_leaves_24 : decode cX9_leaves 24 = .ok (.iload_n 3, 1) := by decide +kernel
theorem dX9_leaves_25 : decode cX9_leaves 25 = .ok (.bipush 6, 2) := by decide +kernel
theorem dX9_leaves_27 : decode cX9_leaves 27 = .ok (.idiv, 1) := by decide +kernel
theorem dX9_leaves_28 : decode cX9_leaves 28 = .ok (.iload_n 3, 1) := by decide +kernel
theorem dX9_leaves_29 : decode cX9_leaves 29 = .ok (.bipush 6, 2) := by decide +kernel
theorem dX9_leaves_31 : decode cX9_leaves 31 = .ok (.irem, 1) := by decide +kernel
theorem dX9_leaves_32 : decode cX9_leaves 32 = .ok (.invokestatic 289, 3) := by decide +kernel
theorem dX9_leaves_35 : decode cX9_leaves 35 = .ok (.iinc 3 (-1), 3) := by decide +kernel
theorem dX9_leaves_38 : decode cX9_leaves 38 = .ok (.goto (-27), 3) := by decide +kernel
theorem dX9_leaves_41 : decode cX9_leaves 41 = .ok (.aload_n 1, 1) := by decide +kernel
theorem dX9_leaves_42 : decode cX9_leaves 42 = .ok (.bipush 6, 2) := by decide +kernel
theorem dX9_leaves_44 : decode cX9_leaves 44 = .ok (.iaload, 1) := by decide +kernel
theorem dX9_leaves_45 : decode cX9_leaves 45 = .ok (.ifCond .le 14, 3) := by decide +kernel
theorem dX9_leaves_48 : decode cX9_leaves 48 = .ok (.aload_n 1, 1) := by decide +kernel
theorem dX9_leaves_49 : decode cX9_leaves 49 = .ok (.bipush 7, 2) := by decide +kernel
theorem dX9_leaves_51 : decode cX9_leaves 51 = .ok (.iaload, 1) := by decide +kernel
theorem dX9_leaves_52 : decode cX9_leaves 52 = .ok (.ifCond .le 7, 3) := by decide +kernel
theorem dX9_leaves_55 : decode cX9_leaves 55 = .ok (.iconst 1, 1) := by decide +kernel
theorem dX9_leaves_56 : decode cX9_leaves 56 = .ok (.goto 4, 3) := by decide +kernel
theorem dX9_leaves_59 : decode cX9_leaves 59 = .ok (.iconst 0, 1) := by decide +kernel
theorem dX9_leaves_60 : decode cX9_leaves 60 = .ok (.ireturn, 1) := by decide +kernel
theorem dX9_rags_0 : decode cX9_rags 0 = .ok (.aload_n 0, 1) := by decide +kernel
theorem dX9_rags_1 : decode cX9_rags 1 = .ok (.iconst 0, 1) := by decide +kernel
theorem dX9_rags_2 : decode cX9_rags 2 = .ok (.putfield 3, 3) := by decide +kernel
theorem dX9_rags_5 : decode cX9_rags 5 = .ok (.aload_n 0, 1) := by decide +kernel
theorem dX9_rags_6 : decode cX9_rags 6 = .ok (.invokevirtual 191, 3) := by decide +kernel
theorem dX9_rags_9 : decode cX9_rags 9 = .ok (.istore_n 1, 1) := by decide +kernel
theorem dX9_rags_10 : decode cX9_rags 10 = .ok (.iload_n 1, 1) := by decide +kernel
theorem dX9_rags_11 : decode cX9_rags 11 = .ok (.ifCond .ge 5, 3) := by decide +kernel
theorem dX9_rags_14 : decode cX9_rags 14 = .ok (.iload_n 1, 1) := by decide +kernel
theorem dX9_rags_15 : decode cX9_rags 15 = .ok (.ireturn, 1) := by decide +kernel
theorem dX9_rags_16 : decode cX9_rags 16 = .ok (.aload_n 0, 1) := by decide +kernel
theorem dX9_rags_17 : decode cX9_rags 17 = .ok (.getfield 24, 3) := by decide +kernel
theorem dX9_rags_20 : decode cX9_rags 20 = .ok (.invokestatic 356, 3) := by decide +kernel
theorem dX9_rags_23 : decode cX9_rags 23 = .ok (.istore_n 2, 1) := by decide +kernel
theorem dX9_rags_24 : decode cX9_rags 24 = .ok (.iconst 0, 1) := by decide +kernel
theorem dX9_rags_25 : decode cX9_rags 25 = .ok (.istore_n 3, 1) := by decide +kernel
theorem dX9_rags_26 : decode cX9_rags 26 = .ok (.aload_n 0, 1) := by decide +kernel
theorem dX9_rags_27 : decode cX9_rags 27 = .ok (.iconst 0, 1) := by decide +kernel
theorem dX9_rags_28 : decode cX9_rags 28 = .ok (.putfield 15, 3) := by decide +kernel
theorem dX9_rags_31 : decode cX9_rags 31 = .ok (.iconst 0, 1) := by decide +kernel
theorem dX9_rags_32 : decode cX9_rags 32 = .ok (.istore 4, 2) := by decide +kernel
theorem dX9_rags_34 : decode cX9_rags 34 = .ok (.iload 4, 2) := by decide +kernel
theorem dX9_rags_36 : decode cX9_rags 36 = .ok (.iload_n 2, 1) := by decide +kernel
theorem dX9_rags_37 : decode cX9_rags 37 = .ok (.if_icmp .gt 111, 3) := by decide +kernel
theorem dX9_rags_40 : decode cX9_rags 40 = .ok (.iload 4, 2) := by decide +kernel
theorem dX9_rags_42 : decode cX9_rags 42 = .ok (.iload_n 2, 1) := by decide +kernel
theorem dX9_rags_43 : decode cX9_rags 43 = .ok (.iconst (-1), 1) := by decide +kernel
theorem dX9_rags_44 : decode cX9_rags 44 = .ok (.ixor, 1) := by decide +kernel
theorem dX9_rags_45 : decode cX9_rags 45 = .ok (.iand, 1) := by decide +kernel
theorem dX9_rags_46 : decode cX9_rags 46 = .ok (.ifCond .ne 30, 3) := by decide +kernel
theorem dX9_rags_49 : decode cX9_rags 49 = .ok (.iload 4, 2) := by decide +kernel
theorem dX9_rags_51 : decode cX9_rags 51 = .ok (.invokestatic 131, 3) := by decide +kernel
theorem dX9_rags_54 : decode cX9_rags 54 = .ok (.aload_n 0, 1) := by decide +kernel
theorem dX9_rags_55 : decode cX9_rags 55 = .ok (.getfield 24, 3) := by decide +kernel
theorem dX9_rags_58 : decode cX9_rags 58 = .ok (.invokestatic 315, 3) := by decide +kernel
theorem dX9_rags_61 : decode cX9_rags 61 = .ok (.aload_n 0, 1) := by decide +kernel
theorem dX9_rags_62 : decode cX9_rags 62 = .ok (.getfield 34, 3) := by decide +kernel
theorem dX9_rags_65 : decode cX9_rags 65 = .ok (.invokestatic 315, 3) := by decide +kernel
theorem dX9_rags_68 : decode cX9_rags 68 = .ok (.isub, 1) := by decide +kernel
theorem dX9_rags_69 : decode cX9_rags 69 = .ok (.if_icmp .ne 7, 3) := by decide +kernel
theorem dX9_rags_72 : decode cX9_rags 72 = .ok (.iconst 1, 1) := by decide +kernel
theorem dX9_rags_73 : decode cX9_rags 73 = .ok (.goto 4, 3) := by decide +kernel
theorem dX9_rags_76 : decode cX9_rags 76 = .ok (.iconst 0, 1) := by decide +kernel
theorem dX9_rags_77 : decode cX9_rags 77 = .ok (.istore 5, 2) := by decide +kernel
theorem dX9_rags_79 : decode cX9_rags 79 = .ok (.iload 5, 2) := by decide +kernel
theorem dX9_rags_81 : decode cX9_rags 81 = .ok (.ifCond .eq 34, 3) := by decide +kernel
theorem dX9_rags_84 : decode cX9_rags 84 = .ok (.aload_n 0, 1) := by decide +kernel
theorem dX9_rags_85 : decode cX9_rags 85 = .ok (.aload_n 0, 1) := by decide +kernel
theorem dX9_rags_86 : decode cX9_rags 86 = .ok (.getfield 28, 3) := by decide +kernel
theorem dX9_rags_89 : decode cX9_rags 89 = .ok (.iload 4, 2) := by decide +kernel
theorem dX9_rags_91 : decode cX9_rags 91 = .ok (.invokevirtual 366, 3) := by decide +kernel
theorem dX9_rags_94 : decode cX9_rags 94 = .ok (.ifCond .eq 21, 3) := by decide +kernel
theorem dX9_rags_97 : decode cX9_rags 97 = .ok (.aload_n 0, 1) := by decide +kernel
theorem dX9_rags_98 : decode cX9_rags 98 = .ok (.getfield 28, 3) := by decide +kernel
theorem dX9_rags_101 : decode cX9_rags 101 = .ok (.aload_n 0, 1) := by decide +kernel
theorem dX9_rags_102 : decode cX9_rags 102 = .ok (.getfield 34, 3) := by decide +kernel
theorem dX9_rags_105 : decode cX9_rags 105 = .ok (.invokestatic 370, 3) := by decide +kernel
theorem dX9_rags_108 : decode cX9_rags 108 = .ok (.ifCond .eq 7, 3) := by decide +kernel
theorem dX9_rags_111 : decode cX9_rags 111 = .ok (.iconst 1, 1) := by decide +kernel
theorem dX9_rags_112 : decode cX9_rags 112 = .ok (.goto 4, 3) := by decide +kernel
theorem dX9_rags_115 : decode cX9_rags 115 = .ok (.iconst 0, 1) := by decide +kernel
theorem dX9_rags_116 : decode cX9_rags 116 = .ok (.istore 5, 2) := by decide +kernel
theorem dX9_rags_118 : decode cX9_rags 118 = .ok (.iload 5, 2) := by decide +kernel
theorem dX9_rags_120 : decode cX9_rags 120 = .ok (.ifCond .eq 14, 3) := by decide +kernel
theorem dX9_rags_123 : decode cX9_rags 123 = .ok (.iload_n 3, 1) := by decide +kernel
theorem dX9_rags_124 : decode cX9_rags 124 = .ok (.ifCond .ne 10, 3) := by decide +kernel
theorem dX9_rags_127 : decode cX9_rags 127 = .ok (.aload_n 0, 1) := by decide +kernel
theorem dX9_rags_128 : decode cX9_rags 128 = .ok (.iload 4, 2) := by decide +kernel
theorem dX9_rags_130 : decode cX9_rags 130 = .ok (.i2l, 1) := by decide +kernel
theorem dX9_rags_131 : decode cX9_rags 131 = .ok (.invokevirtual 311, 3) := by decide +kernel
theorem dX9_rags_134 : decode cX9_rags 134 = .ok (.iload_n 3, 1) := by decide +kernel
theorem dX9_rags_135 : decode cX9_rags 135 = .ok (.iload 5, 2) := by decide +kernel
theorem dX9_rags_137 : decode cX9_rags 137 = .ok (.invokestatic 116, 3) := by decide +kernel
theorem dX9_rags_140 : decode cX9_rags 140 = .ok (.iadd, 1) := by decide +kernel
theorem dX9_rags_141 : decode cX9_rags 141 = .ok (.istore_n 3, 1) := by decide +kernel
theorem dX9_rags_142 : decode cX9_rags 142 = .ok (.iinc 4 1, 3) := by decide +kernel
theorem dX9_rags_145 : decode cX9_rags 145 = .ok (.goto (-111), 3) := by decide +kernel
theorem dX9_rags_148 : decode cX9_rags 148 = .ok (.iload_n 3, 1) := by decide +kernel
theorem dX9_rags_149 : decode cX9_rags 149 = .ok (.ireturn, 1) := by decide +kernel
theorem dX9_asNumber_0 : decode cX9_asNumber 0 = .ok (.ldc2_w 374, 3) := by decide +kernel
theorem dX9_asNumber_3 : decode cX9_asNumber 3 = .ok (.aload_n 0, 1) := by decide +kernel
theorem dX9_asNumber_4 : decode cX9_asNumber 4 = .ok (.bipush 6, 2) := by decide +kernel
theorem dX9_asNumber_6 : decode cX9_asNumber 6 = .ok (.iaload, 1) := by decide +kernel
theorem dX9_asNumber_7 : decode cX9_asNumber 7 = .ok (.i2l, 1) := by decide +kernel
theorem dX9_asNumber_8 : decode cX9_asNumber 8 = .ok (.lmul, 1) := by decide +kernel
theorem dX9_asNumber_9 : decode cX9_asNumber 9 = .ok (.aload_n 0, 1) := by decide +kernel
theorem dX9_asNumber_10 : decode cX9_asNumber 10 = .ok (.bipush 7, 2) := by decide +kernel
theorem dX9_asNumber_12 : decode cX9_asNumber 12 = .ok (.iaload, 1) := by decide +kernel
theorem dX9_asNumber_13 : decode cX9_asNumber 13 = .ok (.i2l, 1) := by decide +kernel
theorem dX9_asNumber_14 : decode cX9_asNumber 14 = .ok (.ladd, 1) := by decide +kernel
theorem dX9_asNumber_15 : decode cX9_asNumber 15 = .ok (.lstore_n 1, 1) := by decide +kernel
theorem dX9_asNumber_16 : decode cX9_asNumber 16 = .ok (.iconst 0, 1) := by decide +kernel
theorem dX9_asNumber_17 : decode cX9_asNumber 17 = .ok (.istore_n 3, 1) := by decide +kernel
theorem dX9_asNumber_18 : decode cX9_asNumber 18 = .ok (.iload_n 3, 1) := by decide +kernel
theorem dX9_asNumber_19 : decode cX9_asNumber 19 = .ok (.aload_n 0, 1) := by decide +kernel
theorem dX9_asNumber_20 : decode cX9_asNumber 20 = .ok (.bipush 6, 2) := by decide +kernel
theorem dX9_asNumber_22 : decode cX9_asNumber 22 = .ok (.iaload, 1) := by decide +kernel
theorem dX9_asNumber_23 : decode cX9_asNumber 23 = .ok (.if_icmp .ge 20, 3) := by decide +kernel
theorem dX9_asNumber_26 : decode cX9_asNumber 26 = .ok (.ldc2_w 376, 3) := by decide +kernel
theorem dX9_asNumber_29 : decode cX9_asNumber 29 = .ok (.lload_n 1, 1) := by decide +kernel
theorem dX9_asNumber_30 : decode cX9_asNumber 30 = .ok (.lmul, 1) := by decide +kernel
theorem dX9_asNumber_31 : decode cX9_asNumber 31 = .ok (.aload_n 0, 1) := by decide +kernel
theorem dX9_asNumber_32 : decode cX9_asNumber 32 = .ok (.iload_n 3, 1) := by decide +kernel
theorem dX9_asNumber_33 : decode cX9_asNumber 33 = .ok (.iaload, 1) := by decide +kernel
theorem dX9_asNumber_34 : decode cX9_asNumber 34 = .ok (.i2l, 1) := by decide +kernel
theorem dX9_asNumber_35 : decode cX9_asNumber 35 = .ok (.ladd, 1) := by decide +kernel
theorem dX9_asNumber_36 : decode cX9_asNumber 36 = .ok (.lstore_n 1, 1) := by decide +kernel
theorem dX9_asNumber_37 : decode cX9_asNumber 37 = .ok (.iinc 3 1, 3) := by decide +kernel
theorem dX9_asNumber_40 : decode cX9_asNumber 40 = .ok (.goto (-22), 3) := by decide +kernel
theorem dX9_asNumber_43 : decode cX9_asNumber 43 = .ok (.lload_n 1, 1) := by decide +kernel
theorem dX9_asNumber_44 : decode cX9_asNumber 44 = .ok (.lreturn, 1) := by decide +kernel
theorem dX9_lefts_0 : decode cX9_lefts 0 = .ok (.aload_n 0, 1) := by decide +kernel
theorem dX9_lefts_1 : decode cX9_lefts 1 = .ok (.iconst 0, 1) := by decide +kernel
theorem dX9_lefts_2 : decode cX9_lefts 2 = .ok (.putfield 3, 3) := by decide +kernel
theorem dX9_lefts_5 : decode cX9_lefts 5 = .ok (.iload_n 1, 1) := by decide +kernel
theorem dX9_lefts_6 : decode cX9_lefts 6 = .ok (.i2l, 1) := by decide +kernel
theorem dX9_lefts_7 : decode cX9_lefts 7 = .ok (.lconst 0, 1) := by decide +kernel
theorem dX9_lefts_8 : decode cX9_lefts 8 = .ok (.ldc2_w 276, 3) := by decide +kernel
theorem dX9_lefts_11 : decode cX9_lefts 11 = .ok (.invokestatic 104, 3) := by decide +kernel
theorem dX9_lefts_14 : decode cX9_lefts 14 = .ok (.ifCond .ne 5, 3) := by decide +kernel
theorem dX9_lefts_17 : decode cX9_lefts 17 = .ok (.iconst (-1), 1) := by decide +kernel
theorem dX9_lefts_18 : decode cX9_lefts 18 = .ok (.ireturn, 1) := by decide +kernel
theorem dX9_lefts_19 : decode cX9_lefts 19 = .ok (.aload_n 0, 1) := by decide +kernel
theorem dX9_lefts_20 : decode cX9_lefts 20 = .ok (.getfield 24, 3) := by decide +kernel
theorem dX9_lefts_23 : decode cX9_lefts 23 = .ok (.invokestatic 356, 3) := by decide +kernel
theorem dX9_lefts_26 : decode cX9_lefts 26 = .ok (.istore_n 2, 1) := by decide +kernel
theorem dX9_lefts_27 : decode cX9_lefts 27 = .ok (.iconst 0, 1) := by decide +kernel
theorem dX9_lefts_28 : decode cX9_lefts 28 = .ok (.istore_n 3, 1) := by decide +kernel
theorem dX9_lefts_29 : decode cX9_lefts 29 = .ok (.iconst 0, 1) := by decide +kernel
theorem dX9_lefts_30 : decode cX9_lefts 30 = .ok (.istore 4, 2) := by decide +kernel
theorem dX9_lefts_32 : decode cX9_lefts 32 = .ok (.iconst 0, 1) := by decide +kernel
theorem dX9_lefts_33 : decode cX9_lefts 33 = .ok (.istore 5, 2) := by decide +kernel
theorem dX9_lefts_35 : decode cX9_lefts 35 = .ok (.iload 5, 2) := by decide +kernel
theorem dX9_lefts_37 : decode cX9_lefts 37 = .ok (.iload_n 2, 1) := by decide +kernel
theorem dX9_lefts_38 : decode cX9_lefts 38 = .ok (.if_icmp .gt 111, 3) := by decide +kernel
theorem dX9_lefts_41 : decode cX9_lefts 41 = .ok (.iload 5, 2) := by decide +kernel
theorem dX9_lefts_43 : decode cX9_lefts 43 = .ok (.iload_n 2, 1) := by decide +kernel
theorem dX9_lefts_44 : decode cX9_lefts 44 = .ok (.iconst (-1), 1) := by decide +kernel
theorem dX9_lefts_45 : decode cX9_lefts 45 = .ok (.ixor, 1) := by decide +kernel
theorem dX9_lefts_46 : decode cX9_lefts 46 = .ok (.iand, 1) := by decide +kernel
theorem dX9_lefts_47 : decode cX9_lefts 47 = .ok (.ifCond .ne 96, 3) := by decide +kernel
theorem dX9_lefts_50 : decode cX9_lefts 50 = .ok (.iload 5, 2) := by decide +kernel
theorem dX9_lefts_52 : decode cX9_lefts 52 = .ok (.invokestatic 131, 3) := by decide +kernel
theorem dX9_lefts_55 : decode cX9_lefts 55 = .ok (.iload_n 1, 1) := by decide +kernel
theorem dX9_lefts_56 : decode cX9_lefts 56 = .ok (.if_icmp .ne 87, 3) := by decide +kernel
theorem dX9_lefts_59 : decode cX9_lefts 59 = .ok (.aload_n 0, 1) := by decide +kernel
theorem dX9_lefts_60 : decode cX9_lefts 60 = .ok (.aload_n 0, 1) := by decide +kernel
theorem dX9_lefts_61 : decode cX9_lefts 61 = .ok (.getfield 28, 3) := by decide +kernel
theorem dX9_lefts_64 : decode cX9_lefts 64 = .ok (.iload 5, 2) := by decide +kernel
theorem dX9_lefts_66 : decode cX9_lefts 66 = .ok (.invokevirtual 366, 3) := by decide +kernel
theorem dX9_lefts_69 : decode cX9_lefts 69 = .ok (.ifCond .eq 74, 3) := by decide +kernel
theorem dX9_lefts_72 : decode cX9_lefts 72 = .ok (.aload_n 0, 1) := by decide +kernel
theorem dX9_lefts_73 : decode cX9_lefts 73 = .ok (.getfield 28, 3) := by decide +kernel
theorem dX9_lefts_76 : decode cX9_lefts 76 = .ok (.invokestatic 378, 3) := by decide +kernel
theorem dX9_lefts_79 : decode cX9_lefts 79 = .ok (.lstore 6, 2) := by decide +kernel
theorem dX9_lefts_81 : decode cX9_lefts 81 = .ok (.iconst 1, 1) := by decide +kernel
theorem dX9_lefts_82 : decode cX9_lefts 82 = .ok (.istore 8, 2) := by decide +kernel
theorem dX9_lefts_84 : decode cX9_lefts 84 = .ok (.iconst 0, 1) := by decide +kernel
theorem dX9_lefts_85 : decode cX9_lefts 85 = .ok (.istore 9, 2) := by decide +kernel
theorem dX9_lefts_87 : decode cX9_lefts 87 = .ok (.iload 9, 2) := by decide +kernel
theorem dX9_lefts_89 : decode cX9_lefts 89 = .ok (.iload_n 3, 1) := by decide +kernel
theorem dX9_lefts_90 : decode cX9_lefts 90 = .ok (.if_icmp .ge 34, 3) := by decide +kernel
theorem dX9_lefts_93 : decode cX9_lefts 93 = .ok (.iload 8, 2) := by decide +kernel
theorem dX9_lefts_95 : decode cX9_lefts 95 = .ok (.ifCond .eq 29, 3) := by decide +kernel
theorem dX9_lefts_98 : decode cX9_lefts 98 = .ok (.aload_n 0, 1) := by decide +kernel
theorem dX9_lefts_99 : decode cX9_lefts 99 = .ok (.getfield 74, 3) := by decide +kernel
theorem dX9_lefts_102 : decode cX9_lefts 102 = .ok (.iload 9, 2) := by decide +kernel
theorem dX9_lefts_104 : decode cX9_lefts 104 = .ok (.laload, 1) := by decide +kernel
theorem dX9_lefts_105 : decode cX9_lefts 105 = .ok (.lload 6, 2) := by decide +kernel
theorem dX9_lefts_107 : decode cX9_lefts 107 = .ok (.lcmp, 1) := by decide +kernel
theorem dX9_lefts_108 : decode cX9_lefts 108 = .ok (.ifCond .eq 7, 3) := by decide +kernel
theorem dX9_lefts_111 : decode cX9_lefts 111 = .ok (.iconst 1, 1) := by decide +kernel
theorem dX9_lefts_112 : decode cX9_lefts 112 = .ok (.goto 4, 3) := by decide +kernel
theorem dX9_lefts_115 : decode cX9_lefts 115 = .ok (.iconst 0, 1) := by decide +kernel
theorem dX9_lefts_116 : decode cX9_lefts 116 = .ok (.istore 8, 2) := by decide +kernel
theorem dX9_lefts_118 : decode cX9_lefts 118 = .ok (.iinc 9 1, 3) := by decide +kernel
theorem dX9_lefts_121 : decode cX9_lefts 121 = .ok (.goto (-34), 3) := by decide +kernel
theorem dX9_lefts_124 : decode cX9_lefts 124 = .ok (.aload_n 0, 1) := by decide +kernel
theorem dX9_lefts_125 : decode cX9_lefts 125 = .ok (.getfield 74, 3) := by decide +kernel
theorem dX9_lefts_128 : decode cX9_lefts 128 = .ok (.iload_n 3, 1) := by decide +kernel
theorem dX9_lefts_129 : decode cX9_lefts 129 = .ok (.lload 6, 2) := by decide +kernel
theorem dX9_lefts_131 : decode cX9_lefts 131 = .ok (.lastore, 1) := by decide +kernel
theorem dX9_lefts_132 : decode cX9_lefts 132 = .ok (.iload_n 3, 1) := by decide +kernel
theorem dX9_lefts_133 : decode cX9_lefts 133 = .ok (.iload 8, 2) := by decide +kernel
theorem dX9_lefts_135 : decode cX9_lefts 135 = .ok (.invokestatic 116, 3) := by decide +kernel
theorem dX9_lefts_138 : decode cX9_lefts 138 = .ok (.iadd, 1) := by decide +kernel
theorem dX9_lefts_139 : decode cX9_lefts 139 = .ok (.istore_n 3, 1) := by decide +kernel
theorem dX9_lefts_140 : decode cX9_lefts 140 = .ok (.iinc 4 1, 3) := by decide +kernel
theorem dX9_lefts_143 : decode cX9_lefts 143 = .ok (.iinc 5 1, 3) := by decide +kernel
theorem dX9_lefts_146 : decode cX9_lefts 146 = .ok (.goto (-111), 3) := by decide +kernel
theorem dX9_lefts_149 : decode cX9_lefts 149 = .ok (.aload_n 0, 1) := by decide +kernel
theorem dX9_lefts_150 : decode cX9_lefts 150 = .ok (.iconst 0, 1) := by decide +kernel
theorem dX9_lefts_151 : decode cX9_lefts 151 = .ok (.putfield 15, 3) := by decide +kernel
theorem dX9_lefts_154 : decode cX9_lefts 154 = .ok (.aload_n 0, 1) := by decide +kernel
theorem dX9_lefts_155 : decode cX9_lefts 155 = .ok (.iload 4, 2) := by decide +kernel
theorem dX9_lefts_157 : decode cX9_lefts 157 = .ok (.i2l, 1) := by decide +kernel
theorem dX9_lefts_158 : decode cX9_lefts 158 = .ok (.invokevirtual 311, 3) := by decide +kernel
theorem dX9_lefts_161 : decode cX9_lefts 161 = .ok (.iload_n 3, 1) := by decide +kernel
theorem dX9_lefts_162 : decode cX9_lefts 162 = .ok (.ireturn, 1) := by decide +kernel
theorem dX9_canBeAlike_0 : decode cX9_canBeAlike 0 = .ok (.iconst 0, 1) := by decide +kernel
theorem dX9_canBeAlike_1 : decode cX9_canBeAlike 1 = .ok (.istore_n 3, 1) := by decide +kernel
theorem dX9_canBeAlike_2 : decode cX9_canBeAlike 2 = .ok (.iconst 0, 1) := by decide +kernel
theorem dX9_canBeAlike_3 : decode cX9_canBeAlike 3 = .ok (.istore 4, 2) := by decide +kernel
theorem dX9_canBeAlike_5 : decode cX9_canBeAlike 5 = .ok (.iload 4, 2) := by decide +kernel
theorem dX9_canBeAlike_7 : decode cX9_canBeAlike 7 = .ok (.iload_n 2, 1) := by decide +kernel
theorem dX9_canBeAlike_8 : decode cX9_canBeAlike 8 = .ok (.if_icmp .ge 49, 3) := by decide +kernel
theorem dX9_canBeAlike_11 : decode cX9_canBeAlike 11 = .ok (.iconst 0, 1) := by decide +kernel
theorem dX9_canBeAlike_12 : decode cX9_canBeAlike 12 = .ok (.istore 5, 2) := by decide +kernel
theorem dX9_canBeAlike_14 : decode cX9_canBeAlike 14 = .ok (.iload 5, 2) := by decide +kernel
theorem dX9_canBeAlike_16 : decode cX9_canBeAlike 16 = .ok (.iload_n 2, 1) := by decide +kernel
theorem dX9_canBeAlike_17 : decode cX9_canBeAlike 17 = .ok (.if_icmp .ge 34, 3) := by decide +kernel
theorem dX9_canBeAlike_20 : decode cX9_canBeAlike 20 = .ok (.iload_n 3, 1) := by decide +kernel
theorem dX9_canBeAlike_21 : decode cX9_canBeAlike 21 = .ok (.ifCond .ne 18, 3) := by decide +kernel
theorem dX9_canBeAlike_24 : decode cX9_canBeAlike 24 = .ok (.iload_n 0, 1) := by decide +kernel
theorem dX9_canBeAlike_25 : decode cX9_canBeAlike 25 = .ok (.iload 4, 2) := by decide +kernel
theorem dX9_canBeAlike_27 : decode cX9_canBeAlike 27 = .ok (.invokestatic 136, 3) := by decide +kernel
theorem dX9_canBeAlike_30 : decode cX9_canBeAlike 30 = .ok (.iload_n 1, 1) := by decide +kernel
theorem dX9_canBeAlike_31 : decode cX9_canBeAlike 31 = .ok (.iload 5, 2) := by decide +kernel
theorem dX9_canBeAlike_33 : decode cX9_canBeAlike 33 = .ok (.invokestatic 136, 3) := by decide +kernel
theorem dX9_canBeAlike_36 : decode cX9_canBeAlike 36 = .ok (.if_icmp .ne 7, 3) := by decide +kernel
theorem dX9_canBeAlike_39 : decode cX9_canBeAlike 39 = .ok (.iconst 1, 1) := by decide +kernel
theorem dX9_canBeAlike_40 : decode cX9_canBeAlike 40 = .ok (.goto 4, 3) := by decide +kernel
theorem dX9_canBeAlike_43 : decode cX9_canBeAlike 43 = .ok (.iconst 0, 1) := by decide +kernel
theorem dX9_canBeAlike_44 : decode cX9_canBeAlike 44 = .ok (.istore_n 3, 1) := by decide +kernel
theorem dX9_canBeAlike_45 : decode cX9_canBeAlike 45 = .ok (.iinc 5 1, 3) := by decide +kernel
theorem dX9_canBeAlike_48 : decode cX9_canBeAlike 48 = .ok (.goto (-34), 3) := by decide +kernel
theorem dX9_canBeAlike_51 : decode cX9_canBeAlike 51 = .ok (.iinc 4 1, 3) := by decide +kernel
theorem dX9_canBeAlike_54 : decode cX9_canBeAlike 54 = .ok (.goto (-49), 3) := by decide +kernel
theorem dX9_canBeAlike_57 : decode cX9_canBeAlike 57 = .ok (.iload_n 3, 1) := by decide +kernel
theorem dX9_canBeAlike_58 : decode cX9_canBeAlike 58 = .ok (.ireturn, 1) := by decide +kernel
theorem dX9_outlasts_0 : decode cX9_outlasts 0 = .ok (.aload_n 0, 1) := by decide +kernel
theorem dX9_outlasts_1 : decode cX9_outlasts 1 = .ok (.iconst 0, 1) := by decide +kernel
theorem dX9_outlasts_2 : decode cX9_outlasts 2 = .ok (.putfield 3, 3) := by decide +kernel
theorem dX9_outlasts_5 : decode cX9_outlasts 5 = .ok (.iconst 0, 1) := by decide +kernel
theorem dX9_outlasts_6 : decode cX9_outlasts 6 = .ok (.istore_n 1, 1) := by decide +kernel
theorem dX9_outlasts_7 : decode cX9_outlasts 7 = .ok (.iconst 1, 1) := by decide +kernel
theorem dX9_outlasts_8 : decode cX9_outlasts 8 = .ok (.istore_n 2, 1) := by decide +kernel
theorem dX9_outlasts_9 : decode cX9_outlasts 9 = .ok (.iload_n 2, 1) := by decide +kernel
theorem dX9_outlasts_10 : decode cX9_outlasts 10 = .ok (.aload_n 0, 1) := by decide +kernel
theorem dX9_outlasts_11 : decode cX9_outlasts 11 = .ok (.getfield 24, 3) := by decide +kernel
theorem dX9_outlasts_14 : decode cX9_outlasts 14 = .ok (.bipush 6, 2) := by decide +kernel
theorem dX9_outlasts_16 : decode cX9_outlasts 16 = .ok (.iaload, 1) := by decide +kernel
theorem dX9_outlasts_17 : decode cX9_outlasts 17 = .ok (.invokestatic 127, 3) := by decide +kernel
theorem dX9_outlasts_20 : decode cX9_outlasts 20 = .ok (.if_icmp .gt 128, 3) := by decide +kernel
theorem dX9_outlasts_23 : decode cX9_outlasts 23 = .ok (.iload_n 2, 1) := by decide +kernel
theorem dX9_outlasts_24 : decode cX9_outlasts 24 = .ok (.invokestatic 131, 3) := by decide +kernel
theorem dX9_outlasts_27 : decode cX9_outlasts 27 = .ok (.iload_n 1, 1) := by decide +kernel
theorem dX9_outlasts_28 : decode cX9_outlasts 28 = .ok (.invokestatic 131, 3) := by decide +kernel
theorem dX9_outlasts_31 : decode cX9_outlasts 31 = .ok (.if_icmp .le 7, 3) := by decide +kernel
theorem dX9_outlasts_34 : decode cX9_outlasts 34 = .ok (.iconst 1, 1) := by decide +kernel
theorem dX9_outlasts_35 : decode cX9_outlasts 35 = .ok (.goto 4, 3) := by decide +kernel
theorem dX9_outlasts_38 : decode cX9_outlasts 38 = .ok (.iconst 0, 1) := by decide +kernel
theorem dX9_outlasts_39 : decode cX9_outlasts 39 = .ok (.istore_n 3, 1) := by decide +kernel
theorem dX9_outlasts_40 : decode cX9_outlasts 40 = .ok (.iconst 0, 1) := by decide +kernel
theorem dX9_outlasts_41 : decode cX9_outlasts 41 = .ok (.istore 4, 2) := by decide +kernel
theorem dX9_outlasts_43 : decode cX9_outlasts 43 = .ok (.iload 4, 2) := by decide +kernel
theorem dX9_outlasts_45 : decode cX9_outlasts 45 = .ok (.aload_n 0, 1) := by decide +kernel
theorem dX9_outlasts_46 : decode cX9_outlasts 46 = .ok (.getfield 24, 3) := by decide +kernel
theorem dX9_outlasts_49 : decode cX9_outlasts 49 = .ok (.bipush 6, 2) := by decide +kernel
theorem dX9_outlasts_51 : decode cX9_outlasts 51 = .ok (.iaload, 1) := by decide +kernel
theorem dX9_outlasts_52 : decode cX9_outlasts 52 = .ok (.if_icmp .ge 80, 3) := by decide +kernel
theorem dX9_outlasts_55 : decode cX9_outlasts 55 = .ok (.iconst 0, 1) := by decide +kernel
theorem dX9_outlasts_56 : decode cX9_outlasts 56 = .ok (.istore 5, 2) := by decide +kernel
theorem dX9_outlasts_58 : decode cX9_outlasts 58 = .ok (.iload 5, 2) := by decide +kernel
theorem dX9_outlasts_60 : decode cX9_outlasts 60 = .ok (.iload 4, 2) := by decide +kernel
theorem dX9_outlasts_62 : decode cX9_outlasts 62 = .ok (.if_icmp .ge 64, 3) := by decide +kernel
theorem dX9_outlasts_65 : decode cX9_outlasts 65 = .ok (.iload_n 3, 1) := by decide +kernel
theorem dX9_outlasts_66 : decode cX9_outlasts 66 = .ok (.ifCond .eq 60, 3) := by decide +kernel
theorem dX9_outlasts_69 : decode cX9_outlasts 69 = .ok (.iload_n 2, 1) := by decide +kernel
theorem dX9_outlasts_70 : decode cX9_outlasts 70 = .ok (.iload 4, 2) := by decide +kernel
theorem dX9_outlasts_72 : decode cX9_outlasts 72 = .ok (.invokestatic 112, 3) := by decide +kernel
theorem dX9_outlasts_75 : decode cX9_outlasts 75 = .ok (.ifCond .eq 39, 3) := by decide +kernel
theorem dX9_outlasts_78 : decode cX9_outlasts 78 = .ok (.iload_n 2, 1) := by decide +kernel
theorem dX9_outlasts_79 : decode cX9_outlasts 79 = .ok (.iload 5, 2) := by decide +kernel
theorem dX9_outlasts_81 : decode cX9_outlasts 81 = .ok (.invokestatic 112, 3) := by decide +kernel
theorem dX9_outlasts_84 : decode cX9_outlasts 84 = .ok (.ifCond .eq 30, 3) := by decide +kernel
theorem dX9_outlasts_87 : decode cX9_outlasts 87 = .ok (.aload_n 0, 1) := by decide +kernel
theorem dX9_outlasts_88 : decode cX9_outlasts 88 = .ok (.getfield 24, 3) := by decide +kernel
theorem dX9_outlasts_91 : decode cX9_outlasts 91 = .ok (.iload 4, 2) := by decide +kernel
theorem dX9_outlasts_93 : decode cX9_outlasts 93 = .ok (.iaload, 1) := by decide +kernel
theorem dX9_outlasts_94 : decode cX9_outlasts 94 = .ok (.aload_n 0, 1) := by decide +kernel
theorem dX9_outlasts_95 : decode cX9_outlasts 95 = .ok (.getfield 24, 3) := by decide +kernel
theorem dX9_outlasts_98 : decode cX9_outlasts 98 = .ok (.iload 5, 2) := by decide +kernel
theorem dX9_outlasts_100 : decode cX9_outlasts 100 = .ok (.iaload, 1) := by decide +kernel
theorem dX9_outlasts_101 : decode cX9_outlasts 101 = .ok (.aload_n 0, 1) := by decide +kernel
theorem dX9_outlasts_102 : decode cX9_outlasts 102 = .ok (.getfield 24, 3) := by decide +kernel
theorem dX9_outlasts_105 : decode cX9_outlasts 105 = .ok (.bipush 7, 2) := by decide +kernel
theorem dX9_outlasts_107 : decode cX9_outlasts 107 = .ok (.iaload, 1) := by decide +kernel
theorem dX9_outlasts_108 : decode cX9_outlasts 108 = .ok (.invokestatic 382, 3) := by decide +kernel
theorem dX9_outlasts_111 : decode cX9_outlasts 111 = .ok (.ifCond .ne 7, 3) := by decide +kernel
theorem dX9_outlasts_114 : decode cX9_outlasts 114 = .ok (.iconst 1, 1) := by decide +kernel
theorem dX9_outlasts_115 : decode cX9_outlasts 115 = .ok (.goto 4, 3) := by decide +kernel
theorem dX9_outlasts_118 : decode cX9_outlasts 118 = .ok (.iconst 0, 1) := by decide +kernel
theorem dX9_outlasts_119 : decode cX9_outlasts 119 = .ok (.istore_n 3, 1) := by decide +kernel
theorem dX9_outlasts_120 : decode cX9_outlasts 120 = .ok (.iinc 5 1, 3) := by decide +kernel
theorem dX9_outlasts_123 : decode cX9_outlasts 123 = .ok (.goto (-65), 3) := by decide +kernel
theorem dX9_outlasts_126 : decode cX9_outlasts 126 = .ok (.iinc 4 1, 3) := by decide +kernel
theorem dX9_outlasts_129 : decode cX9_outlasts 129 = .ok (.goto (-86), 3) := by decide +kernel
theorem dX9_outlasts_132 : decode cX9_outlasts 132 = .ok (.iload_n 3, 1) := by decide +kernel
theorem dX9_outlasts_133 : decode cX9_outlasts 133 = .ok (.ifCond .eq 7, 3) := by decide +kernel
theorem dX9_outlasts_136 : decode cX9_outlasts 136 = .ok (.iload_n 2, 1) := by decide +kernel
theorem dX9_outlasts_137 : decode cX9_outlasts 137 = .ok (.goto 4, 3) := by decide +kernel
theorem dX9_outlasts_140 : decode cX9_outlasts 140 = .ok (.iload_n 1, 1) := by decide +kernel
theorem dX9_outlasts_141 : decode cX9_outlasts 141 = .ok (.istore_n 1, 1) := by decide +kernel
theorem dX9_outlasts_142 : decode cX9_outlasts 142 = .ok (.iinc 2 1, 3) := by decide +kernel
theorem dX9_outlasts_145 : decode cX9_outlasts 145 = .ok (.goto (-136), 3) := by decide +kernel
theorem dX9_outlasts_148 : decode cX9_outlasts 148 = .ok (.aload_n 0, 1) := by decide +kernel
theorem dX9_outlasts_149 : decode cX9_outlasts 149 = .ok (.iconst 0, 1) := by decide +kernel
theorem dX9_outlasts_150 : decode cX9_outlasts 150 = .ok (.putfield 15, 3) := by decide +kernel
theorem dX9_outlasts_153 : decode cX9_outlasts 153 = .ok (.aload_n 0, 1) := by decide +kernel
theorem dX9_outlasts_154 : decode cX9_outlasts 154 = .ok (.iload_n 1, 1) := by decide +kernel
theorem dX9_outlasts_155 : decode cX9_outlasts 155 = .ok (.i2l, 1) := by decide +kernel
theorem dX9_outlasts_156 : decode cX9_outlasts 156 = .ok (.invokevirtual 311, 3) := by decide +kernel
theorem dX9_outlasts_159 : decode cX9_outlasts 159 = .ok (.iload_n 1, 1) := by decide +kernel
theorem dX9_outlasts_160 : decode cX9_outlasts 160 = .ok (.invokestatic 131, 3) := by decide +kernel
theorem dX9_outlasts_163 : decode cX9_outlasts 163 = .ok (.ireturn, 1) := by decide +kernel
theorem dX9_words_0 : decode cX9_words 0 = .ok (.aload_n 0, 1) := by decide +kernel
theorem dX9_words_1 : decode cX9_words 1 = .ok (.iconst 0, 1) := by decide +kernel
theorem dX9_words_2 : decode cX9_words 2 = .ok (.putfield 3, 3) := by decide +kernel
theorem dX9_words_5 : decode cX9_words 5 = .ok (.iload_n 1, 1) := by decide +kernel
theorem dX9_words_6 : decode cX9_words 6 = .ok (.i2l, 1) := by decide +kernel
theorem dX9_words_7 : decode cX9_words 7 = .ok (.lconst 1, 1) := by decide +kernel
theorem dX9_words_8 : decode cX9_words 8 = .ok (.ldc2_w 386, 3) := by decide +kernel
theorem dX9_words_11 : decode cX9_words 11 = .ok (.invokestatic 104, 3) := by decide +kernel
theorem dX9_words_14 : decode cX9_words 14 = .ok (.ifCond .eq 14, 3) := by decide +kernel
theorem dX9_words_17 : decode cX9_words 17 = .ok (.iload_n 2, 1) := by decide +kernel
theorem dX9_words_18 : decode cX9_words 18 = .ok (.i2l, 1) := by decide +kernel
theorem dX9_words_19 : decode cX9_words 19 = .ok (.lconst 0, 1) := by decide +kernel
theorem dX9_words_20 : decode cX9_words 20 = .ok (.iload_n 1, 1) := by decide +kernel
theorem dX9_words_21 : decode cX9_words 21 = .ok (.i2l, 1) := by decide +kernel
theorem dX9_words_22 : decode cX9_words 22 = .ok (.invokestatic 104, 3) := by decide +kernel
theorem dX9_words_25 : decode cX9_words 25 = .ok (.ifCond .ne 5, 3) := by decide +kernel
theorem dX9_words_28 : decode cX9_words 28 = .ok (.iconst (-1), 1) := by decide +kernel
theorem dX9_words_29 : decode cX9_words 29 = .ok (.ireturn, 1) := by decide +kernel
theorem dX9_words_30 : decode cX9_words 30 = .ok (.iconst 0, 1) := by decide +kernel
theorem dX9_words_31 : decode cX9_words 31 = .ok (.istore_n 3, 1) := by decide +kernel
theorem dX9_words_32 : decode cX9_words 32 = .ok (.iconst (-1), 1) := by decide +kernel
theorem dX9_words_33 : decode cX9_words 33 = .ok (.istore 4, 2) := by decide +kernel
theorem dX9_words_35 : decode cX9_words 35 = .ok (.iconst (-1), 1) := by decide +kernel
theorem dX9_words_36 : decode cX9_words 36 = .ok (.istore 5, 2) := by decide +kernel
theorem dX9_words_38 : decode cX9_words 38 = .ok (.iconst 0, 1) := by decide +kernel
theorem dX9_words_39 : decode cX9_words 39 = .ok (.istore 6, 2) := by decide +kernel
theorem dX9_words_41 : decode cX9_words 41 = .ok (.iload 6, 2) := by decide +kernel
theorem dX9_words_43 : decode cX9_words 43 = .ok (.iload_n 1, 1) := by decide +kernel
theorem dX9_words_44 : decode cX9_words 44 = .ok (.invokestatic 127, 3) := by decide +kernel
theorem dX9_words_47 : decode cX9_words 47 = .ok (.if_icmp .gt 107, 3) := by decide +kernel
theorem dX9_words_50 : decode cX9_words 50 = .ok (.iconst 0, 1) := by decide +kernel
theorem dX9_words_51 : decode cX9_words 51 = .ok (.istore 7, 2) := by decide +kernel
theorem dX9_words_53 : decode cX9_words 53 = .ok (.iconst 0, 1) := by decide +kernel
theorem dX9_words_54 : decode cX9_words 54 = .ok (.istore 8, 2) := by decide +kernel
theorem dX9_words_56 : decode cX9_words 56 = .ok (.iload 8, 2) := by decide +kernel
theorem dX9_words_58 : decode cX9_words 58 = .ok (.iload_n 1, 1) := by decide +kernel
theorem dX9_words_59 : decode cX9_words 59 = .ok (.if_icmp .ge 32, 3) := by decide +kernel
theorem dX9_words_62 : decode cX9_words 62 = .ok (.iload 7, 2) := by decide +kernel
theorem dX9_words_64 : decode cX9_words 64 = .ok (.iload 6, 2) := by decide +kernel
theorem dX9_words_66 : decode cX9_words 66 = .ok (.iload 8, 2) := by decide +kernel
theorem dX9_words_68 : decode cX9_words 68 = .ok (.invokestatic 112, 3) := by decide +kernel
theorem dX9_words_71 : decode cX9_words 71 = .ok (.ifCond .eq 10, 3) := by decide +kernel
theorem dX9_words_74 : decode cX9_words 74 = .ok (.iload 8, 2) := by decide +kernel
theorem dX9_words_76 : decode cX9_words 76 = .ok (.iconst 1, 1) := by decide +kernel
theorem dX9_words_77 : decode cX9_words 77 = .ok (.iadd, 1) := by decide +kernel
theorem dX9_words_78 : decode cX9_words 78 = .ok (.goto 4, 3) := by decide +kernel
theorem dX9_words_81 : decode cX9_words 81 = .ok (.iconst 0, 1) := by decide +kernel
theorem dX9_words_82 : decode cX9_words 82 = .ok (.iadd, 1) := by decide +kernel
theorem dX9_words_83 : decode cX9_words 83 = .ok (.istore 7, 2) := by decide +kernel
theorem dX9_words_85 : decode cX9_words 85 = .ok (.iinc 8 1, 3) := by decide +kernel
theorem dX9_words_88 : decode cX9_words 88 = .ok (.goto (-32), 3) := by decide +kernel
theorem dX9_words_91 : decode cX9_words 91 = .ok (.iload 7, 2) := by decide +kernel
theorem dX9_words_93 : decode cX9_words 93 = .ok (.iload_n 1, 1) := by decide +kernel
theorem dX9_words_94 : decode cX9_words 94 = .ok (.iconst 1, 1) := by decide +kernel
theorem dX9_words_95 : decode cX9_words 95 = .ok (.iadd, 1) := by decide +kernel
theorem dX9_words_96 : decode cX9_words 96 = .ok (.irem, 1) := by decide +kernel
theorem dX9_words_97 : decode cX9_words 97 = .ok (.iload_n 2, 1) := by decide +kernel
theorem dX9_words_98 : decode cX9_words 98 = .ok (.if_icmp .ne 7, 3) := by decide +kernel
theorem dX9_words_101 : decode cX9_words 101 = .ok (.iconst 1, 1) := by decide +kernel
theorem dX9_words_102 : decode cX9_words 102 = .ok (.goto 4, 3) := by decide +kernel
theorem dX9_words_105 : decode cX9_words 105 = .ok (.iconst 0, 1) := by decide +kernel
theorem dX9_words_106 : decode cX9_words 106 = .ok (.istore 8, 2) := by decide +kernel
theorem dX9_words_108 : decode cX9_words 108 = .ok (.iload 8, 2) := by decide +kernel
theorem dX9_words_110 : decode cX9_words 110 = .ok (.ifCond .eq 12, 3) := by decide +kernel
theorem dX9_words_113 : decode cX9_words 113 = .ok (.iload_n 3, 1) := by decide +kernel
theorem dX9_words_114 : decode cX9_words 114 = .ok (.ifCond .ne 8, 3) := by decide +kernel
theorem dX9_words_117 : decode cX9_words 117 = .ok (.iload 6, 2) := by decide +kernel
theorem dX9_words_119 : decode cX9_words 119 = .ok (.goto 5, 3) := by decide +kernel
theorem dX9_words_122 : decode cX9_words 122 = .ok (.iload 4, 2) := by decide +kernel
theorem dX9_words_124 : decode cX9_words 124 = .ok (.istore 4, 2) := by decide +kernel
theorem dX9_words_126 : decode cX9_words 126 = .ok (.iload 8, 2) := by decide +kernel
theorem dX9_words_128 : decode cX9_words 128 = .ok (.ifCond .eq 8, 3) := by decide +kernel
theorem dX9_words_131 : decode cX9_words 131 = .ok (.iload 6, 2) := by decide +kernel
theorem dX9_words_133 : decode cX9_words 133 = .ok (.goto 5, 3) := by decide +kernel
theorem dX9_words_136 : decode cX9_words 136 = .ok (.iload 5, 2) := by decide +kernel
theorem dX9_words_138 : decode cX9_words 138 = .ok (.istore 5, 2) := by decide +kernel
theorem dX9_words_140 : decode cX9_words 140 = .ok (.iload_n 3, 1) := by decide +kernel
theorem dX9_words_141 : decode cX9_words 141 = .ok (.iload 8, 2) := by decide +kernel
theorem dX9_words_143 : decode cX9_words 143 = .ok (.invokestatic 116, 3) := by decide +kernel
theorem dX9_words_146 : decode cX9_words 146 = .ok (.iadd, 1) := by decide +kernel
theorem dX9_words_147 : decode cX9_words 147 = .ok (.istore_n 3, 1) := by decide +kernel
theorem dX9_words_148 : decode cX9_words 148 = .ok (.iinc 6 1, 3) := by decide +kernel
theorem dX9_words_151 : decode cX9_words 151 = .ok (.goto (-110), 3) := by decide +kernel
theorem dX9_words_154 : decode cX9_words 154 = .ok (.aload_n 0, 1) := by decide +kernel
theorem dX9_words_155 : decode cX9_words 155 = .ok (.iconst 0, 1) := by decide +kernel
theorem dX9_words_156 : decode cX9_words 156 = .ok (.putfield 15, 3) := by decide +kernel
theorem dX9_words_159 : decode cX9_words 159 = .ok (.iload_n 3, 1) := by decide +kernel
theorem dX9_words_160 : decode cX9_words 160 = .ok (.ifCond .le 17, 3) := by decide +kernel
theorem dX9_words_163 : decode cX9_words 163 = .ok (.aload_n 0, 1) := by decide +kernel
theorem dX9_words_164 : decode cX9_words 164 = .ok (.iload 4, 2) := by decide +kernel
theorem dX9_words_166 : decode cX9_words 166 = .ok (.i2l, 1) := by decide +kernel
theorem dX9_words_167 : decode cX9_words 167 = .ok (.invokevirtual 311, 3) := by decide +kernel
theorem dX9_words_170 : decode cX9_words 170 = .ok (.aload_n 0, 1) := by decide +kernel
theorem dX9_words_171 : decode cX9_words 171 = .ok (.iload 5, 2) := by decide +kernel
theorem dX9_words_173 : decode cX9_words 173 = .ok (.i2l, 1) := by decide +kernel
theorem dX9_words_174 : decode cX9_words 174 = .ok (.invokevirtual 311, 3) := by decide +kernel
theorem dX9_words_177 : decode cX9_words 177 = .ok (.iload_n 3, 1) := by decide +kernel
theorem dX9_words_178 : decode cX9_words 178 = .ok (.ireturn, 1) := by decide +kernel
theorem dX9_loose_0 : decode cX9_loose 0 = .ok (.aload_n 0, 1) := by decide +kernel
theorem dX9_loose_1 : decode cX9_loose 1 = .ok (.iconst 0, 1) := by decide +kernel
theorem dX9_loose_2 : decode cX9_loose 2 = .ok (.putfield 3, 3) := by decide +kernel
theorem dX9_loose_5 : decode cX9_loose 5 = .ok (.iconst 0, 1) := by decide +kernel
theorem dX9_loose_6 : decode cX9_loose 6 = .ok (.istore_n 1, 1) := by decide +kernel
theorem dX9_loose_7 : decode cX9_loose 7 = .ok (.iconst 0, 1) := by decide +kernel
theorem dX9_loose_8 : decode cX9_loose 8 = .ok (.istore_n 2, 1) := by decide +kernel
theorem dX9_loose_9 : decode cX9_loose 9 = .ok (.iload_n 2, 1) := by decide +kernel
theorem dX9_loose_10 : decode cX9_loose 10 = .ok (.bipush 12, 2) := by decide +kernel
theorem dX9_loose_12 : decode cX9_loose 12 = .ok (.if_icmp .ge 65, 3) := by decide +kernel
theorem dX9_loose_15 : decode cX9_loose 15 = .ok (.aload_n 0, 1) := by decide +kernel
theorem dX9_loose_16 : decode cX9_loose 16 = .ok (.getfield 24, 3) := by decide +kernel
theorem dX9_loose_19 : decode cX9_loose 19 = .ok (.iload_n 2, 1) := by decide +kernel
theorem dX9_loose_20 : decode cX9_loose 20 = .ok (.bipush 6, 2) := by decide +kernel
theorem dX9_loose_22 : decode cX9_loose 22 = .ok (.idiv, 1) := by decide +kernel
theorem dX9_loose_23 : decode cX9_loose 23 = .ok (.iload_n 2, 1) := by decide +kernel
theorem dX9_loose_24 : decode cX9_loose 24 = .ok (.bipush 6, 2) := by decide +kernel
theorem dX9_loose_26 : decode cX9_loose 26 = .ok (.irem, 1) := by decide +kernel
theorem dX9_loose_27 : decode cX9_loose 27 = .ok (.invokestatic 262, 3) := by decide +kernel
theorem dX9_loose_30 : decode cX9_loose 30 = .ok (.ifCond .eq 25, 3) := by decide +kernel
theorem dX9_loose_33 : decode cX9_loose 33 = .ok (.aload_n 0, 1) := by decide +kernel
theorem dX9_loose_34 : decode cX9_loose 34 = .ok (.getfield 24, 3) := by decide +kernel
theorem dX9_loose_37 : decode cX9_loose 37 = .ok (.iload_n 2, 1) := by decide +kernel
theorem dX9_loose_38 : decode cX9_loose 38 = .ok (.bipush 6, 2) := by decide +kernel
theorem dX9_loose_40 : decode cX9_loose 40 = .ok (.idiv, 1) := by decide +kernel
theorem dX9_loose_41 : decode cX9_loose 41 = .ok (.iload_n 2, 1) := by decide +kernel
theorem dX9_loose_42 : decode cX9_loose 42 = .ok (.bipush 6, 2) := by decide +kernel
theorem dX9_loose_44 : decode cX9_loose 44 = .ok (.irem, 1) := by decide +kernel
theorem dX9_loose_45 : decode cX9_loose 45 = .ok (.invokestatic 278, 3) := by decide +kernel
theorem dX9_loose_48 : decode cX9_loose 48 = .ok (.ifCond .eq 7, 3) := by decide +kernel
theorem dX9_loose_51 : decode cX9_loose 51 = .ok (.iconst 1, 1) := by decide +kernel
theorem dX9_loose_52 : decode cX9_loose 52 = .ok (.goto 4, 3) := by decide +kernel
theorem dX9_loose_55 : decode cX9_loose 55 = .ok (.iconst 0, 1) := by decide +kernel
theorem dX9_loose_56 : decode cX9_loose 56 = .ok (.istore_n 3, 1) := by decide +kernel
theorem dX9_loose_57 : decode cX9_loose 57 = .ok (.iload_n 1, 1) := by decide +kernel
theorem dX9_loose_58 : decode cX9_loose 58 = .ok (.iload_n 3, 1) := by decide +kernel
theorem dX9_loose_59 : decode cX9_loose 59 = .ok (.ifCond .eq 9, 3) := by decide +kernel
theorem dX9_loose_62 : decode cX9_loose 62 = .ok (.iconst 1, 1) := by decide +kernel
theorem dX9_loose_63 : decode cX9_loose 63 = .ok (.iload_n 2, 1) := by decide +kernel
theorem dX9_loose_64 : decode cX9_loose 64 = .ok (.ishl, 1) := by decide +kernel
theorem dX9_loose_65 : decode cX9_loose 65 = .ok (.goto 4, 3) := by decide +kernel
theorem dX9_loose_68 : decode cX9_loose 68 = .ok (.iconst 0, 1) := by decide +kernel
theorem dX9_loose_69 : decode cX9_loose 69 = .ok (.ior, 1) := by decide +kernel
theorem dX9_loose_70 : decode cX9_loose 70 = .ok (.istore_n 1, 1) := by decide +kernel
theorem dX9_loose_71 : decode cX9_loose 71 = .ok (.iinc 2 1, 3) := by decide +kernel
theorem dX9_loose_74 : decode cX9_loose 74 = .ok (.goto (-65), 3) := by decide +kernel
theorem dX9_loose_77 : decode cX9_loose 77 = .ok (.aload_n 0, 1) := by decide +kernel
theorem dX9_loose_78 : decode cX9_loose 78 = .ok (.iconst 0, 1) := by decide +kernel
theorem dX9_loose_79 : decode cX9_loose 79 = .ok (.putfield 15, 3) := by decide +kernel
theorem dX9_loose_82 : decode cX9_loose 82 = .ok (.aload_n 0, 1) := by decide +kernel
theorem dX9_loose_83 : decode cX9_loose 83 = .ok (.iload_n 1, 1) := by decide +kernel
theorem dX9_loose_84 : decode cX9_loose 84 = .ok (.bipush 63, 2) := by decide +kernel
theorem dX9_loose_86 : decode cX9_loose 86 = .ok (.iand, 1) := by decide +kernel
theorem dX9_loose_87 : decode cX9_loose 87 = .ok (.invokestatic 131, 3) := by decide +kernel
theorem dX9_loose_90 : decode cX9_loose 90 = .ok (.i2l, 1) := by decide +kernel
theorem dX9_loose_91 : decode cX9_loose 91 = .ok (.invokevirtual 311, 3) := by decide +kernel
theorem dX9_loose_94 : decode cX9_loose 94 = .ok (.aload_n 0, 1) := by decide +kernel
theorem dX9_loose_95 : decode cX9_loose 95 = .ok (.iload_n 1, 1) := by decide +kernel
theorem dX9_loose_96 : decode cX9_loose 96 = .ok (.bipush 6, 2) := by decide +kernel
theorem dX9_loose_98 : decode cX9_loose 98 = .ok (.ishr, 1) := by decide +kernel
theorem dX9_loose_99 : decode cX9_loose 99 = .ok (.invokestatic 131, 3) := by decide +kernel
theorem dX9_loose_102 : decode cX9_loose 102 = .ok (.i2l, 1) := by decide +kernel
theorem dX9_loose_103 : decode cX9_loose 103 = .ok (.invokevirtual 311, 3) := by decide +kernel
theorem dX9_loose_106 : decode cX9_loose 106 = .ok (.iload_n 1, 1) := by decide +kernel
theorem dX9_loose_107 : decode cX9_loose 107 = .ok (.ireturn, 1) := by decide +kernel
theorem dX9_isLooseAmong_0 : decode cX9_isLooseAmong 0 = .ok (.iload_n 2, 1) := by decide +kernel
theorem dX9_isLooseAmong_1 : decode cX9_isLooseAmong 1 = .ok (.iload_n 1, 1) := by decide +kernel
theorem dX9_isLooseAmong_2 : decode cX9_isLooseAmong 2 = .ok (.bipush 6, 2) := by decide +kernel
theorem dX9_isLooseAmong_4 : decode cX9_isLooseAmong 4 = .ok (.if_icmp .ge 9, 3) := by decide +kernel
theorem dX9_isLooseAmong_7 : decode cX9_isLooseAmong 7 = .ok (.sipush 4032, 3) := by decide +kernel
theorem dX9_isLooseAmong_10 : decode cX9_isLooseAmong 10 = .ok (.goto 5, 3) := by decide +kernel
theorem dX9_isLooseAmong_13 : decode cX9_isLooseAmong 13 = .ok (.bipush 63, 2) := by decide +kernel
theorem dX9_isLooseAmong_15 : decode cX9_isLooseAmong 15 = .ok (.iand, 1) := by decide +kernel
theorem dX9_isLooseAmong_16 : decode cX9_isLooseAmong 16 = .ok (.istore_n 3, 1) := by decide +kernel
theorem dX9_isLooseAmong_17 : decode cX9_isLooseAmong 17 = .ok (.aload_n 0, 1) := by decide +kernel
theorem dX9_isLooseAmong_18 : decode cX9_isLooseAmong 18 = .ok (.getfield 64, 3) := by decide +kernel
theorem dX9_isLooseAmong_21 : decode cX9_isLooseAmong 21 = .ok (.iload_n 1, 1) := by decide +kernel
theorem dX9_isLooseAmong_22 : decode cX9_isLooseAmong 22 = .ok (.iaload, 1) := by decide +kernel
theorem dX9_isLooseAmong_23 : decode cX9_isLooseAmong 23 = .ok (.iload_n 3, 1) := by decide +kernel
theorem dX9_isLooseAmong_24 : decode cX9_isLooseAmong 24 = .ok (.iand, 1) := by decide +kernel
theorem dX9_isLooseAmong_25 : decode cX9_isLooseAmong 25 = .ok (.ifCond .eq 15, 3) := by decide +kernel
theorem dX9_isLooseAmong_28 : decode cX9_isLooseAmong 28 = .ok (.aload_n 0, 1) := by decide +kernel
theorem dX9_isLooseAmong_29 : decode cX9_isLooseAmong 29 = .ok (.getfield 64, 3) := by decide +kernel
theorem dX9_isLooseAmong_32 : decode cX9_isLooseAmong 32 = .ok (.iload_n 1, 1) := by decide +kernel
theorem dX9_isLooseAmong_33 : decode cX9_isLooseAmong 33 = .ok (.iaload, 1) := by decide +kernel
theorem dX9_isLooseAmong_34 : decode cX9_isLooseAmong 34 = .ok (.iload_n 3, 1) := by decide +kernel
theorem dX9_isLooseAmong_35 : decode cX9_isLooseAmong 35 = .ok (.iand, 1) := by decide +kernel
theorem dX9_isLooseAmong_36 : decode cX9_isLooseAmong 36 = .ok (.iload_n 3, 1) := by decide +kernel
theorem dX9_isLooseAmong_37 : decode cX9_isLooseAmong 37 = .ok (.if_icmp .ne 7, 3) := by decide +kernel
theorem dX9_isLooseAmong_40 : decode cX9_isLooseAmong 40 = .ok (.iconst 1, 1) := by decide +kernel
theorem dX9_isLooseAmong_41 : decode cX9_isLooseAmong 41 = .ok (.goto 4, 3) := by decide +kernel
theorem dX9_isLooseAmong_44 : decode cX9_isLooseAmong 44 = .ok (.iconst 0, 1) := by decide +kernel
theorem dX9_isLooseAmong_45 : decode cX9_isLooseAmong 45 = .ok (.ireturn, 1) := by decide +kernel
theorem dX9_sheds_0 : decode cX9_sheds 0 = .ok (.aload_n 0, 1) := by decide +kernel
theorem dX9_sheds_1 : decode cX9_sheds 1 = .ok (.iconst 0, 1) := by decide +kernel
theorem dX9_sheds_2 : decode cX9_sheds 2 = .ok (.putfield 3, 3) := by decide +kernel
theorem dX9_sheds_5 : decode cX9_sheds 5 = .ok (.aload_n 0, 1) := by decide +kernel
theorem dX9_sheds_6 : decode cX9_sheds 6 = .ok (.aload_n 0, 1) := by decide +kernel
theorem dX9_sheds_7 : decode cX9_sheds 7 = .ok (.getfield 24, 3) := by decide +kernel
theorem dX9_sheds_10 : decode cX9_sheds 10 = .ok (.invokevirtual 352, 3) := by decide +kernel
theorem dX9_sheds_13 : decode cX9_sheds 13 = .ok (.aload_n 0, 1) := by decide +kernel
theorem dX9_sheds_14 : decode cX9_sheds 14 = .ok (.getfield 24, 3) := by decide +kernel
theorem dX9_sheds_17 : decode cX9_sheds 17 = .ok (.invokestatic 356, 3) := by decide +kernel
theorem dX9_sheds_20 : decode cX9_sheds 20 = .ok (.istore_n 1, 1) := by decide +kernel
theorem dX9_sheds_21 : decode cX9_sheds 21 = .ok (.iconst 0, 1) := by decide +kernel
theorem dX9_sheds_22 : decode cX9_sheds 22 = .ok (.istore_n 2, 1) := by decide +kernel
theorem dX9_sheds_23 : decode cX9_sheds 23 = .ok (.iconst 1, 1) := by decide +kernel
theorem dX9_sheds_24 : decode cX9_sheds 24 = .ok (.istore_n 3, 1) := by decide +kernel
theorem dX9_sheds_25 : decode cX9_sheds 25 = .ok (.iload_n 3, 1) := by decide +kernel
theorem dX9_sheds_26 : decode cX9_sheds 26 = .ok (.ifCond .eq 108, 3) := by decide +kernel
theorem dX9_sheds_29 : decode cX9_sheds 29 = .ok (.iconst 0, 1) := by decide +kernel
theorem dX9_sheds_30 : decode cX9_sheds 30 = .ok (.istore 4, 2) := by decide +kernel
theorem dX9_sheds_32 : decode cX9_sheds 32 = .ok (.iload_n 1, 1) := by decide +kernel
theorem dX9_sheds_33 : decode cX9_sheds 33 = .ok (.bipush 63, 2) := by decide +kernel
theorem dX9_sheds_35 : decode cX9_sheds 35 = .ok (.iand, 1) := by decide +kernel
theorem dX9_sheds_36 : decode cX9_sheds 36 = .ok (.ifCond .eq 14, 3) := by decide +kernel
theorem dX9_sheds_39 : decode cX9_sheds 39 = .ok (.iload_n 1, 1) := by decide +kernel
theorem dX9_sheds_40 : decode cX9_sheds 40 = .ok (.bipush 6, 2) := by decide +kernel
theorem dX9_sheds_42 : decode cX9_sheds 42 = .ok (.ishr, 1) := by decide +kernel
theorem dX9_sheds_43 : decode cX9_sheds 43 = .ok (.ifCond .eq 7, 3) := by decide +kernel
theorem dX9_sheds_46 : decode cX9_sheds 46 = .ok (.iconst 1, 1) := by decide +kernel
theorem dX9_sheds_47 : decode cX9_sheds 47 = .ok (.goto 4, 3) := by decide +kernel
theorem dX9_sheds_50 : decode cX9_sheds 50 = .ok (.iconst 0, 1) := by decide +kernel
theorem dX9_sheds_51 : decode cX9_sheds 51 = .ok (.istore 5, 2) := by decide +kernel
theorem dX9_sheds_53 : decode cX9_sheds 53 = .ok (.iconst 0, 1) := by decide +kernel
theorem dX9_sheds_54 : decode cX9_sheds 54 = .ok (.istore 6, 2) := by decide +kernel
theorem dX9_sheds_56 : decode cX9_sheds 56 = .ok (.iload 6, 2) := by decide +kernel
theorem dX9_sheds_58 : decode cX9_sheds 58 = .ok (.bipush 12, 2) := by decide +kernel
theorem dX9_sheds_60 : decode cX9_sheds 60 = .ok (.if_icmp .ge 46, 3) := by decide +kernel
theorem dX9_sheds_63 : decode cX9_sheds 63 = .ok (.iload 5, 2) := by decide +kernel
theorem dX9_sheds_65 : decode cX9_sheds 65 = .ok (.ifCond .eq 41, 3) := by decide +kernel
theorem dX9_sheds_68 : decode cX9_sheds 68 = .ok (.iload 4, 2) := by decide +kernel
theorem dX9_sheds_70 : decode cX9_sheds 70 = .ok (.iload_n 1, 1) := by decide +kernel
theorem dX9_sheds_71 : decode cX9_sheds 71 = .ok (.iload 6, 2) := by decide +kernel
theorem dX9_sheds_73 : decode cX9_sheds 73 = .ok (.invokestatic 112, 3) := by decide +kernel
theorem dX9_sheds_76 : decode cX9_sheds 76 = .ok (.ifCond .eq 20, 3) := by decide +kernel
theorem dX9_sheds_79 : decode cX9_sheds 79 = .ok (.aload_n 0, 1) := by decide +kernel
theorem dX9_sheds_80 : decode cX9_sheds 80 = .ok (.iload 6, 2) := by decide +kernel
theorem dX9_sheds_82 : decode cX9_sheds 82 = .ok (.iload_n 1, 1) := by decide +kernel
theorem dX9_sheds_83 : decode cX9_sheds 83 = .ok (.invokevirtual 388, 3) := by decide +kernel
theorem dX9_sheds_86 : decode cX9_sheds 86 = .ok (.ifCond .eq 10, 3) := by decide +kernel
theorem dX9_sheds_89 : decode cX9_sheds 89 = .ok (.iconst 1, 1) := by decide +kernel
theorem dX9_sheds_90 : decode cX9_sheds 90 = .ok (.iload 6, 2) := by decide +kernel
theorem dX9_sheds_92 : decode cX9_sheds 92 = .ok (.ishl, 1) := by decide +kernel
theorem dX9_sheds_93 : decode cX9_sheds 93 = .ok (.goto 4, 3) := by decide +kernel
theorem dX9_sheds_96 : decode cX9_sheds 96 = .ok (.iconst 0, 1) := by decide +kernel
theorem dX9_sheds_97 : decode cX9_sheds 97 = .ok (.ior, 1) := by decide +kernel
theorem dX9_sheds_98 : decode cX9_sheds 98 = .ok (.istore 4, 2) := by decide +kernel
theorem dX9_sheds_100 : decode cX9_sheds 100 = .ok (.iinc 6 1, 3) := by decide +kernel
theorem dX9_sheds_103 : decode cX9_sheds 103 = .ok (.goto (-47), 3) := by decide +kernel
theorem dX9_sheds_106 : decode cX9_sheds 106 = .ok (.iload 4, 2) := by decide +kernel
theorem dX9_sheds_108 : decode cX9_sheds 108 = .ok (.ifCond .eq 7, 3) := by decide +kernel
theorem dX9_sheds_111 : decode cX9_sheds 111 = .ok (.iconst 1, 1) := by decide +kernel
theorem dX9_sheds_112 : decode cX9_sheds 112 = .ok (.goto 4, 3) := by decide +kernel
theorem dX9_sheds_115 : decode cX9_sheds 115 = .ok (.iconst 0, 1) := by decide +kernel
theorem dX9_sheds_116 : decode cX9_sheds 116 = .ok (.istore_n 3, 1) := by decide +kernel
theorem dX9_sheds_117 : decode cX9_sheds 117 = .ok (.iload_n 1, 1) := by decide +kernel
theorem dX9_sheds_118 : decode cX9_sheds 118 = .ok (.iload 4, 2) := by decide +kernel
theorem dX9_sheds_120 : decode cX9_sheds 120 = .ok (.iconst (-1), 1) := by decide +kernel
theorem dX9_sheds_121 : decode cX9_sheds 121 = .ok (.ixor, 1) := by decide +kernel
theorem dX9_sheds_122 : decode cX9_sheds 122 = .ok (.iand, 1) := by decide +kernel
theorem dX9_sheds_123 : decode cX9_sheds 123 = .ok (.istore_n 1, 1) := by decide +kernel
theorem dX9_sheds_124 : decode cX9_sheds 124 = .ok (.iload_n 2, 1) := by decide +kernel
theorem dX9_sheds_125 : decode cX9_sheds 125 = .ok (.iload_n 3, 1) := by decide +kernel
theorem dX9_sheds_126 : decode cX9_sheds 126 = .ok (.invokestatic 116, 3) := by decide +kernel
theorem dX9_sheds_129 : decode cX9_sheds 129 = .ok (.iadd, 1) := by decide +kernel
theorem dX9_sheds_130 : decode cX9_sheds 130 = .ok (.istore_n 2, 1) := by decide +kernel
theorem dX9_sheds_131 : decode cX9_sheds 131 = .ok (.goto (-106), 3) := by decide +kernel
theorem dX9_sheds_134 : decode cX9_sheds 134 = .ok (.aload_n 0, 1) := by decide +kernel
theorem dX9_sheds_135 : decode cX9_sheds 135 = .ok (.iconst 0, 1) := by decide +kernel
theorem dX9_sheds_136 : decode cX9_sheds 136 = .ok (.putfield 15, 3) := by decide +kernel
theorem dX9_sheds_139 : decode cX9_sheds 139 = .ok (.aload_n 0, 1) := by decide +kernel
theorem dX9_sheds_140 : decode cX9_sheds 140 = .ok (.iload_n 1, 1) := by decide +kernel
theorem dX9_sheds_141 : decode cX9_sheds 141 = .ok (.i2l, 1) := by decide +kernel
theorem dX9_sheds_142 : decode cX9_sheds 142 = .ok (.invokevirtual 311, 3) := by decide +kernel
theorem dX9_sheds_145 : decode cX9_sheds 145 = .ok (.aload_n 0, 1) := by decide +kernel
theorem dX9_sheds_146 : decode cX9_sheds 146 = .ok (.iload_n 2, 1) := by decide +kernel
theorem dX9_sheds_147 : decode cX9_sheds 147 = .ok (.i2l, 1) := by decide +kernel
theorem dX9_sheds_148 : decode cX9_sheds 148 = .ok (.invokevirtual 311, 3) := by decide +kernel
theorem dX9_sheds_151 : decode cX9_sheds 151 = .ok (.iload_n 1, 1) := by decide +kernel
theorem dX9_sheds_152 : decode cX9_sheds 152 = .ok (.invokestatic 131, 3) := by decide +kernel
theorem dX9_sheds_155 : decode cX9_sheds 155 = .ok (.ireturn, 1) := by decide +kernel
theorem dX9_hangs_0 : decode cX9_hangs 0 = .ok (.aload_n 0, 1) := by decide +kernel
theorem dX9_hangs_1 : decode cX9_hangs 1 = .ok (.iconst 0, 1) := by decide +kernel
theorem dX9_hangs_2 : decode cX9_hangs 2 = .ok (.putfield 3, 3) := by decide +kernel
theorem dX9_hangs_5 : decode cX9_hangs 5 = .ok (.aload_n 0, 1) := by decide +kernel
theorem dX9_hangs_6 : decode cX9_hangs 6 = .ok (.aload_n 0, 1) := by decide +kernel
theorem dX9_hangs_7 : decode cX9_hangs 7 = .ok (.getfield 24, 3) := by decide +kernel
theorem dX9_hangs_10 : decode cX9_hangs 10 = .ok (.invokevirtual 352, 3) := by decide +kernel
theorem dX9_hangs_13 : decode cX9_hangs 13 = .ok (.aload_n 0, 1) := by decide +kernel
theorem dX9_hangs_14 : decode cX9_hangs 14 = .ok (.getfield 24, 3) := by decide +kernel
theorem dX9_hangs_17 : decode cX9_hangs 17 = .ok (.invokestatic 356, 3) := by decide +kernel
theorem dX9_hangs_20 : decode cX9_hangs 20 = .ok (.istore_n 1, 1) := by decide +kernel
theorem dX9_hangs_21 : decode cX9_hangs 21 = .ok (.iconst 0, 1) := by decide +kernel
theorem dX9_hangs_22 : decode cX9_hangs 22 = .ok (.istore_n 2, 1) := by decide +kernel
theorem dX9_hangs_23 : decode cX9_hangs 23 = .ok (.iconst 0, 1) := by decide +kernel
theorem dX9_hangs_24 : decode cX9_hangs 24 = .ok (.istore_n 3, 1) := by decide +kernel
theorem dX9_hangs_25 : decode cX9_hangs 25 = .ok (.iconst 0, 1) := by decide +kernel
theorem dX9_hangs_26 : decode cX9_hangs 26 = .ok (.istore 4, 2) := by decide +kernel
theorem dX9_hangs_28 : decode cX9_hangs 28 = .ok (.iconst 0, 1) := by decide +kernel
theorem dX9_hangs_29 : decode cX9_hangs 29 = .ok (.istore 5, 2) := by decide +kernel
theorem dX9_hangs_31 : decode cX9_hangs 31 = .ok (.iload 5, 2) := by decide +kernel
theorem dX9_hangs_33 : decode cX9_hangs 33 = .ok (.bipush 12, 2) := by decide +kernel
theorem dX9_hangs_35 : decode cX9_hangs 35 = .ok (.if_icmp .ge 77, 3) := by decide +kernel
theorem dX9_hangs_38 : decode cX9_hangs 38 = .ok (.iload_n 1, 1) := by decide +kernel
theorem dX9_hangs_39 : decode cX9_hangs 39 = .ok (.iload 4, 2) := by decide +kernel
theorem dX9_hangs_41 : decode cX9_hangs 41 = .ok (.iconst (-1), 1) := by decide +kernel
theorem dX9_hangs_42 : decode cX9_hangs 42 = .ok (.ixor, 1) := by decide +kernel
theorem dX9_hangs_43 : decode cX9_hangs 43 = .ok (.iand, 1) := by decide +kernel
theorem dX9_hangs_44 : decode cX9_hangs 44 = .ok (.iload 5, 2) := by decide +kernel
theorem dX9_hangs_46 : decode cX9_hangs 46 = .ok (.invokestatic 112, 3) := by decide +kernel
theorem dX9_hangs_49 : decode cX9_hangs 49 = .ok (.ifCond .eq 57, 3) := by decide +kernel
theorem dX9_hangs_52 : decode cX9_hangs 52 = .ok (.iload 5, 2) := by decide +kernel
theorem dX9_hangs_54 : decode cX9_hangs 54 = .ok (.iload_n 1, 1) := by decide +kernel
theorem dX9_hangs_55 : decode cX9_hangs 55 = .ok (.aload_n 0, 1) := by decide +kernel
theorem dX9_hangs_56 : decode cX9_hangs 56 = .ok (.getfield 64, 3) := by decide +kernel
theorem dX9_hangs_59 : decode cX9_hangs 59 = .ok (.invokestatic 348, 3) := by decide +kernel
theorem dX9_hangs_62 : decode cX9_hangs 62 = .ok (.iload 5, 2) := by decide +kernel
theorem dX9_hangs_64 : decode cX9_hangs 64 = .ok (.iload_n 1, 1) := by decide +kernel
theorem dX9_hangs_65 : decode cX9_hangs 65 = .ok (.aload_n 0, 1) := by decide +kernel
theorem dX9_hangs_66 : decode cX9_hangs 66 = .ok (.getfield 67, 3) := by decide +kernel
theorem dX9_hangs_69 : decode cX9_hangs 69 = .ok (.invokestatic 348, 3) := by decide +kernel
theorem dX9_hangs_72 : decode cX9_hangs 72 = .ok (.iand, 1) := by decide +kernel
theorem dX9_hangs_73 : decode cX9_hangs 73 = .ok (.istore 6, 2) := by decide +kernel
theorem dX9_hangs_75 : decode cX9_hangs 75 = .ok (.iload 5, 2) := by decide +kernel
theorem dX9_hangs_77 : decode cX9_hangs 77 = .ok (.iload_n 1, 1) := by decide +kernel
theorem dX9_hangs_78 : decode cX9_hangs 78 = .ok (.aload_n 0, 1) := by decide +kernel
theorem dX9_hangs_79 : decode cX9_hangs 79 = .ok (.getfield 64, 3) := by decide +kernel
theorem dX9_hangs_82 : decode cX9_hangs 82 = .ok (.invokestatic 348, 3) := by decide +kernel
theorem dX9_hangs_85 : decode cX9_hangs 85 = .ok (.iload_n 1, 1) := by decide +kernel
theorem dX9_hangs_86 : decode cX9_hangs 86 = .ok (.if_icmp .ne 8, 3) := by decide +kernel
theorem dX9_hangs_89 : decode cX9_hangs 89 = .ok (.iload 6, 2) := by decide +kernel
theorem dX9_hangs_91 : decode cX9_hangs 91 = .ok (.goto 4, 3) := by decide +kernel
theorem dX9_hangs_94 : decode cX9_hangs 94 = .ok (.iload_n 3, 1) := by decide +kernel
theorem dX9_hangs_95 : decode cX9_hangs 95 = .ok (.istore_n 3, 1) := by decide +kernel
theorem dX9_hangs_96 : decode cX9_hangs 96 = .ok (.iload 4, 2) := by decide +kernel
theorem dX9_hangs_98 : decode cX9_hangs 98 = .ok (.iload 6, 2) := by decide +kernel
theorem dX9_hangs_100 : decode cX9_hangs 100 = .ok (.ior, 1) := by decide +kernel
theorem dX9_hangs_101 : decode cX9_hangs 101 = .ok (.istore 4, 2) := by decide +kernel
theorem dX9_hangs_103 : decode cX9_hangs 103 = .ok (.iinc 2 1, 3) := by decide +kernel
theorem dX9_hangs_106 : decode cX9_hangs 106 = .ok (.iinc 5 1, 3) := by decide +kernel
theorem dX9_hangs_109 : decode cX9_hangs 109 = .ok (.goto (-78), 3) := by decide +kernel
theorem dX9_hangs_112 : decode cX9_hangs 112 = .ok (.aload_n 0, 1) := by decide +kernel
theorem dX9_hangs_113 : decode cX9_hangs 113 = .ok (.iconst 0, 1) := by decide +kernel
theorem dX9_hangs_114 : decode cX9_hangs 114 = .ok (.putfield 15, 3) := by decide +kernel
theorem dX9_hangs_117 : decode cX9_hangs 117 = .ok (.aload_n 0, 1) := by decide +kernel
theorem dX9_hangs_118 : decode cX9_hangs 118 = .ok (.iload_n 2, 1) := by decide +kernel
theorem dX9_hangs_119 : decode cX9_hangs 119 = .ok (.i2l, 1) := by decide +kernel
theorem dX9_hangs_120 : decode cX9_hangs 120 = .ok (.invokevirtual 311, 3) := by decide +kernel
theorem dX9_hangs_123 : decode cX9_hangs 123 = .ok (.aload_n 0, 1) := by decide +kernel
theorem dX9_hangs_124 : decode cX9_hangs 124 = .ok (.iload_n 3, 1) := by decide +kernel
theorem dX9_hangs_125 : decode cX9_hangs 125 = .ok (.i2l, 1) := by decide +kernel
theorem dX9_hangs_126 : decode cX9_hangs 126 = .ok (.invokevirtual 311, 3) := by decide +kernel
theorem dX9_hangs_129 : decode cX9_hangs 129 = .ok (.iload_n 2, 1) := by decide +kernel
theorem dX9_hangs_130 : decode cX9_hangs 130 = .ok (.iconst 1, 1) := by decide +kernel
theorem dX9_hangs_131 : decode cX9_hangs 131 = .ok (.if_icmp .ne 7, 3) := by decide +kernel
theorem dX9_hangs_134 : decode cX9_hangs 134 = .ok (.iconst 1, 1) := by decide +kernel
theorem dX9_hangs_135 : decode cX9_hangs 135 = .ok (.goto 4, 3) := by decide +kernel
theorem dX9_hangs_138 : decode cX9_hangs 138 = .ok (.iconst 0, 1) := by decide +kernel
theorem dX9_hangs_139 : decode cX9_hangs 139 = .ok (.invokestatic 116, 3) := by decide +kernel
theorem dX9_hangs_142 : decode cX9_hangs 142 = .ok (.ireturn, 1) := by decide +kernel
theorem dX9_spares_0 : decode cX9_spares 0 = .ok (.aload_n 0, 1) := by decide +kernel
theorem dX9_spares_1 : decode cX9_spares 1 = .ok (.iconst 0, 1) := by decide +kernel
theorem dX9_spares_2 : decode cX9_spares 2 = .ok (.putfield 3, 3) := by decide +kernel
theorem dX9_spares_5 : decode cX9_spares 5 = .ok (.aload_n 0, 1) := by decide +kernel
theorem dX9_spares_6 : decode cX9_spares 6 = .ok (.aload_n 0, 1) := by decide +kernel
theorem dX9_spares_7 : decode cX9_spares 7 = .ok (.getfield 24, 3) := by decide +kernel
theorem dX9_spares_10 : decode cX9_spares 10 = .ok (.invokevirtual 352, 3) := by decide +kernel
theorem dX9_spares_13 : decode cX9_spares 13 = .ok (.aload_n 0, 1) := by decide +kernel
theorem dX9_spares_14 : decode cX9_spares 14 = .ok (.getfield 24, 3) := by decide +kernel
theorem dX9_spares_17 : decode cX9_spares 17 = .ok (.invokestatic 356, 3) := by decide +kernel
theorem dX9_spares_20 : decode cX9_spares 20 = .ok (.istore_n 1, 1) := by decide +kernel
theorem dX9_spares_21 : decode cX9_spares 21 = .ok (.iconst 0, 1) := by decide +kernel
theorem dX9_spares_22 : decode cX9_spares 22 = .ok (.istore_n 2, 1) := by decide +kernel
theorem dX9_spares_23 : decode cX9_spares 23 = .ok (.iconst 0, 1) := by decide +kernel
theorem dX9_spares_24 : decode cX9_spares 24 = .ok (.istore_n 3, 1) := by decide +kernel
theorem dX9_spares_25 : decode cX9_spares 25 = .ok (.iload_n 3, 1) := by decide +kernel
theorem dX9_spares_26 : decode cX9_spares 26 = .ok (.bipush 12, 2) := by decide +kernel
theorem dX9_spares_28 : decode cX9_spares 28 = .ok (.if_icmp .ge 41, 3) := by decide +kernel
theorem dX9_spares_31 : decode cX9_spares 31 = .ok (.iload_n 2, 1) := by decide +kernel
theorem dX9_spares_32 : decode cX9_spares 32 = .ok (.iload_n 1, 1) := by decide +kernel
theorem dX9_spares_33 : decode cX9_spares 33 = .ok (.iload_n 3, 1) := by decide +kernel
theorem dX9_spares_34 : decode cX9_spares 34 = .ok (.invokestatic 112, 3) := by decide +kernel
theorem dX9_spares_37 : decode cX9_spares 37 = .ok (.ifCond .eq 23, 3) := by decide +kernel
theorem dX9_spares_40 : decode cX9_spares 40 = .ok (.aload_n 0, 1) := by decide +kernel
theorem dX9_spares_41 : decode cX9_spares 41 = .ok (.iload_n 1, 1) := by decide +kernel
theorem dX9_spares_42 : decode cX9_spares 42 = .ok (.iconst 1, 1) := by decide +kernel
theorem dX9_spares_43 : decode cX9_spares 43 = .ok (.iload_n 3, 1) := by decide +kernel
theorem dX9_spares_44 : decode cX9_spares 44 = .ok (.ishl, 1) := by decide +kernel
theorem dX9_spares_45 : decode cX9_spares 45 = .ok (.iconst (-1), 1) := by decide +kernel
theorem dX9_spares_46 : decode cX9_spares 46 = .ok (.ixor, 1) := by decide +kernel
theorem dX9_spares_47 : decode cX9_spares 47 = .ok (.iand, 1) := by decide +kernel
theorem dX9_spares_48 : decode cX9_spares 48 = .ok (.invokevirtual 359, 3) := by decide +kernel
theorem dX9_spares_51 : decode cX9_spares 51 = .ok (.ifCond .eq 9, 3) := by decide +kernel
theorem dX9_spares_54 : decode cX9_spares 54 = .ok (.iconst 1, 1) := by decide +kernel
theorem dX9_spares_55 : decode cX9_spares 55 = .ok (.iload_n 3, 1) := by decide +kernel
theorem dX9_spares_56 : decode cX9_spares 56 = .ok (.ishl, 1) := by decide +kernel
theorem dX9_spares_57 : decode cX9_spares 57 = .ok (.goto 4, 3) := by decide +kernel
theorem dX9_spares_60 : decode cX9_spares 60 = .ok (.iconst 0, 1) := by decide +kernel
theorem dX9_spares_61 : decode cX9_spares 61 = .ok (.ior, 1) := by decide +kernel
theorem dX9_spares_62 : decode cX9_spares 62 = .ok (.istore_n 2, 1) := by decide +kernel
theorem dX9_spares_63 : decode cX9_spares 63 = .ok (.iinc 3 1, 3) := by decide +kernel
theorem dX9_spares_66 : decode cX9_spares 66 = .ok (.goto (-41), 3) := by decide +kernel
theorem dX9_spares_69 : decode cX9_spares 69 = .ok (.aload_n 0, 1) := by decide +kernel
theorem dX9_spares_70 : decode cX9_spares 70 = .ok (.iconst 0, 1) := by decide +kernel
theorem dX9_spares_71 : decode cX9_spares 71 = .ok (.putfield 15, 3) := by decide +kernel
theorem dX9_spares_74 : decode cX9_spares 74 = .ok (.aload_n 0, 1) := by decide +kernel
theorem dX9_spares_75 : decode cX9_spares 75 = .ok (.iload_n 2, 1) := by decide +kernel
theorem dX9_spares_76 : decode cX9_spares 76 = .ok (.invokestatic 131, 3) := by decide +kernel
theorem dX9_spares_79 : decode cX9_spares 79 = .ok (.i2l, 1) := by decide +kernel
theorem dX9_spares_80 : decode cX9_spares 80 = .ok (.invokevirtual 311, 3) := by decide +kernel
theorem dX9_spares_83 : decode cX9_spares 83 = .ok (.iload_n 2, 1) := by decide +kernel
theorem dX9_spares_84 : decode cX9_spares 84 = .ok (.ireturn, 1) := by decide +kernel
theorem dX9_isCell_0 : decode cX9_isCell 0 = .ok (.iload_n 1, 1) := by decide +kernel
theorem dX9_isCell_1 : decode cX9_isCell 1 = .ok (.bipush 6, 2) := by decide +kernel
theorem dX9_isCell_3 : decode cX9_isCell 3 = .ok (.idiv, 1) := by decide +kernel
theorem dX9_isCell_4 : decode cX9_isCell 4 = .ok (.aload_n 0, 1) := by decide +kernel
theorem dX9_isCell_5 : decode cX9_isCell 5 = .ok (.bipush 6, 2) := by decide +kernel
theorem dX9_isCell_7 : decode cX9_isCell 7 = .ok (.iaload, 1) := by decide +kernel
theorem dX9_isCell_8 : decode cX9_isCell 8 = .ok (.if_icmp .ge 18, 3) := by decide +kernel
theorem dX9_isCell_11 : decode cX9_isCell 11 = .ok (.iload_n 1, 1) := by decide +kernel
theorem dX9_isCell_12 : decode cX9_isCell 12 = .ok (.bipush 6, 2) := by decide +kernel
theorem dX9_isCell_14 : decode cX9_isCell 14 = .ok (.irem, 1) := by decide +kernel
theorem dX9_isCell_15 : decode cX9_isCell 15 = .ok (.aload_n 0, 1) := by decide +kernel
theorem dX9_isCell_16 : decode cX9_isCell 16 = .ok (.bipush 7, 2) := by decide +kernel
theorem dX9_isCell_18 : decode cX9_isCell 18 = .ok (.iaload, 1) := by decide +kernel
theorem dX9_isCell_19 : decode cX9_isCell 19 = .ok (.if_icmp .ge 7, 3) := by decide +kernel
theorem dX9_isCell_22 : decode cX9_isCell 22 = .ok (.iconst 1, 1) := by decide +kernel
theorem dX9_isCell_23 : decode cX9_isCell 23 = .ok (.goto 4, 3) := by decide +kernel
theorem dX9_isCell_26 : decode cX9_isCell 26 = .ok (.iconst 0, 1) := by decide +kernel
theorem dX9_isCell_27 : decode cX9_isCell 27 = .ok (.ireturn, 1) := by decide +kernel
theorem dX9_mends_0 : decode cX9_mends 0 = .ok (.aload_n 0, 1) := by decide +kernel
theorem dX9_mends_1 : decode cX9_mends 1 = .ok (.iconst 0, 1) := by decide +kernel
theorem dX9_mends_2 : decode cX9_mends 2 = .ok (.putfield 3, 3) := by decide +kernel
theorem dX9_mends_5 : decode cX9_mends 5 = .ok (.aload_n 0, 1) := by decide +kernel
theorem dX9_mends_6 : decode cX9_mends 6 = .ok (.getfield 28, 3) := by decide +kernel
theorem dX9_mends_9 : decode cX9_mends 9 = .ok (.aload_n 0, 1) := by decide +kernel
theorem dX9_mends_10 : decode cX9_mends 10 = .ok (.getfield 24, 3) := by decide +kernel
theorem dX9_mends_13 : decode cX9_mends 13 = .ok (.invokestatic 194, 3) := by decide +kernel
theorem dX9_mends_16 : decode cX9_mends 16 = .ok (.aload_n 0, 1) := by decide +kernel
theorem dX9_mends_17 : decode cX9_mends 17 = .ok (.aload_n 0, 1) := by decide +kernel
theorem dX9_mends_18 : decode cX9_mends 18 = .ok (.aload_n 0, 1) := by decide +kernel
theorem dX9_mends_19 : decode cX9_mends 19 = .ok (.getfield 28, 3) := by decide +kernel
theorem dX9_mends_22 : decode cX9_mends 22 = .ok (.invokevirtual 362, 3) := by decide +kernel
theorem dX9_mends_25 : decode cX9_mends 25 = .ok (.ifCond .eq 7, 3) := by decide +kernel
theorem dX9_mends_28 : decode cX9_mends 28 = .ok (.iconst 0, 1) := by decide +kernel
theorem dX9_mends_29 : decode cX9_mends 29 = .ok (.goto 7, 3) := by decide +kernel
theorem dX9_mends_32 : decode cX9_mends 32 = .ok (.aload_n 0, 1) := by decide +kernel
theorem dX9_mends_33 : decode cX9_mends 33 = .ok (.getfield 15, 3) := by decide +kernel
theorem dX9_mends_36 : decode cX9_mends 36 = .ok (.putfield 15, 3) := by decide +kernel
theorem dX9_mends_39 : decode cX9_mends 39 = .ok (.aload_n 0, 1) := by decide +kernel
theorem dX9_mends_40 : decode cX9_mends 40 = .ok (.aload_n 0, 1) := by decide +kernel
theorem dX9_mends_41 : decode cX9_mends 41 = .ok (.getfield 28, 3) := by decide +kernel
theorem dX9_mends_44 : decode cX9_mends 44 = .ok (.invokestatic 356, 3) := by decide +kernel
theorem dX9_mends_47 : decode cX9_mends 47 = .ok (.invokevirtual 359, 3) := by decide +kernel
theorem dX9_mends_50 : decode cX9_mends 50 = .ok (.ifCond .eq 5, 3) := by decide +kernel
theorem dX9_mends_53 : decode cX9_mends 53 = .ok (.iconst 0, 1) := by decide +kernel
theorem dX9_mends_54 : decode cX9_mends 54 = .ok (.ireturn, 1) := by decide +kernel
theorem dX9_mends_55 : decode cX9_mends 55 = .ok (.iconst 0, 1) := by decide +kernel
theorem dX9_mends_56 : decode cX9_mends 56 = .ok (.istore_n 1, 1) := by decide +kernel
theorem dX9_mends_57 : decode cX9_mends 57 = .ok (.iload_n 1, 1) := by decide +kernel
theorem dX9_mends_58 : decode cX9_mends 58 = .ok (.bipush 36, 2) := by decide +kernel
theorem dX9_mends_60 : decode cX9_mends 60 = .ok (.if_icmp .ge 71, 3) := by decide +kernel
theorem dX9_mends_63 : decode cX9_mends 63 = .ok (.aload_n 0, 1) := by decide +kernel
theorem dX9_mends_64 : decode cX9_mends 64 = .ok (.getfield 24, 3) := by decide +kernel
theorem dX9_mends_67 : decode cX9_mends 67 = .ok (.iload_n 1, 1) := by decide +kernel
theorem dX9_mends_68 : decode cX9_mends 68 = .ok (.invokestatic 391, 3) := by decide +kernel
theorem dX9_mends_71 : decode cX9_mends 71 = .ok (.ifCond .eq 54, 3) := by decide +kernel
theorem dX9_mends_74 : decode cX9_mends 74 = .ok (.aload_n 0, 1) := by decide +kernel
theorem dX9_mends_75 : decode cX9_mends 75 = .ok (.getfield 28, 3) := by decide +kernel
theorem dX9_mends_78 : decode cX9_mends 78 = .ok (.aload_n 0, 1) := by decide +kernel
theorem dX9_mends_79 : decode cX9_mends 79 = .ok (.getfield 24, 3) := by decide +kernel
theorem dX9_mends_82 : decode cX9_mends 82 = .ok (.invokestatic 194, 3) := by decide +kernel
theorem dX9_mends_85 : decode cX9_mends 85 = .ok (.aload_n 0, 1) := by decide +kernel
theorem dX9_mends_86 : decode cX9_mends 86 = .ok (.getfield 28, 3) := by decide +kernel
theorem dX9_mends_89 : decode cX9_mends 89 = .ok (.iload_n 1, 1) := by decide +kernel
theorem dX9_mends_90 : decode cX9_mends 90 = .ok (.bipush 6, 2) := by decide +kernel
theorem dX9_mends_92 : decode cX9_mends 92 = .ok (.idiv, 1) := by decide +kernel
theorem dX9_mends_93 : decode cX9_mends 93 = .ok (.iload_n 1, 1) := by decide +kernel
theorem dX9_mends_94 : decode cX9_mends 94 = .ok (.bipush 6, 2) := by decide +kernel
theorem dX9_mends_96 : decode cX9_mends 96 = .ok (.irem, 1) := by decide +kernel
theorem dX9_mends_97 : decode cX9_mends 97 = .ok (.invokestatic 328, 3) := by decide +kernel
theorem dX9_mends_100 : decode cX9_mends 100 = .ok (.pop, 1) := by decide +kernel
theorem dX9_mends_101 : decode cX9_mends 101 = .ok (.aload_n 0, 1) := by decide +kernel
theorem dX9_mends_102 : decode cX9_mends 102 = .ok (.aload_n 0, 1) := by decide +kernel
theorem dX9_mends_103 : decode cX9_mends 103 = .ok (.getfield 28, 3) := by decide +kernel
theorem dX9_mends_106 : decode cX9_mends 106 = .ok (.invokevirtual 362, 3) := by decide +kernel
theorem dX9_mends_109 : decode cX9_mends 109 = .ok (.ifCond .eq 16, 3) := by decide +kernel
theorem dX9_mends_112 : decode cX9_mends 112 = .ok (.aload_n 0, 1) := by decide +kernel
theorem dX9_mends_113 : decode cX9_mends 113 = .ok (.iconst 0, 1) := by decide +kernel
theorem dX9_mends_114 : decode cX9_mends 114 = .ok (.putfield 15, 3) := by decide +kernel
theorem dX9_mends_117 : decode cX9_mends 117 = .ok (.aload_n 0, 1) := by decide +kernel
theorem dX9_mends_118 : decode cX9_mends 118 = .ok (.iload_n 1, 1) := by decide +kernel
theorem dX9_mends_119 : decode cX9_mends 119 = .ok (.i2l, 1) := by decide +kernel
theorem dX9_mends_120 : decode cX9_mends 120 = .ok (.invokevirtual 311, 3) := by decide +kernel
theorem dX9_mends_123 : decode cX9_mends 123 = .ok (.iconst 1, 1) := by decide +kernel
theorem dX9_mends_124 : decode cX9_mends 124 = .ok (.ireturn, 1) := by decide +kernel
theorem dX9_mends_125 : decode cX9_mends 125 = .ok (.iinc 1 1, 3) := by decide +kernel
theorem dX9_mends_128 : decode cX9_mends 128 = .ok (.goto (-71), 3) := by decide +kernel
theorem dX9_mends_131 : decode cX9_mends 131 = .ok (.iconst 0, 1) := by decide +kernel
theorem dX9_mends_132 : decode cX9_mends 132 = .ok (.istore_n 1, 1) := by decide +kernel
theorem dX9_mends_133 : decode cX9_mends 133 = .ok (.iload_n 1, 1) := by decide +kernel
theorem dX9_mends_134 : decode cX9_mends 134 = .ok (.bipush 36, 2) := by decide +kernel
theorem dX9_mends_136 : decode cX9_mends 136 = .ok (.if_icmp .ge 120, 3) := by decide +kernel
theorem dX9_mends_139 : decode cX9_mends 139 = .ok (.iload_n 1, 1) := by decide +kernel
theorem dX9_mends_140 : decode cX9_mends 140 = .ok (.iconst 1, 1) := by decide +kernel
theorem dX9_mends_141 : decode cX9_mends 141 = .ok (.iadd, 1) := by decide +kernel
theorem dX9_mends_142 : decode cX9_mends 142 = .ok (.istore_n 2, 1) := by decide +kernel
theorem dX9_mends_143 : decode cX9_mends 143 = .ok (.iload_n 2, 1) := by decide +kernel
theorem dX9_mends_144 : decode cX9_mends 144 = .ok (.bipush 36, 2) := by decide +kernel
theorem dX9_mends_146 : decode cX9_mends 146 = .ok (.if_icmp .ge 104, 3) := by decide +kernel
theorem dX9_mends_149 : decode cX9_mends 149 = .ok (.aload_n 0, 1) := by decide +kernel
theorem dX9_mends_150 : decode cX9_mends 150 = .ok (.getfield 24, 3) := by decide +kernel
theorem dX9_mends_153 : decode cX9_mends 153 = .ok (.iload_n 1, 1) := by decide +kernel
theorem dX9_mends_154 : decode cX9_mends 154 = .ok (.invokestatic 391, 3) := by decide +kernel
theorem dX9_mends_157 : decode cX9_mends 157 = .ok (.ifCond .eq 93, 3) := by decide +kernel
theorem dX9_mends_160 : decode cX9_mends 160 = .ok (.aload_n 0, 1) := by decide +kernel
theorem dX9_mends_161 : decode cX9_mends 161 = .ok (.getfield 24, 3) := by decide +kernel
theorem dX9_mends_164 : decode cX9_mends 164 = .ok (.iload_n 2, 1) := by decide +kernel
theorem dX9_mends_165 : decode cX9_mends 165 = .ok (.invokestatic 391, 3) := by decide +kernel
theorem dX9_mends_168 : decode cX9_mends 168 = .ok (.ifCond .eq 76, 3) := by decide +kernel
theorem dX9_mends_171 : decode cX9_mends 171 = .ok (.aload_n 0, 1) := by decide +kernel
theorem dX9_mends_172 : decode cX9_mends 172 = .ok (.getfield 28, 3) := by decide +kernel
theorem dX9_mends_175 : decode cX9_mends 175 = .ok (.aload_n 0, 1) := by decide +kernel
theorem dX9_mends_176 : decode cX9_mends 176 = .ok (.getfield 24, 3) := by decide +kernel
theorem dX9_mends_179 : decode cX9_mends 179 = .ok (.invokestatic 194, 3) := by decide +kernel
theorem dX9_mends_182 : decode cX9_mends 182 = .ok (.aload_n 0, 1) := by decide +kernel
theorem dX9_mends_183 : decode cX9_mends 183 = .ok (.getfield 28, 3) := by decide +kernel
theorem dX9_mends_186 : decode cX9_mends 186 = .ok (.iload_n 1, 1) := by decide +kernel
theorem dX9_mends_187 : decode cX9_mends 187 = .ok (.bipush 6, 2) := by decide +kernel
theorem dX9_mends_189 : decode cX9_mends 189 = .ok (.idiv, 1) := by decide +kernel
theorem dX9_mends_190 : decode cX9_mends 190 = .ok (.iload_n 1, 1) := by decide +kernel
theorem dX9_mends_191 : decode cX9_mends 191 = .ok (.bipush 6, 2) := by decide +kernel
theorem dX9_mends_193 : decode cX9_mends 193 = .ok (.irem, 1) := by decide +kernel
theorem dX9_mends_194 : decode cX9_mends 194 = .ok (.invokestatic 328, 3) := by decide +kernel
theorem dX9_mends_197 : decode cX9_mends 197 = .ok (.pop, 1) := by decide +kernel
theorem dX9_mends_198 : decode cX9_mends 198 = .ok (.aload_n 0, 1) := by decide +kernel
theorem dX9_mends_199 : decode cX9_mends 199 = .ok (.getfield 28, 3) := by decide +kernel
theorem dX9_mends_202 : decode cX9_mends 202 = .ok (.iload_n 2, 1) := by decide +kernel
theorem dX9_mends_203 : decode cX9_mends 203 = .ok (.bipush 6, 2) := by decide +kernel
theorem dX9_mends_205 : decode cX9_mends 205 = .ok (.idiv, 1) := by decide +kernel
theorem dX9_mends_206 : decode cX9_mends 206 = .ok (.iload_n 2, 1) := by decide +kernel
theorem dX9_mends_207 : decode cX9_mends 207 = .ok (.bipush 6, 2) := by decide +kernel
theorem dX9_mends_209 : decode cX9_mends 209 = .ok (.irem, 1) := by decide +kernel
theorem dX9_mends_210 : decode cX9_mends 210 = .ok (.invokestatic 328, 3) := by decide +kernel
theorem dX9_mends_213 : decode cX9_mends 213 = .ok (.pop, 1) := by decide +kernel
theorem dX9_mends_214 : decode cX9_mends 214 = .ok (.aload_n 0, 1) := by decide +kernel
theorem dX9_mends_215 : decode cX9_mends 215 = .ok (.aload_n 0, 1) := by decide +kernel
theorem dX9_mends_216 : decode cX9_mends 216 = .ok (.getfield 28, 3) := by decide +kernel
theorem dX9_mends_219 : decode cX9_mends 219 = .ok (.invokevirtual 362, 3) := by decide +kernel
theorem dX9_mends_222 : decode cX9_mends 222 = .ok (.ifCond .eq 22, 3) := by decide +kernel
theorem dX9_mends_225 : decode cX9_mends 225 = .ok (.aload_n 0, 1) := by decide +kernel
theorem dX9_mends_226 : decode cX9_mends 226 = .ok (.iconst 0, 1) := by decide +kernel
theorem dX9_mends_227 : decode cX9_mends 227 = .ok (.putfield 15, 3) := by decide +kernel
theorem dX9_mends_230 : decode cX9_mends 230 = .ok (.aload_n 0, 1) := by decide +kernel
theorem dX9_mends_231 : decode cX9_mends 231 = .ok (.iload_n 1, 1) := by decide +kernel
theorem dX9_mends_232 : decode cX9_mends 232 = .ok (.i2l, 1) := by decide +kernel
theorem dX9_mends_233 : decode cX9_mends 233 = .ok (.invokevirtual 311, 3) := by decide +kernel
theorem dX9_mends_236 : decode cX9_mends 236 = .ok (.aload_n 0, 1) := by decide +kernel
theorem dX9_mends_237 : decode cX9_mends 237 = .ok (.iload_n 2, 1) := by decide +kernel
theorem dX9_mends_238 : decode cX9_mends 238 = .ok (.i2l, 1) := by decide +kernel
theorem dX9_mends_239 : decode cX9_mends 239 = .ok (.invokevirtual 311, 3) := by decide +kernel
theorem dX9_mends_242 : decode cX9_mends 242 = .ok (.iconst 2, 1) := by decide +kernel
theorem dX9_mends_243 : decode cX9_mends 243 = .ok (.ireturn, 1) := by decide +kernel
theorem dX9_mends_244 : decode cX9_mends 244 = .ok (.iinc 2 1, 3) := by decide +kernel
theorem dX9_mends_247 : decode cX9_mends 247 = .ok (.goto (-104), 3) := by decide +kernel
theorem dX9_mends_250 : decode cX9_mends 250 = .ok (.iinc 1 1, 3) := by decide +kernel
theorem dX9_mends_253 : decode cX9_mends 253 = .ok (.goto (-120), 3) := by decide +kernel
theorem dX9_mends_256 : decode cX9_mends 256 = .ok (.bipush (-2), 2) := by decide +kernel
theorem dX9_mends_258 : decode cX9_mends 258 = .ok (.ireturn, 1) := by decide +kernel
theorem dX9_endures_0 : decode cX9_endures 0 = .ok (.aload_n 0, 1) := by decide +kernel
theorem dX9_endures_1 : decode cX9_endures 1 = .ok (.iconst 0, 1) := by decide +kernel
theorem dX9_endures_2 : decode cX9_endures 2 = .ok (.putfield 3, 3) := by decide +kernel
theorem dX9_endures_5 : decode cX9_endures 5 = .ok (.aload_n 0, 1) := by decide +kernel
theorem dX9_endures_6 : decode cX9_endures 6 = .ok (.invokevirtual 394, 3) := by decide +kernel
theorem dX9_endures_9 : decode cX9_endures 9 = .ok (.aload_n 0, 1) := by decide +kernel
theorem dX9_endures_10 : decode cX9_endures 10 = .ok (.getfield 24, 3) := by decide +kernel
theorem dX9_endures_13 : decode cX9_endures 13 = .ok (.invokestatic 356, 3) := by decide +kernel
theorem dX9_endures_16 : decode cX9_endures 16 = .ok (.istore_n 1, 1) := by decide +kernel
theorem dX9_endures_17 : decode cX9_endures 17 = .ok (.iconst (-1), 1) := by decide +kernel
theorem dX9_endures_18 : decode cX9_endures 18 = .ok (.istore_n 2, 1) := by decide +kernel
theorem dX9_endures_19 : decode cX9_endures 19 = .ok (.iconst 0, 1) := by decide +kernel
theorem dX9_endures_20 : decode cX9_endures 20 = .ok (.istore_n 3, 1) := by decide +kernel
theorem dX9_endures_21 : decode cX9_endures 21 = .ok (.iload_n 3, 1) := by decide +kernel
theorem dX9_endures_22 : decode cX9_endures 22 = .ok (.iload_n 1, 1) := by decide +kernel
theorem dX9_endures_23 : decode cX9_endures 23 = .ok (.if_icmp .gt 148, 3) := by decide +kernel
theorem dX9_endures_26 : decode cX9_endures 26 = .ok (.iload_n 3, 1) := by decide +kernel
theorem dX9_endures_27 : decode cX9_endures 27 = .ok (.iload_n 1, 1) := by decide +kernel
theorem dX9_endures_28 : decode cX9_endures 28 = .ok (.iconst (-1), 1) := by decide +kernel
theorem dX9_endures_29 : decode cX9_endures 29 = .ok (.ixor, 1) := by decide +kernel
theorem dX9_endures_30 : decode cX9_endures 30 = .ok (.iand, 1) := by decide +kernel
theorem dX9_endures_31 : decode cX9_endures 31 = .ok (.ifCond .ne 20, 3) := by decide +kernel
theorem dX9_endures_34 : decode cX9_endures 34 = .ok (.aload_n 0, 1) := by decide +kernel
theorem dX9_endures_35 : decode cX9_endures 35 = .ok (.getfield 70, 3) := by decide +kernel
theorem dX9_endures_38 : decode cX9_endures 38 = .ok (.iload_n 1, 1) := by decide +kernel
theorem dX9_endures_39 : decode cX9_endures 39 = .ok (.iload_n 3, 1) := by decide +kernel
theorem dX9_endures_40 : decode cX9_endures 40 = .ok (.iconst (-1), 1) := by decide +kernel
theorem dX9_endures_41 : decode cX9_endures 41 = .ok (.ixor, 1) := by decide +kernel
theorem dX9_endures_42 : decode cX9_endures 42 = .ok (.iand, 1) := by decide +kernel
theorem dX9_endures_43 : decode cX9_endures 43 = .ok (.baload, 1) := by decide +kernel
theorem dX9_endures_44 : decode cX9_endures 44 = .ok (.ifCond .ne 7, 3) := by decide +kernel
theorem dX9_endures_47 : decode cX9_endures 47 = .ok (.iconst 1, 1) := by decide +kernel
theorem dX9_endures_48 : decode cX9_endures 48 = .ok (.goto 4, 3) := by decide +kernel
theorem dX9_endures_51 : decode cX9_endures 51 = .ok (.iconst 0, 1) := by decide +kernel
theorem dX9_endures_52 : decode cX9_endures 52 = .ok (.istore 4, 2) := by decide +kernel
theorem dX9_endures_54 : decode cX9_endures 54 = .ok (.iload 4, 2) := by decide +kernel
theorem dX9_endures_56 : decode cX9_endures 56 = .ok (.ifCond .eq 22, 3) := by decide +kernel
theorem dX9_endures_59 : decode cX9_endures 59 = .ok (.iload_n 2, 1) := by decide +kernel
theorem dX9_endures_60 : decode cX9_endures 60 = .ok (.ifCond .lt 14, 3) := by decide +kernel
theorem dX9_endures_63 : decode cX9_endures 63 = .ok (.iload_n 3, 1) := by decide +kernel
theorem dX9_endures_64 : decode cX9_endures 64 = .ok (.invokestatic 131, 3) := by decide +kernel
theorem dX9_endures_67 : decode cX9_endures 67 = .ok (.iload_n 2, 1) := by decide +kernel
theorem dX9_endures_68 : decode cX9_endures 68 = .ok (.invokestatic 131, 3) := by decide +kernel
theorem dX9_endures_71 : decode cX9_endures 71 = .ok (.if_icmp .ge 7, 3) := by decide +kernel
theorem dX9_endures_74 : decode cX9_endures 74 = .ok (.iload_n 3, 1) := by decide +kernel
theorem dX9_endures_75 : decode cX9_endures 75 = .ok (.goto 4, 3) := by decide +kernel
theorem dX9_endures_78 : decode cX9_endures 78 = .ok (.iload_n 2, 1) := by decide +kernel
theorem dX9_endures_79 : decode cX9_endures 79 = .ok (.istore_n 2, 1) := by decide +kernel
