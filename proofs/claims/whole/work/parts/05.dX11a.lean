theorem dX11_thrown_0 : decode cX11_thrown 0 = .ok (.aload_n 0, 1) := by decide +kernel
theorem dX11_thrown_1 : decode cX11_thrown 1 = .ok (.getfield 3, 3) := by decide +kernel
theorem dX11_thrown_4 : decode cX11_thrown 4 = .ok (.ireturn, 1) := by decide +kernel
theorem dX11_in_0 : decode cX11_in 0 = .ok (.lload_n 0, 1) := by decide +kernel
theorem dX11_in_1 : decode cX11_in 1 = .ok (.lload_n 2, 1) := by decide +kernel
theorem dX11_in_2 : decode cX11_in 2 = .ok (.lcmp, 1) := by decide +kernel
theorem dX11_in_3 : decode cX11_in 3 = .ok (.ifCond .lt 14, 3) := by decide +kernel
theorem dX11_in_6 : decode cX11_in 6 = .ok (.lload_n 0, 1) := by decide +kernel
theorem dX11_in_7 : decode cX11_in 7 = .ok (.lload 4, 2) := by decide +kernel
theorem dX11_in_9 : decode cX11_in 9 = .ok (.lcmp, 1) := by decide +kernel
theorem dX11_in_10 : decode cX11_in 10 = .ok (.ifCond .gt 7, 3) := by decide +kernel
theorem dX11_in_13 : decode cX11_in 13 = .ok (.iconst 1, 1) := by decide +kernel
theorem dX11_in_14 : decode cX11_in 14 = .ok (.goto 4, 3) := by decide +kernel
theorem dX11_in_17 : decode cX11_in 17 = .ok (.iconst 0, 1) := by decide +kernel
theorem dX11_in_18 : decode cX11_in 18 = .ok (.ireturn, 1) := by decide +kernel
theorem dX11_has_0 : decode cX11_has 0 = .ok (.iload_n 0, 1) := by decide +kernel
theorem dX11_has_1 : decode cX11_has 1 = .ok (.iload_n 1, 1) := by decide +kernel
theorem dX11_has_2 : decode cX11_has 2 = .ok (.ishr, 1) := by decide +kernel
theorem dX11_has_3 : decode cX11_has 3 = .ok (.iconst 1, 1) := by decide +kernel
theorem dX11_has_4 : decode cX11_has 4 = .ok (.iand, 1) := by decide +kernel
theorem dX11_has_5 : decode cX11_has 5 = .ok (.iconst 1, 1) := by decide +kernel
theorem dX11_has_6 : decode cX11_has 6 = .ok (.if_icmp .ne 7, 3) := by decide +kernel
theorem dX11_has_9 : decode cX11_has 9 = .ok (.iconst 1, 1) := by decide +kernel
theorem dX11_has_10 : decode cX11_has 10 = .ok (.goto 4, 3) := by decide +kernel
theorem dX11_has_13 : decode cX11_has 13 = .ok (.iconst 0, 1) := by decide +kernel
theorem dX11_has_14 : decode cX11_has 14 = .ok (.ireturn, 1) := by decide +kernel
theorem dX11_truth_0 : decode cX11_truth 0 = .ok (.iload_n 0, 1) := by decide +kernel
theorem dX11_truth_1 : decode cX11_truth 1 = .ok (.ifCond .eq 7, 3) := by decide +kernel
theorem dX11_truth_4 : decode cX11_truth 4 = .ok (.iconst 1, 1) := by decide +kernel
theorem dX11_truth_5 : decode cX11_truth 5 = .ok (.goto 4, 3) := by decide +kernel
theorem dX11_truth_8 : decode cX11_truth 8 = .ok (.iconst 0, 1) := by decide +kernel
theorem dX11_truth_9 : decode cX11_truth 9 = .ok (.ireturn, 1) := by decide +kernel
theorem dX11_refuse_0 : decode cX11_refuse 0 = .ok (.aload_n 0, 1) := by decide +kernel
theorem dX11_refuse_1 : decode cX11_refuse 1 = .ok (.iconst 1, 1) := by decide +kernel
theorem dX11_refuse_2 : decode cX11_refuse 2 = .ok (.putfield 3, 3) := by decide +kernel
theorem dX11_refuse_5 : decode cX11_refuse 5 = .ok (.iconst 0, 1) := by decide +kernel
theorem dX11_refuse_6 : decode cX11_refuse 6 = .ok (.ireturn, 1) := by decide +kernel
theorem dX11_enters_0 : decode cX11_enters 0 = .ok (.aload_n 0, 1) := by decide +kernel
theorem dX11_enters_1 : decode cX11_enters 1 = .ok (.getfield 7, 3) := by decide +kernel
theorem dX11_enters_4 : decode cX11_enters 4 = .ok (.aload_n 0, 1) := by decide +kernel
theorem dX11_enters_5 : decode cX11_enters 5 = .ok (.getfield 11, 3) := by decide +kernel
theorem dX11_enters_8 : decode cX11_enters 8 = .ok (.lload_n 1, 1) := by decide +kernel
theorem dX11_enters_9 : decode cX11_enters 9 = .ok (.lastore, 1) := by decide +kernel
theorem dX11_enters_10 : decode cX11_enters 10 = .ok (.aload_n 0, 1) := by decide +kernel
theorem dX11_enters_11 : decode cX11_enters 11 = .ok (.dup, 1) := by decide +kernel
theorem dX11_enters_12 : decode cX11_enters 12 = .ok (.getfield 11, 3) := by decide +kernel
theorem dX11_enters_15 : decode cX11_enters 15 = .ok (.iconst 1, 1) := by decide +kernel
theorem dX11_enters_16 : decode cX11_enters 16 = .ok (.iadd, 1) := by decide +kernel
theorem dX11_enters_17 : decode cX11_enters 17 = .ok (.putfield 11, 3) := by decide +kernel
theorem dX11_enters_20 : decode cX11_enters 20 = .ok (.return_, 1) := by decide +kernel
theorem dX11_sign_0 : decode cX11_sign 0 = .ok (.aload_n 0, 1) := by decide +kernel
theorem dX11_sign_1 : decode cX11_sign 1 = .ok (.iconst 0, 1) := by decide +kernel
theorem dX11_sign_2 : decode cX11_sign 2 = .ok (.putfield 3, 3) := by decide +kernel
theorem dX11_sign_5 : decode cX11_sign 5 = .ok (.aload_n 0, 1) := by decide +kernel
theorem dX11_sign_6 : decode cX11_sign 6 = .ok (.getfield 14, 3) := by decide +kernel
theorem dX11_sign_9 : decode cX11_sign 9 = .ok (.bipush 96, 2) := by decide +kernel
theorem dX11_sign_11 : decode cX11_sign 11 = .ok (.if_icmp .le 5, 3) := by decide +kernel
theorem dX11_sign_14 : decode cX11_sign 14 = .ok (.iconst (-1), 1) := by decide +kernel
theorem dX11_sign_15 : decode cX11_sign 15 = .ok (.ireturn, 1) := by decide +kernel
theorem dX11_sign_16 : decode cX11_sign 16 = .ok (.iconst 0, 1) := by decide +kernel
theorem dX11_sign_17 : decode cX11_sign 17 = .ok (.istore_n 2, 1) := by decide +kernel
theorem dX11_sign_18 : decode cX11_sign 18 = .ok (.iload_n 2, 1) := by decide +kernel
theorem dX11_sign_19 : decode cX11_sign 19 = .ok (.iconst 4, 1) := by decide +kernel
theorem dX11_sign_20 : decode cX11_sign 20 = .ok (.if_icmp .ge 33, 3) := by decide +kernel
theorem dX11_sign_23 : decode cX11_sign 23 = .ok (.aload_n 0, 1) := by decide +kernel
theorem dX11_sign_24 : decode cX11_sign 24 = .ok (.getfield 17, 3) := by decide +kernel
theorem dX11_sign_27 : decode cX11_sign 27 = .ok (.aload_n 0, 1) := by decide +kernel
theorem dX11_sign_28 : decode cX11_sign 28 = .ok (.getfield 14, 3) := by decide +kernel
theorem dX11_sign_31 : decode cX11_sign 31 = .ok (.iload_n 2, 1) := by decide +kernel
theorem dX11_sign_32 : decode cX11_sign 32 = .ok (.iadd, 1) := by decide +kernel
theorem dX11_sign_33 : decode cX11_sign 33 = .ok (.iload_n 1, 1) := by decide +kernel
theorem dX11_sign_34 : decode cX11_sign 34 = .ok (.bipush 24, 2) := by decide +kernel
theorem dX11_sign_36 : decode cX11_sign 36 = .ok (.bipush 8, 2) := by decide +kernel
theorem dX11_sign_38 : decode cX11_sign 38 = .ok (.iload_n 2, 1) := by decide +kernel
theorem dX11_sign_39 : decode cX11_sign 39 = .ok (.imul, 1) := by decide +kernel
theorem dX11_sign_40 : decode cX11_sign 40 = .ok (.isub, 1) := by decide +kernel
theorem dX11_sign_41 : decode cX11_sign 41 = .ok (.ishr, 1) := by decide +kernel
theorem dX11_sign_42 : decode cX11_sign 42 = .ok (.sipush 255, 3) := by decide +kernel
theorem dX11_sign_45 : decode cX11_sign 45 = .ok (.iand, 1) := by decide +kernel
theorem dX11_sign_46 : decode cX11_sign 46 = .ok (.iastore, 1) := by decide +kernel
theorem dX11_sign_47 : decode cX11_sign 47 = .ok (.iinc 2 1, 3) := by decide +kernel
theorem dX11_sign_50 : decode cX11_sign 50 = .ok (.goto (-32), 3) := by decide +kernel
theorem dX11_sign_53 : decode cX11_sign 53 = .ok (.aload_n 0, 1) := by decide +kernel
theorem dX11_sign_54 : decode cX11_sign 54 = .ok (.dup, 1) := by decide +kernel
theorem dX11_sign_55 : decode cX11_sign 55 = .ok (.getfield 14, 3) := by decide +kernel
theorem dX11_sign_58 : decode cX11_sign 58 = .ok (.iconst 4, 1) := by decide +kernel
theorem dX11_sign_59 : decode cX11_sign 59 = .ok (.iadd, 1) := by decide +kernel
theorem dX11_sign_60 : decode cX11_sign 60 = .ok (.putfield 14, 3) := by decide +kernel
theorem dX11_sign_63 : decode cX11_sign 63 = .ok (.aload_n 0, 1) := by decide +kernel
theorem dX11_sign_64 : decode cX11_sign 64 = .ok (.getfield 14, 3) := by decide +kernel
theorem dX11_sign_67 : decode cX11_sign 67 = .ok (.ireturn, 1) := by decide +kernel
theorem dX11_end_0 : decode cX11_end 0 = .ok (.aload_n 0, 1) := by decide +kernel
theorem dX11_end_1 : decode cX11_end 1 = .ok (.iconst 0, 1) := by decide +kernel
theorem dX11_end_2 : decode cX11_end 2 = .ok (.putfield 3, 3) := by decide +kernel
theorem dX11_end_5 : decode cX11_end 5 = .ok (.iload_n 1, 1) := by decide +kernel
theorem dX11_end_6 : decode cX11_end 6 = .ok (.i2l, 1) := by decide +kernel
theorem dX11_end_7 : decode cX11_end 7 = .ok (.lconst 0, 1) := by decide +kernel
theorem dX11_end_8 : decode cX11_end 8 = .ok (.aload_n 0, 1) := by decide +kernel
theorem dX11_end_9 : decode cX11_end 9 = .ok (.getfield 14, 3) := by decide +kernel
theorem dX11_end_12 : decode cX11_end 12 = .ok (.i2l, 1) := by decide +kernel
theorem dX11_end_13 : decode cX11_end 13 = .ok (.invokestatic 21, 3) := by decide +kernel
theorem dX11_end_16 : decode cX11_end 16 = .ok (.ifCond .ne 5, 3) := by decide +kernel
theorem dX11_end_19 : decode cX11_end 19 = .ok (.iconst 0, 1) := by decide +kernel
theorem dX11_end_20 : decode cX11_end 20 = .ok (.ireturn, 1) := by decide +kernel
theorem dX11_end_21 : decode cX11_end 21 = .ok (.aload_n 0, 1) := by decide +kernel
theorem dX11_end_22 : decode cX11_end 22 = .ok (.iload_n 1, 1) := by decide +kernel
theorem dX11_end_23 : decode cX11_end 23 = .ok (.putfield 14, 3) := by decide +kernel
theorem dX11_end_26 : decode cX11_end 26 = .ok (.iconst 1, 1) := by decide +kernel
theorem dX11_end_27 : decode cX11_end 27 = .ok (.ireturn, 1) := by decide +kernel
theorem dX11_isAt_0 : decode cX11_isAt 0 = .ok (.aload_n 0, 1) := by decide +kernel
theorem dX11_isAt_1 : decode cX11_isAt 1 = .ok (.getfield 25, 3) := by decide +kernel
theorem dX11_isAt_4 : decode cX11_isAt 4 = .ok (.aload_n 0, 1) := by decide +kernel
theorem dX11_isAt_5 : decode cX11_isAt 5 = .ok (.getfield 28, 3) := by decide +kernel
theorem dX11_isAt_8 : decode cX11_isAt 8 = .ok (.if_icmp .ge 20, 3) := by decide +kernel
theorem dX11_isAt_11 : decode cX11_isAt 11 = .ok (.aload_n 0, 1) := by decide +kernel
theorem dX11_isAt_12 : decode cX11_isAt 12 = .ok (.getfield 17, 3) := by decide +kernel
theorem dX11_isAt_15 : decode cX11_isAt 15 = .ok (.aload_n 0, 1) := by decide +kernel
theorem dX11_isAt_16 : decode cX11_isAt 16 = .ok (.getfield 25, 3) := by decide +kernel
theorem dX11_isAt_19 : decode cX11_isAt 19 = .ok (.iaload, 1) := by decide +kernel
theorem dX11_isAt_20 : decode cX11_isAt 20 = .ok (.iload_n 1, 1) := by decide +kernel
theorem dX11_isAt_21 : decode cX11_isAt 21 = .ok (.if_icmp .ne 7, 3) := by decide +kernel
theorem dX11_isAt_24 : decode cX11_isAt 24 = .ok (.iconst 1, 1) := by decide +kernel
theorem dX11_isAt_25 : decode cX11_isAt 25 = .ok (.goto 4, 3) := by decide +kernel
theorem dX11_isAt_28 : decode cX11_isAt 28 = .ok (.iconst 0, 1) := by decide +kernel
theorem dX11_isAt_29 : decode cX11_isAt 29 = .ok (.ireturn, 1) := by decide +kernel
theorem dX11_comes_0 : decode cX11_comes 0 = .ok (.aload_n 0, 1) := by decide +kernel
theorem dX11_comes_1 : decode cX11_comes 1 = .ok (.iload_n 1, 1) := by decide +kernel
theorem dX11_comes_2 : decode cX11_comes 2 = .ok (.invokevirtual 31, 3) := by decide +kernel
theorem dX11_comes_5 : decode cX11_comes 5 = .ok (.istore_n 2, 1) := by decide +kernel
theorem dX11_comes_6 : decode cX11_comes 6 = .ok (.aload_n 0, 1) := by decide +kernel
theorem dX11_comes_7 : decode cX11_comes 7 = .ok (.dup, 1) := by decide +kernel
theorem dX11_comes_8 : decode cX11_comes 8 = .ok (.getfield 25, 3) := by decide +kernel
theorem dX11_comes_11 : decode cX11_comes 11 = .ok (.iload_n 2, 1) := by decide +kernel
theorem dX11_comes_12 : decode cX11_comes 12 = .ok (.invokestatic 35, 3) := by decide +kernel
theorem dX11_comes_15 : decode cX11_comes 15 = .ok (.iadd, 1) := by decide +kernel
theorem dX11_comes_16 : decode cX11_comes 16 = .ok (.putfield 25, 3) := by decide +kernel
theorem dX11_comes_19 : decode cX11_comes 19 = .ok (.iload_n 2, 1) := by decide +kernel
theorem dX11_comes_20 : decode cX11_comes 20 = .ok (.ireturn, 1) := by decide +kernel
theorem dX11_isDigit_0 : decode cX11_isDigit 0 = .ok (.aload_n 0, 1) := by decide +kernel
theorem dX11_isDigit_1 : decode cX11_isDigit 1 = .ok (.getfield 25, 3) := by decide +kernel
theorem dX11_isDigit_4 : decode cX11_isDigit 4 = .ok (.aload_n 0, 1) := by decide +kernel
theorem dX11_isDigit_5 : decode cX11_isDigit 5 = .ok (.getfield 28, 3) := by decide +kernel
theorem dX11_isDigit_8 : decode cX11_isDigit 8 = .ok (.if_icmp .ge 29, 3) := by decide +kernel
theorem dX11_isDigit_11 : decode cX11_isDigit 11 = .ok (.aload_n 0, 1) := by decide +kernel
theorem dX11_isDigit_12 : decode cX11_isDigit 12 = .ok (.getfield 17, 3) := by decide +kernel
theorem dX11_isDigit_15 : decode cX11_isDigit 15 = .ok (.aload_n 0, 1) := by decide +kernel
theorem dX11_isDigit_16 : decode cX11_isDigit 16 = .ok (.getfield 25, 3) := by decide +kernel
theorem dX11_isDigit_19 : decode cX11_isDigit 19 = .ok (.iaload, 1) := by decide +kernel
theorem dX11_isDigit_20 : decode cX11_isDigit 20 = .ok (.i2l, 1) := by decide +kernel
theorem dX11_isDigit_21 : decode cX11_isDigit 21 = .ok (.ldc2_w 39, 3) := by decide +kernel
theorem dX11_isDigit_24 : decode cX11_isDigit 24 = .ok (.ldc2_w 41, 3) := by decide +kernel
theorem dX11_isDigit_27 : decode cX11_isDigit 27 = .ok (.invokestatic 21, 3) := by decide +kernel
theorem dX11_isDigit_30 : decode cX11_isDigit 30 = .ok (.ifCond .eq 7, 3) := by decide +kernel
theorem dX11_isDigit_33 : decode cX11_isDigit 33 = .ok (.iconst 1, 1) := by decide +kernel
theorem dX11_isDigit_34 : decode cX11_isDigit 34 = .ok (.goto 4, 3) := by decide +kernel
theorem dX11_isDigit_37 : decode cX11_isDigit 37 = .ok (.iconst 0, 1) := by decide +kernel
theorem dX11_isDigit_38 : decode cX11_isDigit 38 = .ok (.ireturn, 1) := by decide +kernel
theorem dX11_marks_0 : decode cX11_marks 0 = .ok (.aload_n 0, 1) := by decide +kernel
theorem dX11_marks_1 : decode cX11_marks 1 = .ok (.getfield 43, 3) := by decide +kernel
theorem dX11_marks_4 : decode cX11_marks 4 = .ok (.bipush 64, 2) := by decide +kernel
theorem dX11_marks_6 : decode cX11_marks 6 = .ok (.aload_n 0, 1) := by decide +kernel
theorem dX11_marks_7 : decode cX11_marks 7 = .ok (.getfield 46, 3) := by decide +kernel
theorem dX11_marks_10 : decode cX11_marks 10 = .ok (.imul, 1) := by decide +kernel
theorem dX11_marks_11 : decode cX11_marks 11 = .ok (.aload_n 0, 1) := by decide +kernel
theorem dX11_marks_12 : decode cX11_marks 12 = .ok (.getfield 49, 3) := by decide +kernel
theorem dX11_marks_15 : decode cX11_marks 15 = .ok (.aload_n 0, 1) := by decide +kernel
theorem dX11_marks_16 : decode cX11_marks 16 = .ok (.getfield 46, 3) := by decide +kernel
theorem dX11_marks_19 : decode cX11_marks 19 = .ok (.iaload, 1) := by decide +kernel
theorem dX11_marks_20 : decode cX11_marks 20 = .ok (.iadd, 1) := by decide +kernel
theorem dX11_marks_21 : decode cX11_marks 21 = .ok (.iload_n 1, 1) := by decide +kernel
theorem dX11_marks_22 : decode cX11_marks 22 = .ok (.iastore, 1) := by decide +kernel
theorem dX11_marks_23 : decode cX11_marks 23 = .ok (.aload_n 0, 1) := by decide +kernel
theorem dX11_marks_24 : decode cX11_marks 24 = .ok (.getfield 49, 3) := by decide +kernel
theorem dX11_marks_27 : decode cX11_marks 27 = .ok (.aload_n 0, 1) := by decide +kernel
theorem dX11_marks_28 : decode cX11_marks 28 = .ok (.getfield 46, 3) := by decide +kernel
theorem dX11_marks_31 : decode cX11_marks 31 = .ok (.dup2, 1) := by decide +kernel
theorem dX11_marks_32 : decode cX11_marks 32 = .ok (.iaload, 1) := by decide +kernel
theorem dX11_marks_33 : decode cX11_marks 33 = .ok (.iconst 1, 1) := by decide +kernel
theorem dX11_marks_34 : decode cX11_marks 34 = .ok (.iadd, 1) := by decide +kernel
theorem dX11_marks_35 : decode cX11_marks 35 = .ok (.iastore, 1) := by decide +kernel
theorem dX11_marks_36 : decode cX11_marks 36 = .ok (.return_, 1) := by decide +kernel
theorem dX11_digits_0 : decode cX11_digits 0 = .ok (.aload_n 0, 1) := by decide +kernel
theorem dX11_digits_1 : decode cX11_digits 1 = .ok (.invokevirtual 52, 3) := by decide +kernel
theorem dX11_digits_4 : decode cX11_digits 4 = .ok (.ifCond .ne 5, 3) := by decide +kernel
theorem dX11_digits_7 : decode cX11_digits 7 = .ok (.iconst (-1), 1) := by decide +kernel
theorem dX11_digits_8 : decode cX11_digits 8 = .ok (.ireturn, 1) := by decide +kernel
theorem dX11_digits_9 : decode cX11_digits 9 = .ok (.iconst 0, 1) := by decide +kernel
theorem dX11_digits_10 : decode cX11_digits 10 = .ok (.istore_n 2, 1) := by decide +kernel
theorem dX11_digits_11 : decode cX11_digits 11 = .ok (.iconst 0, 1) := by decide +kernel
theorem dX11_digits_12 : decode cX11_digits 12 = .ok (.istore_n 3, 1) := by decide +kernel
theorem dX11_digits_13 : decode cX11_digits 13 = .ok (.iload_n 3, 1) := by decide +kernel
theorem dX11_digits_14 : decode cX11_digits 14 = .ok (.iload_n 1, 1) := by decide +kernel
theorem dX11_digits_15 : decode cX11_digits 15 = .ok (.if_icmp .ge 44, 3) := by decide +kernel
theorem dX11_digits_18 : decode cX11_digits 18 = .ok (.aload_n 0, 1) := by decide +kernel
theorem dX11_digits_19 : decode cX11_digits 19 = .ok (.invokevirtual 52, 3) := by decide +kernel
theorem dX11_digits_22 : decode cX11_digits 22 = .ok (.ifCond .eq 37, 3) := by decide +kernel
theorem dX11_digits_25 : decode cX11_digits 25 = .ok (.bipush 10, 2) := by decide +kernel
theorem dX11_digits_27 : decode cX11_digits 27 = .ok (.iload_n 2, 1) := by decide +kernel
theorem dX11_digits_28 : decode cX11_digits 28 = .ok (.imul, 1) := by decide +kernel
theorem dX11_digits_29 : decode cX11_digits 29 = .ok (.aload_n 0, 1) := by decide +kernel
theorem dX11_digits_30 : decode cX11_digits 30 = .ok (.getfield 17, 3) := by decide +kernel
theorem dX11_digits_33 : decode cX11_digits 33 = .ok (.aload_n 0, 1) := by decide +kernel
theorem dX11_digits_34 : decode cX11_digits 34 = .ok (.getfield 25, 3) := by decide +kernel
theorem dX11_digits_37 : decode cX11_digits 37 = .ok (.iaload, 1) := by decide +kernel
theorem dX11_digits_38 : decode cX11_digits 38 = .ok (.iadd, 1) := by decide +kernel
theorem dX11_digits_39 : decode cX11_digits 39 = .ok (.bipush 48, 2) := by decide +kernel
theorem dX11_digits_41 : decode cX11_digits 41 = .ok (.isub, 1) := by decide +kernel
theorem dX11_digits_42 : decode cX11_digits 42 = .ok (.istore_n 2, 1) := by decide +kernel
theorem dX11_digits_43 : decode cX11_digits 43 = .ok (.aload_n 0, 1) := by decide +kernel
theorem dX11_digits_44 : decode cX11_digits 44 = .ok (.dup, 1) := by decide +kernel
theorem dX11_digits_45 : decode cX11_digits 45 = .ok (.getfield 25, 3) := by decide +kernel
theorem dX11_digits_48 : decode cX11_digits 48 = .ok (.iconst 1, 1) := by decide +kernel
theorem dX11_digits_49 : decode cX11_digits 49 = .ok (.iadd, 1) := by decide +kernel
theorem dX11_digits_50 : decode cX11_digits 50 = .ok (.putfield 25, 3) := by decide +kernel
theorem dX11_digits_53 : decode cX11_digits 53 = .ok (.iinc 3 1, 3) := by decide +kernel
theorem dX11_digits_56 : decode cX11_digits 56 = .ok (.goto (-43), 3) := by decide +kernel
theorem dX11_digits_59 : decode cX11_digits 59 = .ok (.iload_n 2, 1) := by decide +kernel
theorem dX11_digits_60 : decode cX11_digits 60 = .ok (.ireturn, 1) := by decide +kernel
theorem dX11_letter_0 : decode cX11_letter 0 = .ok (.aload_n 0, 1) := by decide +kernel
theorem dX11_letter_1 : decode cX11_letter 1 = .ok (.getfield 25, 3) := by decide +kernel
theorem dX11_letter_4 : decode cX11_letter 4 = .ok (.aload_n 0, 1) := by decide +kernel
theorem dX11_letter_5 : decode cX11_letter 5 = .ok (.getfield 28, 3) := by decide +kernel
theorem dX11_letter_8 : decode cX11_letter 8 = .ok (.if_icmp .ge 15, 3) := by decide +kernel
theorem dX11_letter_11 : decode cX11_letter 11 = .ok (.aload_n 0, 1) := by decide +kernel
theorem dX11_letter_12 : decode cX11_letter 12 = .ok (.getfield 17, 3) := by decide +kernel
theorem dX11_letter_15 : decode cX11_letter 15 = .ok (.aload_n 0, 1) := by decide +kernel
theorem dX11_letter_16 : decode cX11_letter 16 = .ok (.getfield 25, 3) := by decide +kernel
theorem dX11_letter_19 : decode cX11_letter 19 = .ok (.iaload, 1) := by decide +kernel
theorem dX11_letter_20 : decode cX11_letter 20 = .ok (.goto 4, 3) := by decide +kernel
theorem dX11_letter_23 : decode cX11_letter 23 = .ok (.iconst 0, 1) := by decide +kernel
theorem dX11_letter_24 : decode cX11_letter 24 = .ok (.istore_n 1, 1) := by decide +kernel
theorem dX11_letter_25 : decode cX11_letter 25 = .ok (.iload_n 1, 1) := by decide +kernel
theorem dX11_letter_26 : decode cX11_letter 26 = .ok (.i2l, 1) := by decide +kernel
theorem dX11_letter_27 : decode cX11_letter 27 = .ok (.ldc2_w 56, 3) := by decide +kernel
theorem dX11_letter_30 : decode cX11_letter 30 = .ok (.ldc2_w 58, 3) := by decide +kernel
theorem dX11_letter_33 : decode cX11_letter 33 = .ok (.invokestatic 21, 3) := by decide +kernel
theorem dX11_letter_36 : decode cX11_letter 36 = .ok (.ifCond .eq 12, 3) := by decide +kernel
theorem dX11_letter_39 : decode cX11_letter 39 = .ok (.sipush 1000, 3) := by decide +kernel
theorem dX11_letter_42 : decode cX11_letter 42 = .ok (.iload_n 1, 1) := by decide +kernel
theorem dX11_letter_43 : decode cX11_letter 43 = .ok (.iadd, 1) := by decide +kernel
theorem dX11_letter_44 : decode cX11_letter 44 = .ok (.bipush 97, 2) := by decide +kernel
theorem dX11_letter_46 : decode cX11_letter 46 = .ok (.isub, 1) := by decide +kernel
theorem dX11_letter_47 : decode cX11_letter 47 = .ok (.ireturn, 1) := by decide +kernel
theorem dX11_letter_48 : decode cX11_letter 48 = .ok (.iload_n 1, 1) := by decide +kernel
theorem dX11_letter_49 : decode cX11_letter 49 = .ok (.i2l, 1) := by decide +kernel
theorem dX11_letter_50 : decode cX11_letter 50 = .ok (.ldc2_w 60, 3) := by decide +kernel
theorem dX11_letter_53 : decode cX11_letter 53 = .ok (.ldc2_w 62, 3) := by decide +kernel
theorem dX11_letter_56 : decode cX11_letter 56 = .ok (.invokestatic 21, 3) := by decide +kernel
theorem dX11_letter_59 : decode cX11_letter 59 = .ok (.ifCond .eq 12, 3) := by decide +kernel
theorem dX11_letter_62 : decode cX11_letter 62 = .ok (.sipush 1010, 3) := by decide +kernel
theorem dX11_letter_65 : decode cX11_letter 65 = .ok (.iload_n 1, 1) := by decide +kernel
theorem dX11_letter_66 : decode cX11_letter 66 = .ok (.iadd, 1) := by decide +kernel
theorem dX11_letter_67 : decode cX11_letter 67 = .ok (.bipush 65, 2) := by decide +kernel
theorem dX11_letter_69 : decode cX11_letter 69 = .ok (.isub, 1) := by decide +kernel
theorem dX11_letter_70 : decode cX11_letter 70 = .ok (.ireturn, 1) := by decide +kernel
theorem dX11_letter_71 : decode cX11_letter 71 = .ok (.aload_n 0, 1) := by decide +kernel
theorem dX11_letter_72 : decode cX11_letter 72 = .ok (.getfield 64, 3) := by decide +kernel
theorem dX11_letter_75 : decode cX11_letter 75 = .ok (.ifCond .ne 7, 3) := by decide +kernel
theorem dX11_letter_78 : decode cX11_letter 78 = .ok (.iconst (-1), 1) := by decide +kernel
theorem dX11_letter_79 : decode cX11_letter 79 = .ok (.goto 52, 3) := by decide +kernel
theorem dX11_letter_82 : decode cX11_letter 82 = .ok (.iload_n 1, 1) := by decide +kernel
theorem dX11_letter_83 : decode cX11_letter 83 = .ok (.bipush 70, 2) := by decide +kernel
theorem dX11_letter_85 : decode cX11_letter 85 = .ok (.if_icmp .ne 9, 3) := by decide +kernel
theorem dX11_letter_88 : decode cX11_letter 88 = .ok (.sipush 1020, 3) := by decide +kernel
theorem dX11_letter_91 : decode cX11_letter 91 = .ok (.goto 40, 3) := by decide +kernel
theorem dX11_letter_94 : decode cX11_letter 94 = .ok (.iload_n 1, 1) := by decide +kernel
theorem dX11_letter_95 : decode cX11_letter 95 = .ok (.bipush 80, 2) := by decide +kernel
theorem dX11_letter_97 : decode cX11_letter 97 = .ok (.if_icmp .ne 9, 3) := by decide +kernel
theorem dX11_letter_100 : decode cX11_letter 100 = .ok (.sipush 1021, 3) := by decide +kernel
theorem dX11_letter_103 : decode cX11_letter 103 = .ok (.goto 28, 3) := by decide +kernel
theorem dX11_letter_106 : decode cX11_letter 106 = .ok (.iload_n 1, 1) := by decide +kernel
theorem dX11_letter_107 : decode cX11_letter 107 = .ok (.bipush 83, 2) := by decide +kernel
theorem dX11_letter_109 : decode cX11_letter 109 = .ok (.if_icmp .ne 9, 3) := by decide +kernel
theorem dX11_letter_112 : decode cX11_letter 112 = .ok (.sipush 1022, 3) := by decide +kernel
theorem dX11_letter_115 : decode cX11_letter 115 = .ok (.goto 16, 3) := by decide +kernel
theorem dX11_letter_118 : decode cX11_letter 118 = .ok (.iload_n 1, 1) := by decide +kernel
theorem dX11_letter_119 : decode cX11_letter 119 = .ok (.bipush 87, 2) := by decide +kernel
theorem dX11_letter_121 : decode cX11_letter 121 = .ok (.if_icmp .ne 9, 3) := by decide +kernel
theorem dX11_letter_124 : decode cX11_letter 124 = .ok (.sipush 1023, 3) := by decide +kernel
theorem dX11_letter_127 : decode cX11_letter 127 = .ok (.goto 4, 3) := by decide +kernel
theorem dX11_letter_130 : decode cX11_letter 130 = .ok (.iconst (-1), 1) := by decide +kernel
theorem dX11_letter_131 : decode cX11_letter 131 = .ok (.ireturn, 1) := by decide +kernel
theorem dX11_thing_0 : decode cX11_thing 0 = .ok (.aload_n 0, 1) := by decide +kernel
theorem dX11_thing_1 : decode cX11_thing 1 = .ok (.iconst 3, 1) := by decide +kernel
theorem dX11_thing_2 : decode cX11_thing 2 = .ok (.invokevirtual 68, 3) := by decide +kernel
theorem dX11_thing_5 : decode cX11_thing 5 = .ok (.istore_n 1, 1) := by decide +kernel
theorem dX11_thing_6 : decode cX11_thing 6 = .ok (.iload_n 1, 1) := by decide +kernel
theorem dX11_thing_7 : decode cX11_thing 7 = .ok (.ifCond .lt 10, 3) := by decide +kernel
theorem dX11_thing_10 : decode cX11_thing 10 = .ok (.aload_n 0, 1) := by decide +kernel
theorem dX11_thing_11 : decode cX11_thing 11 = .ok (.iload_n 1, 1) := by decide +kernel
theorem dX11_thing_12 : decode cX11_thing 12 = .ok (.invokevirtual 72, 3) := by decide +kernel
theorem dX11_thing_15 : decode cX11_thing 15 = .ok (.iconst 1, 1) := by decide +kernel
theorem dX11_thing_16 : decode cX11_thing 16 = .ok (.ireturn, 1) := by decide +kernel
theorem dX11_thing_17 : decode cX11_thing 17 = .ok (.aload_n 0, 1) := by decide +kernel
theorem dX11_thing_18 : decode cX11_thing 18 = .ok (.invokevirtual 76, 3) := by decide +kernel
theorem dX11_thing_21 : decode cX11_thing 21 = .ok (.ifCond .lt 23, 3) := by decide +kernel
theorem dX11_thing_24 : decode cX11_thing 24 = .ok (.aload_n 0, 1) := by decide +kernel
theorem dX11_thing_25 : decode cX11_thing 25 = .ok (.aload_n 0, 1) := by decide +kernel
theorem dX11_thing_26 : decode cX11_thing 26 = .ok (.invokevirtual 76, 3) := by decide +kernel
theorem dX11_thing_29 : decode cX11_thing 29 = .ok (.invokevirtual 72, 3) := by decide +kernel
theorem dX11_thing_32 : decode cX11_thing 32 = .ok (.aload_n 0, 1) := by decide +kernel
theorem dX11_thing_33 : decode cX11_thing 33 = .ok (.dup, 1) := by decide +kernel
theorem dX11_thing_34 : decode cX11_thing 34 = .ok (.getfield 25, 3) := by decide +kernel
theorem dX11_thing_37 : decode cX11_thing 37 = .ok (.iconst 1, 1) := by decide +kernel
theorem dX11_thing_38 : decode cX11_thing 38 = .ok (.iadd, 1) := by decide +kernel
theorem dX11_thing_39 : decode cX11_thing 39 = .ok (.putfield 25, 3) := by decide +kernel
theorem dX11_thing_42 : decode cX11_thing 42 = .ok (.iconst 1, 1) := by decide +kernel
theorem dX11_thing_43 : decode cX11_thing 43 = .ok (.ireturn, 1) := by decide +kernel
theorem dX11_thing_44 : decode cX11_thing 44 = .ok (.aload_n 0, 1) := by decide +kernel
theorem dX11_thing_45 : decode cX11_thing 45 = .ok (.bipush 40, 2) := by decide +kernel
theorem dX11_thing_47 : decode cX11_thing 47 = .ok (.invokevirtual 31, 3) := by decide +kernel
theorem dX11_thing_50 : decode cX11_thing 50 = .ok (.ifCond .eq 11, 3) := by decide +kernel
theorem dX11_thing_53 : decode cX11_thing 53 = .ok (.aload_n 0, 1) := by decide +kernel
theorem dX11_thing_54 : decode cX11_thing 54 = .ok (.getfield 80, 3) := by decide +kernel
theorem dX11_thing_57 : decode cX11_thing 57 = .ok (.iconst 5, 1) := by decide +kernel
theorem dX11_thing_58 : decode cX11_thing 58 = .ok (.if_icmp .ne 5, 3) := by decide +kernel
theorem dX11_thing_61 : decode cX11_thing 61 = .ok (.iconst 0, 1) := by decide +kernel
theorem dX11_thing_62 : decode cX11_thing 62 = .ok (.ireturn, 1) := by decide +kernel
theorem dX11_thing_63 : decode cX11_thing 63 = .ok (.aload_n 0, 1) := by decide +kernel
theorem dX11_thing_64 : decode cX11_thing 64 = .ok (.dup, 1) := by decide +kernel
theorem dX11_thing_65 : decode cX11_thing 65 = .ok (.getfield 25, 3) := by decide +kernel
theorem dX11_thing_68 : decode cX11_thing 68 = .ok (.iconst 1, 1) := by decide +kernel
theorem dX11_thing_69 : decode cX11_thing 69 = .ok (.iadd, 1) := by decide +kernel
theorem dX11_thing_70 : decode cX11_thing 70 = .ok (.putfield 25, 3) := by decide +kernel
theorem dX11_thing_73 : decode cX11_thing 73 = .ok (.aload_n 0, 1) := by decide +kernel
theorem dX11_thing_74 : decode cX11_thing 74 = .ok (.dup, 1) := by decide +kernel
theorem dX11_thing_75 : decode cX11_thing 75 = .ok (.getfield 80, 3) := by decide +kernel
theorem dX11_thing_78 : decode cX11_thing 78 = .ok (.iconst 1, 1) := by decide +kernel
theorem dX11_thing_79 : decode cX11_thing 79 = .ok (.iadd, 1) := by decide +kernel
theorem dX11_thing_80 : decode cX11_thing 80 = .ok (.putfield 80, 3) := by decide +kernel
theorem dX11_thing_83 : decode cX11_thing 83 = .ok (.aload_n 0, 1) := by decide +kernel
theorem dX11_thing_84 : decode cX11_thing 84 = .ok (.invokevirtual 83, 3) := by decide +kernel
theorem dX11_thing_87 : decode cX11_thing 87 = .ok (.ifCond .eq 12, 3) := by decide +kernel
theorem dX11_thing_90 : decode cX11_thing 90 = .ok (.aload_n 0, 1) := by decide +kernel
theorem dX11_thing_91 : decode cX11_thing 91 = .ok (.bipush 41, 2) := by decide +kernel
theorem dX11_thing_93 : decode cX11_thing 93 = .ok (.invokevirtual 86, 3) := by decide +kernel
theorem dX11_thing_96 : decode cX11_thing 96 = .ok (.ifCond .ne 5, 3) := by decide +kernel
theorem dX11_thing_99 : decode cX11_thing 99 = .ok (.iconst 0, 1) := by decide +kernel
theorem dX11_thing_100 : decode cX11_thing 100 = .ok (.ireturn, 1) := by decide +kernel
theorem dX11_thing_101 : decode cX11_thing 101 = .ok (.aload_n 0, 1) := by decide +kernel
theorem dX11_thing_102 : decode cX11_thing 102 = .ok (.dup, 1) := by decide +kernel
theorem dX11_thing_103 : decode cX11_thing 103 = .ok (.getfield 80, 3) := by decide +kernel
theorem dX11_thing_106 : decode cX11_thing 106 = .ok (.iconst 1, 1) := by decide +kernel
theorem dX11_thing_107 : decode cX11_thing 107 = .ok (.isub, 1) := by decide +kernel
theorem dX11_thing_108 : decode cX11_thing 108 = .ok (.putfield 80, 3) := by decide +kernel
theorem dX11_thing_111 : decode cX11_thing 111 = .ok (.iconst 1, 1) := by decide +kernel
theorem dX11_thing_112 : decode cX11_thing 112 = .ok (.ireturn, 1) := by decide +kernel
theorem dX11_ahead_0 : decode cX11_ahead 0 = .ok (.aload_n 0, 1) := by decide +kernel
theorem dX11_ahead_1 : decode cX11_ahead 1 = .ok (.bipush 33, 2) := by decide +kernel
theorem dX11_ahead_3 : decode cX11_ahead 3 = .ok (.invokevirtual 31, 3) := by decide +kernel
theorem dX11_ahead_6 : decode cX11_ahead 6 = .ok (.istore_n 1, 1) := by decide +kernel
theorem dX11_ahead_7 : decode cX11_ahead 7 = .ok (.iload_n 1, 1) := by decide +kernel
theorem dX11_ahead_8 : decode cX11_ahead 8 = .ok (.ifCond .ne 17, 3) := by decide +kernel
theorem dX11_ahead_11 : decode cX11_ahead 11 = .ok (.aload_n 0, 1) := by decide +kernel
theorem dX11_ahead_12 : decode cX11_ahead 12 = .ok (.bipush 45, 2) := by decide +kernel
theorem dX11_ahead_14 : decode cX11_ahead 14 = .ok (.invokevirtual 31, 3) := by decide +kernel
theorem dX11_ahead_17 : decode cX11_ahead 17 = .ok (.ifCond .ne 8, 3) := by decide +kernel
theorem dX11_ahead_20 : decode cX11_ahead 20 = .ok (.aload_n 0, 1) := by decide +kernel
theorem dX11_ahead_21 : decode cX11_ahead 21 = .ok (.invokevirtual 89, 3) := by decide +kernel
theorem dX11_ahead_24 : decode cX11_ahead 24 = .ok (.ireturn, 1) := by decide +kernel
theorem dX11_ahead_25 : decode cX11_ahead 25 = .ok (.aload_n 0, 1) := by decide +kernel
theorem dX11_ahead_26 : decode cX11_ahead 26 = .ok (.dup, 1) := by decide +kernel
theorem dX11_ahead_27 : decode cX11_ahead 27 = .ok (.getfield 25, 3) := by decide +kernel
theorem dX11_ahead_30 : decode cX11_ahead 30 = .ok (.iconst 1, 1) := by decide +kernel
theorem dX11_ahead_31 : decode cX11_ahead 31 = .ok (.iadd, 1) := by decide +kernel
theorem dX11_ahead_32 : decode cX11_ahead 32 = .ok (.putfield 25, 3) := by decide +kernel
theorem dX11_ahead_35 : decode cX11_ahead 35 = .ok (.aload_n 0, 1) := by decide +kernel
theorem dX11_ahead_36 : decode cX11_ahead 36 = .ok (.invokevirtual 92, 3) := by decide +kernel
theorem dX11_ahead_39 : decode cX11_ahead 39 = .ok (.istore_n 2, 1) := by decide +kernel
theorem dX11_ahead_40 : decode cX11_ahead 40 = .ok (.iload_n 2, 1) := by decide +kernel
theorem dX11_ahead_41 : decode cX11_ahead 41 = .ok (.ifCond .eq 22, 3) := by decide +kernel
theorem dX11_ahead_44 : decode cX11_ahead 44 = .ok (.aload_n 0, 1) := by decide +kernel
theorem dX11_ahead_45 : decode cX11_ahead 45 = .ok (.sipush 2000, 3) := by decide +kernel
theorem dX11_ahead_48 : decode cX11_ahead 48 = .ok (.iload_n 1, 1) := by decide +kernel
theorem dX11_ahead_49 : decode cX11_ahead 49 = .ok (.ifCond .eq 8, 3) := by decide +kernel
theorem dX11_ahead_52 : decode cX11_ahead 52 = .ok (.bipush 33, 2) := by decide +kernel
theorem dX11_ahead_54 : decode cX11_ahead 54 = .ok (.goto 5, 3) := by decide +kernel
theorem dX11_ahead_57 : decode cX11_ahead 57 = .ok (.bipush 126, 2) := by decide +kernel
theorem dX11_ahead_59 : decode cX11_ahead 59 = .ok (.iadd, 1) := by decide +kernel
theorem dX11_ahead_60 : decode cX11_ahead 60 = .ok (.invokevirtual 72, 3) := by decide +kernel
theorem dX11_ahead_63 : decode cX11_ahead 63 = .ok (.iload_n 2, 1) := by decide +kernel
theorem dX11_ahead_64 : decode cX11_ahead 64 = .ok (.ireturn, 1) := by decide +kernel
theorem dX11_total_0 : decode cX11_total 0 = .ok (.aload_n 0, 1) := by decide +kernel
theorem dX11_total_1 : decode cX11_total 1 = .ok (.invokevirtual 92, 3) := by decide +kernel
theorem dX11_total_4 : decode cX11_total 4 = .ok (.istore_n 1, 1) := by decide +kernel
theorem dX11_total_5 : decode cX11_total 5 = .ok (.iload_n 1, 1) := by decide +kernel
theorem dX11_total_6 : decode cX11_total 6 = .ok (.ifCond .eq 62, 3) := by decide +kernel
theorem dX11_total_9 : decode cX11_total 9 = .ok (.aload_n 0, 1) := by decide +kernel
theorem dX11_total_10 : decode cX11_total 10 = .ok (.bipush 43, 2) := by decide +kernel
theorem dX11_total_12 : decode cX11_total 12 = .ok (.invokevirtual 31, 3) := by decide +kernel
theorem dX11_total_15 : decode cX11_total 15 = .ok (.ifCond .ne 12, 3) := by decide +kernel
theorem dX11_total_18 : decode cX11_total 18 = .ok (.aload_n 0, 1) := by decide +kernel
theorem dX11_total_19 : decode cX11_total 19 = .ok (.bipush 45, 2) := by decide +kernel
theorem dX11_total_21 : decode cX11_total 21 = .ok (.invokevirtual 31, 3) := by decide +kernel
theorem dX11_total_24 : decode cX11_total 24 = .ok (.ifCond .eq 44, 3) := by decide +kernel
theorem dX11_total_27 : decode cX11_total 27 = .ok (.aload_n 0, 1) := by decide +kernel
theorem dX11_total_28 : decode cX11_total 28 = .ok (.getfield 17, 3) := by decide +kernel
theorem dX11_total_31 : decode cX11_total 31 = .ok (.aload_n 0, 1) := by decide +kernel
theorem dX11_total_32 : decode cX11_total 32 = .ok (.getfield 25, 3) := by decide +kernel
theorem dX11_total_35 : decode cX11_total 35 = .ok (.iaload, 1) := by decide +kernel
theorem dX11_total_36 : decode cX11_total 36 = .ok (.istore_n 2, 1) := by decide +kernel
theorem dX11_total_37 : decode cX11_total 37 = .ok (.aload_n 0, 1) := by decide +kernel
theorem dX11_total_38 : decode cX11_total 38 = .ok (.dup, 1) := by decide +kernel
theorem dX11_total_39 : decode cX11_total 39 = .ok (.getfield 25, 3) := by decide +kernel
theorem dX11_total_42 : decode cX11_total 42 = .ok (.iconst 1, 1) := by decide +kernel
theorem dX11_total_43 : decode cX11_total 43 = .ok (.iadd, 1) := by decide +kernel
theorem dX11_total_44 : decode cX11_total 44 = .ok (.putfield 25, 3) := by decide +kernel
theorem dX11_total_47 : decode cX11_total 47 = .ok (.aload_n 0, 1) := by decide +kernel
theorem dX11_total_48 : decode cX11_total 48 = .ok (.invokevirtual 92, 3) := by decide +kernel
theorem dX11_total_51 : decode cX11_total 51 = .ok (.istore_n 1, 1) := by decide +kernel
theorem dX11_total_52 : decode cX11_total 52 = .ok (.iload_n 1, 1) := by decide +kernel
theorem dX11_total_53 : decode cX11_total 53 = .ok (.ifCond .eq 12, 3) := by decide +kernel
theorem dX11_total_56 : decode cX11_total 56 = .ok (.aload_n 0, 1) := by decide +kernel
theorem dX11_total_57 : decode cX11_total 57 = .ok (.sipush 2000, 3) := by decide +kernel
theorem dX11_total_60 : decode cX11_total 60 = .ok (.iload_n 2, 1) := by decide +kernel
theorem dX11_total_61 : decode cX11_total 61 = .ok (.iadd, 1) := by decide +kernel
theorem dX11_total_62 : decode cX11_total 62 = .ok (.invokevirtual 72, 3) := by decide +kernel
theorem dX11_total_65 : decode cX11_total 65 = .ok (.goto (-60), 3) := by decide +kernel
theorem dX11_total_68 : decode cX11_total 68 = .ok (.iload_n 1, 1) := by decide +kernel
theorem dX11_total_69 : decode cX11_total 69 = .ok (.ireturn, 1) := by decide +kernel
theorem dX11_compared_0 : decode cX11_compared 0 = .ok (.aload_n 0, 1) := by decide +kernel
theorem dX11_compared_1 : decode cX11_compared 1 = .ok (.invokevirtual 95, 3) := by decide +kernel
theorem dX11_compared_4 : decode cX11_compared 4 = .ok (.istore_n 1, 1) := by decide +kernel
theorem dX11_compared_5 : decode cX11_compared 5 = .ok (.iload_n 1, 1) := by decide +kernel
theorem dX11_compared_6 : decode cX11_compared 6 = .ok (.ifCond .eq 68, 3) := by decide +kernel
theorem dX11_compared_9 : decode cX11_compared 9 = .ok (.aload_n 0, 1) := by decide +kernel
theorem dX11_compared_10 : decode cX11_compared 10 = .ok (.bipush 60, 2) := by decide +kernel
theorem dX11_compared_12 : decode cX11_compared 12 = .ok (.invokevirtual 31, 3) := by decide +kernel
theorem dX11_compared_15 : decode cX11_compared 15 = .ok (.ifCond .ne 21, 3) := by decide +kernel
theorem dX11_compared_18 : decode cX11_compared 18 = .ok (.aload_n 0, 1) := by decide +kernel
theorem dX11_compared_19 : decode cX11_compared 19 = .ok (.bipush 62, 2) := by decide +kernel
theorem dX11_compared_21 : decode cX11_compared 21 = .ok (.invokevirtual 31, 3) := by decide +kernel
theorem dX11_compared_24 : decode cX11_compared 24 = .ok (.ifCond .ne 12, 3) := by decide +kernel
theorem dX11_compared_27 : decode cX11_compared 27 = .ok (.aload_n 0, 1) := by decide +kernel
theorem dX11_compared_28 : decode cX11_compared 28 = .ok (.bipush 61, 2) := by decide +kernel
theorem dX11_compared_30 : decode cX11_compared 30 = .ok (.invokevirtual 31, 3) := by decide +kernel
theorem dX11_compared_33 : decode cX11_compared 33 = .ok (.ifCond .eq 41, 3) := by decide +kernel
theorem dX11_compared_36 : decode cX11_compared 36 = .ok (.aload_n 0, 1) := by decide +kernel
theorem dX11_compared_37 : decode cX11_compared 37 = .ok (.getfield 17, 3) := by decide +kernel
theorem dX11_compared_40 : decode cX11_compared 40 = .ok (.aload_n 0, 1) := by decide +kernel
theorem dX11_compared_41 : decode cX11_compared 41 = .ok (.getfield 25, 3) := by decide +kernel
theorem dX11_compared_44 : decode cX11_compared 44 = .ok (.iaload, 1) := by decide +kernel
theorem dX11_compared_45 : decode cX11_compared 45 = .ok (.istore_n 2, 1) := by decide +kernel
theorem dX11_compared_46 : decode cX11_compared 46 = .ok (.aload_n 0, 1) := by decide +kernel
theorem dX11_compared_47 : decode cX11_compared 47 = .ok (.dup, 1) := by decide +kernel
theorem dX11_compared_48 : decode cX11_compared 48 = .ok (.getfield 25, 3) := by decide +kernel
theorem dX11_compared_51 : decode cX11_compared 51 = .ok (.iconst 1, 1) := by decide +kernel
theorem dX11_compared_52 : decode cX11_compared 52 = .ok (.iadd, 1) := by decide +kernel
theorem dX11_compared_53 : decode cX11_compared 53 = .ok (.putfield 25, 3) := by decide +kernel
theorem dX11_compared_56 : decode cX11_compared 56 = .ok (.aload_n 0, 1) := by decide +kernel
theorem dX11_compared_57 : decode cX11_compared 57 = .ok (.invokevirtual 95, 3) := by decide +kernel
theorem dX11_compared_60 : decode cX11_compared 60 = .ok (.istore_n 1, 1) := by decide +kernel
theorem dX11_compared_61 : decode cX11_compared 61 = .ok (.iload_n 1, 1) := by decide +kernel
theorem dX11_compared_62 : decode cX11_compared 62 = .ok (.ifCond .eq 12, 3) := by decide +kernel
theorem dX11_compared_65 : decode cX11_compared 65 = .ok (.aload_n 0, 1) := by decide +kernel
theorem dX11_compared_66 : decode cX11_compared 66 = .ok (.sipush 2000, 3) := by decide +kernel
theorem dX11_compared_69 : decode cX11_compared 69 = .ok (.iload_n 2, 1) := by decide +kernel
theorem dX11_compared_70 : decode cX11_compared 70 = .ok (.iadd, 1) := by decide +kernel
theorem dX11_compared_71 : decode cX11_compared 71 = .ok (.invokevirtual 72, 3) := by decide +kernel
theorem dX11_compared_74 : decode cX11_compared 74 = .ok (.iload_n 1, 1) := by decide +kernel
theorem dX11_compared_75 : decode cX11_compared 75 = .ok (.ireturn, 1) := by decide +kernel
theorem dX11_every_0 : decode cX11_every 0 = .ok (.aload_n 0, 1) := by decide +kernel
theorem dX11_every_1 : decode cX11_every 1 = .ok (.invokevirtual 98, 3) := by decide +kernel
theorem dX11_every_4 : decode cX11_every 4 = .ok (.istore_n 1, 1) := by decide +kernel
theorem dX11_every_5 : decode cX11_every 5 = .ok (.iload_n 1, 1) := by decide +kernel
theorem dX11_every_6 : decode cX11_every 6 = .ok (.ifCond .eq 31, 3) := by decide +kernel
theorem dX11_every_9 : decode cX11_every 9 = .ok (.aload_n 0, 1) := by decide +kernel
theorem dX11_every_10 : decode cX11_every 10 = .ok (.bipush 38, 2) := by decide +kernel
theorem dX11_every_12 : decode cX11_every 12 = .ok (.invokevirtual 86, 3) := by decide +kernel
theorem dX11_every_15 : decode cX11_every 15 = .ok (.ifCond .eq 22, 3) := by decide +kernel
theorem dX11_every_18 : decode cX11_every 18 = .ok (.aload_n 0, 1) := by decide +kernel
theorem dX11_every_19 : decode cX11_every 19 = .ok (.invokevirtual 98, 3) := by decide +kernel
theorem dX11_every_22 : decode cX11_every 22 = .ok (.istore_n 1, 1) := by decide +kernel
theorem dX11_every_23 : decode cX11_every 23 = .ok (.iload_n 1, 1) := by decide +kernel
theorem dX11_every_24 : decode cX11_every 24 = .ok (.ifCond .eq (-19), 3) := by decide +kernel
theorem dX11_every_27 : decode cX11_every 27 = .ok (.aload_n 0, 1) := by decide +kernel
theorem dX11_every_28 : decode cX11_every 28 = .ok (.sipush 2038, 3) := by decide +kernel
theorem dX11_every_31 : decode cX11_every 31 = .ok (.invokevirtual 72, 3) := by decide +kernel
theorem dX11_every_34 : decode cX11_every 34 = .ok (.goto (-29), 3) := by decide +kernel
theorem dX11_every_37 : decode cX11_every 37 = .ok (.iload_n 1, 1) := by decide +kernel
theorem dX11_every_38 : decode cX11_every 38 = .ok (.ireturn, 1) := by decide +kernel
theorem dX11_some_0 : decode cX11_some 0 = .ok (.aload_n 0, 1) := by decide +kernel
theorem dX11_some_1 : decode cX11_some 1 = .ok (.invokevirtual 101, 3) := by decide +kernel
theorem dX11_some_4 : decode cX11_some 4 = .ok (.istore_n 1, 1) := by decide +kernel
theorem dX11_some_5 : decode cX11_some 5 = .ok (.iload_n 1, 1) := by decide +kernel
theorem dX11_some_6 : decode cX11_some 6 = .ok (.ifCond .eq 31, 3) := by decide +kernel
theorem dX11_some_9 : decode cX11_some 9 = .ok (.aload_n 0, 1) := by decide +kernel
theorem dX11_some_10 : decode cX11_some 10 = .ok (.bipush 124, 2) := by decide +kernel
theorem dX11_some_12 : decode cX11_some 12 = .ok (.invokevirtual 86, 3) := by decide +kernel
theorem dX11_some_15 : decode cX11_some 15 = .ok (.ifCond .eq 22, 3) := by decide +kernel
theorem dX11_some_18 : decode cX11_some 18 = .ok (.aload_n 0, 1) := by decide +kernel
theorem dX11_some_19 : decode cX11_some 19 = .ok (.invokevirtual 101, 3) := by decide +kernel
theorem dX11_some_22 : decode cX11_some 22 = .ok (.istore_n 1, 1) := by decide +kernel
theorem dX11_some_23 : decode cX11_some 23 = .ok (.iload_n 1, 1) := by decide +kernel
theorem dX11_some_24 : decode cX11_some 24 = .ok (.ifCond .eq (-19), 3) := by decide +kernel
theorem dX11_some_27 : decode cX11_some 27 = .ok (.aload_n 0, 1) := by decide +kernel
theorem dX11_some_28 : decode cX11_some 28 = .ok (.sipush 2124, 3) := by decide +kernel
theorem dX11_some_31 : decode cX11_some 31 = .ok (.invokevirtual 72, 3) := by decide +kernel
theorem dX11_some_34 : decode cX11_some 34 = .ok (.goto (-29), 3) := by decide +kernel
theorem dX11_some_37 : decode cX11_some 37 = .ok (.iload_n 1, 1) := by decide +kernel
theorem dX11_some_38 : decode cX11_some 38 = .ok (.ireturn, 1) := by decide +kernel
theorem dX11_line_0 : decode cX11_line 0 = .ok (.aload_n 0, 1) := by decide +kernel
theorem dX11_line_1 : decode cX11_line 1 = .ok (.iload_n 1, 1) := by decide +kernel
theorem dX11_line_2 : decode cX11_line 2 = .ok (.putfield 46, 3) := by decide +kernel
theorem dX11_line_5 : decode cX11_line 5 = .ok (.aload_n 0, 1) := by decide +kernel
theorem dX11_line_6 : decode cX11_line 6 = .ok (.getfield 49, 3) := by decide +kernel
theorem dX11_line_9 : decode cX11_line 9 = .ok (.aload_n 0, 1) := by decide +kernel
theorem dX11_line_10 : decode cX11_line 10 = .ok (.getfield 46, 3) := by decide +kernel
theorem dX11_line_13 : decode cX11_line 13 = .ok (.iconst 0, 1) := by decide +kernel
theorem dX11_line_14 : decode cX11_line 14 = .ok (.iastore, 1) := by decide +kernel
theorem dX11_line_15 : decode cX11_line 15 = .ok (.aload_n 0, 1) := by decide +kernel
theorem dX11_line_16 : decode cX11_line 16 = .ok (.getfield 104, 3) := by decide +kernel
theorem dX11_line_19 : decode cX11_line 19 = .ok (.aload_n 0, 1) := by decide +kernel
theorem dX11_line_20 : decode cX11_line 20 = .ok (.getfield 46, 3) := by decide +kernel
theorem dX11_line_23 : decode cX11_line 23 = .ok (.iconst 0, 1) := by decide +kernel
theorem dX11_line_24 : decode cX11_line 24 = .ok (.iastore, 1) := by decide +kernel
theorem dX11_line_25 : decode cX11_line 25 = .ok (.aload_n 0, 1) := by decide +kernel
theorem dX11_line_26 : decode cX11_line 26 = .ok (.getfield 25, 3) := by decide +kernel
theorem dX11_line_29 : decode cX11_line 29 = .ok (.aload_n 0, 1) := by decide +kernel
theorem dX11_line_30 : decode cX11_line 30 = .ok (.getfield 28, 3) := by decide +kernel
theorem dX11_line_33 : decode cX11_line 33 = .ok (.if_icmp .lt 5, 3) := by decide +kernel
theorem dX11_line_36 : decode cX11_line 36 = .ok (.iconst 0, 1) := by decide +kernel
theorem dX11_line_37 : decode cX11_line 37 = .ok (.ireturn, 1) := by decide +kernel
theorem dX11_line_38 : decode cX11_line 38 = .ok (.aload_n 0, 1) := by decide +kernel
theorem dX11_line_39 : decode cX11_line 39 = .ok (.getfield 17, 3) := by decide +kernel
theorem dX11_line_42 : decode cX11_line 42 = .ok (.aload_n 0, 1) := by decide +kernel
theorem dX11_line_43 : decode cX11_line 43 = .ok (.getfield 25, 3) := by decide +kernel
theorem dX11_line_46 : decode cX11_line 46 = .ok (.iaload, 1) := by decide +kernel
theorem dX11_line_47 : decode cX11_line 47 = .ok (.istore_n 2, 1) := by decide +kernel
theorem dX11_line_48 : decode cX11_line 48 = .ok (.aload_n 0, 1) := by decide +kernel
theorem dX11_line_49 : decode cX11_line 49 = .ok (.getfield 107, 3) := by decide +kernel
theorem dX11_line_52 : decode cX11_line 52 = .ok (.aload_n 0, 1) := by decide +kernel
theorem dX11_line_53 : decode cX11_line 53 = .ok (.getfield 46, 3) := by decide +kernel
theorem dX11_line_56 : decode cX11_line 56 = .ok (.iload_n 2, 1) := by decide +kernel
theorem dX11_line_57 : decode cX11_line 57 = .ok (.iastore, 1) := by decide +kernel
theorem dX11_line_58 : decode cX11_line 58 = .ok (.iload_n 2, 1) := by decide +kernel
theorem dX11_line_59 : decode cX11_line 59 = .ok (.i2l, 1) := by decide +kernel
theorem dX11_line_60 : decode cX11_line 60 = .ok (.ldc2_w 56, 3) := by decide +kernel
theorem dX11_line_63 : decode cX11_line 63 = .ok (.ldc2_w 58, 3) := by decide +kernel
theorem dX11_line_66 : decode cX11_line 66 = .ok (.invokestatic 21, 3) := by decide +kernel
theorem dX11_line_69 : decode cX11_line 69 = .ok (.ifCond .eq 59, 3) := by decide +kernel
theorem dX11_line_72 : decode cX11_line 72 = .ok (.aload_n 0, 1) := by decide +kernel
theorem dX11_line_73 : decode cX11_line 73 = .ok (.getfield 104, 3) := by decide +kernel
theorem dX11_line_76 : decode cX11_line 76 = .ok (.aload_n 0, 1) := by decide +kernel
theorem dX11_line_77 : decode cX11_line 77 = .ok (.getfield 46, 3) := by decide +kernel
theorem dX11_line_80 : decode cX11_line 80 = .ok (.iload_n 2, 1) := by decide +kernel
theorem dX11_line_81 : decode cX11_line 81 = .ok (.bipush 97, 2) := by decide +kernel
theorem dX11_line_83 : decode cX11_line 83 = .ok (.isub, 1) := by decide +kernel
theorem dX11_line_84 : decode cX11_line 84 = .ok (.iastore, 1) := by decide +kernel
theorem dX11_line_85 : decode cX11_line 85 = .ok (.aload_n 0, 1) := by decide +kernel
theorem dX11_line_86 : decode cX11_line 86 = .ok (.getfield 107, 3) := by decide +kernel
theorem dX11_line_89 : decode cX11_line 89 = .ok (.aload_n 0, 1) := by decide +kernel
theorem dX11_line_90 : decode cX11_line 90 = .ok (.getfield 46, 3) := by decide +kernel
theorem dX11_line_93 : decode cX11_line 93 = .ok (.bipush 61, 2) := by decide +kernel
theorem dX11_line_95 : decode cX11_line 95 = .ok (.iastore, 1) := by decide +kernel
theorem dX11_line_96 : decode cX11_line 96 = .ok (.aload_n 0, 1) := by decide +kernel
theorem dX11_line_97 : decode cX11_line 97 = .ok (.dup, 1) := by decide +kernel
theorem dX11_line_98 : decode cX11_line 98 = .ok (.getfield 25, 3) := by decide +kernel
theorem dX11_line_101 : decode cX11_line 101 = .ok (.iconst 1, 1) := by decide +kernel
theorem dX11_line_102 : decode cX11_line 102 = .ok (.iadd, 1) := by decide +kernel
theorem dX11_line_103 : decode cX11_line 103 = .ok (.putfield 25, 3) := by decide +kernel
theorem dX11_line_106 : decode cX11_line 106 = .ok (.aload_n 0, 1) := by decide +kernel
theorem dX11_line_107 : decode cX11_line 107 = .ok (.bipush 61, 2) := by decide +kernel
theorem dX11_line_109 : decode cX11_line 109 = .ok (.invokevirtual 86, 3) := by decide +kernel
theorem dX11_line_112 : decode cX11_line 112 = .ok (.ifCond .eq 14, 3) := by decide +kernel
theorem dX11_line_115 : decode cX11_line 115 = .ok (.aload_n 0, 1) := by decide +kernel
theorem dX11_line_116 : decode cX11_line 116 = .ok (.invokevirtual 83, 3) := by decide +kernel
theorem dX11_line_119 : decode cX11_line 119 = .ok (.ifCond .eq 7, 3) := by decide +kernel
theorem dX11_line_122 : decode cX11_line 122 = .ok (.iconst 1, 1) := by decide +kernel
theorem dX11_line_123 : decode cX11_line 123 = .ok (.goto 4, 3) := by decide +kernel
theorem dX11_line_126 : decode cX11_line 126 = .ok (.iconst 0, 1) := by decide +kernel
theorem dX11_line_127 : decode cX11_line 127 = .ok (.ireturn, 1) := by decide +kernel
theorem dX11_line_128 : decode cX11_line 128 = .ok (.iload_n 2, 1) := by decide +kernel
theorem dX11_line_129 : decode cX11_line 129 = .ok (.bipush 63, 2) := by decide +kernel
theorem dX11_line_131 : decode cX11_line 131 = .ok (.if_icmp .ne 18, 3) := by decide +kernel
theorem dX11_line_134 : decode cX11_line 134 = .ok (.aload_n 0, 1) := by decide +kernel
theorem dX11_line_135 : decode cX11_line 135 = .ok (.dup, 1) := by decide +kernel
theorem dX11_line_136 : decode cX11_line 136 = .ok (.getfield 25, 3) := by decide +kernel
theorem dX11_line_139 : decode cX11_line 139 = .ok (.iconst 1, 1) := by decide +kernel
theorem dX11_line_140 : decode cX11_line 140 = .ok (.iadd, 1) := by decide +kernel
theorem dX11_line_141 : decode cX11_line 141 = .ok (.putfield 25, 3) := by decide +kernel
theorem dX11_line_144 : decode cX11_line 144 = .ok (.aload_n 0, 1) := by decide +kernel
theorem dX11_line_145 : decode cX11_line 145 = .ok (.invokevirtual 83, 3) := by decide +kernel
theorem dX11_line_148 : decode cX11_line 148 = .ok (.ireturn, 1) := by decide +kernel
theorem dX11_line_149 : decode cX11_line 149 = .ok (.iload_n 2, 1) := by decide +kernel
theorem dX11_line_150 : decode cX11_line 150 = .ok (.bipush 120, 2) := by decide +kernel
theorem dX11_line_152 : decode cX11_line 152 = .ok (.if_icmp .ne 15, 3) := by decide +kernel
theorem dX11_line_155 : decode cX11_line 155 = .ok (.aload_n 0, 1) := by decide +kernel
theorem dX11_line_156 : decode cX11_line 156 = .ok (.dup, 1) := by decide +kernel
theorem dX11_line_157 : decode cX11_line 157 = .ok (.getfield 25, 3) := by decide +kernel
theorem dX11_line_160 : decode cX11_line 160 = .ok (.iconst 1, 1) := by decide +kernel
theorem dX11_line_161 : decode cX11_line 161 = .ok (.iadd, 1) := by decide +kernel
theorem dX11_line_162 : decode cX11_line 162 = .ok (.putfield 25, 3) := by decide +kernel
theorem dX11_line_165 : decode cX11_line 165 = .ok (.iconst 1, 1) := by decide +kernel
theorem dX11_line_166 : decode cX11_line 166 = .ok (.ireturn, 1) := by decide +kernel
theorem dX11_line_167 : decode cX11_line 167 = .ok (.iload_n 2, 1) := by decide +kernel
theorem dX11_line_168 : decode cX11_line 168 = .ok (.bipush 109, 2) := by decide +kernel
theorem dX11_line_170 : decode cX11_line 170 = .ok (.if_icmp .eq 17, 3) := by decide +kernel
theorem dX11_line_173 : decode cX11_line 173 = .ok (.iload_n 2, 1) := by decide +kernel
theorem dX11_line_174 : decode cX11_line 174 = .ok (.bipush 106, 2) := by decide +kernel
theorem dX11_line_176 : decode cX11_line 176 = .ok (.if_icmp .eq 11, 3) := by decide +kernel
theorem dX11_line_179 : decode cX11_line 179 = .ok (.iload_n 2, 1) := by decide +kernel
theorem dX11_line_180 : decode cX11_line 180 = .ok (.bipush 115, 2) := by decide +kernel
theorem dX11_line_182 : decode cX11_line 182 = .ok (.if_icmp .eq 5, 3) := by decide +kernel
theorem dX11_line_185 : decode cX11_line 185 = .ok (.iconst 0, 1) := by decide +kernel
theorem dX11_line_186 : decode cX11_line 186 = .ok (.ireturn, 1) := by decide +kernel
theorem dX11_line_187 : decode cX11_line 187 = .ok (.aload_n 0, 1) := by decide +kernel
theorem dX11_line_188 : decode cX11_line 188 = .ok (.dup, 1) := by decide +kernel
theorem dX11_line_189 : decode cX11_line 189 = .ok (.getfield 25, 3) := by decide +kernel
theorem dX11_line_192 : decode cX11_line 192 = .ok (.iconst 1, 1) := by decide +kernel
theorem dX11_line_193 : decode cX11_line 193 = .ok (.iadd, 1) := by decide +kernel
theorem dX11_line_194 : decode cX11_line 194 = .ok (.putfield 25, 3) := by decide +kernel
theorem dX11_line_197 : decode cX11_line 197 = .ok (.iload_n 2, 1) := by decide +kernel
theorem dX11_line_198 : decode cX11_line 198 = .ok (.bipush 109, 2) := by decide +kernel
theorem dX11_line_200 : decode cX11_line 200 = .ok (.if_icmp .ne 72, 3) := by decide +kernel
theorem dX11_line_203 : decode cX11_line 203 = .ok (.aload_n 0, 1) := by decide +kernel
theorem dX11_line_204 : decode cX11_line 204 = .ok (.getfield 25, 3) := by decide +kernel
theorem dX11_line_207 : decode cX11_line 207 = .ok (.aload_n 0, 1) := by decide +kernel
theorem dX11_line_208 : decode cX11_line 208 = .ok (.getfield 28, 3) := by decide +kernel
theorem dX11_line_211 : decode cX11_line 211 = .ok (.if_icmp .ge 25, 3) := by decide +kernel
theorem dX11_line_214 : decode cX11_line 214 = .ok (.aload_n 0, 1) := by decide +kernel
theorem dX11_line_215 : decode cX11_line 215 = .ok (.getfield 17, 3) := by decide +kernel
theorem dX11_line_218 : decode cX11_line 218 = .ok (.aload_n 0, 1) := by decide +kernel
theorem dX11_line_219 : decode cX11_line 219 = .ok (.getfield 25, 3) := by decide +kernel
theorem dX11_line_222 : decode cX11_line 222 = .ok (.iaload, 1) := by decide +kernel
theorem dX11_line_223 : decode cX11_line 223 = .ok (.i2l, 1) := by decide +kernel
theorem dX11_line_224 : decode cX11_line 224 = .ok (.ldc2_w 39, 3) := by decide +kernel
theorem dX11_line_227 : decode cX11_line 227 = .ok (.ldc2_w 110, 3) := by decide +kernel
theorem dX11_line_230 : decode cX11_line 230 = .ok (.invokestatic 21, 3) := by decide +kernel
theorem dX11_line_233 : decode cX11_line 233 = .ok (.ifCond .ne 5, 3) := by decide +kernel
theorem dX11_line_236 : decode cX11_line 236 = .ok (.iconst 0, 1) := by decide +kernel
theorem dX11_line_237 : decode cX11_line 237 = .ok (.ireturn, 1) := by decide +kernel
theorem dX11_line_238 : decode cX11_line 238 = .ok (.aload_n 0, 1) := by decide +kernel
theorem dX11_line_239 : decode cX11_line 239 = .ok (.getfield 104, 3) := by decide +kernel
theorem dX11_line_242 : decode cX11_line 242 = .ok (.aload_n 0, 1) := by decide +kernel
theorem dX11_line_243 : decode cX11_line 243 = .ok (.getfield 46, 3) := by decide +kernel
theorem dX11_line_246 : decode cX11_line 246 = .ok (.aload_n 0, 1) := by decide +kernel
theorem dX11_line_247 : decode cX11_line 247 = .ok (.getfield 17, 3) := by decide +kernel
theorem dX11_line_250 : decode cX11_line 250 = .ok (.aload_n 0, 1) := by decide +kernel
theorem dX11_line_251 : decode cX11_line 251 = .ok (.getfield 25, 3) := by decide +kernel
theorem dX11_line_254 : decode cX11_line 254 = .ok (.iaload, 1) := by decide +kernel
theorem dX11_line_255 : decode cX11_line 255 = .ok (.bipush 48, 2) := by decide +kernel
theorem dX11_line_257 : decode cX11_line 257 = .ok (.isub, 1) := by decide +kernel
theorem dX11_line_258 : decode cX11_line 258 = .ok (.iastore, 1) := by decide +kernel
theorem dX11_line_259 : decode cX11_line 259 = .ok (.aload_n 0, 1) := by decide +kernel
theorem dX11_line_260 : decode cX11_line 260 = .ok (.dup, 1) := by decide +kernel
theorem dX11_line_261 : decode cX11_line 261 = .ok (.getfield 25, 3) := by decide +kernel
theorem dX11_line_264 : decode cX11_line 264 = .ok (.iconst 1, 1) := by decide +kernel
theorem dX11_line_265 : decode cX11_line 265 = .ok (.iadd, 1) := by decide +kernel
theorem dX11_line_266 : decode cX11_line 266 = .ok (.putfield 25, 3) := by decide +kernel
theorem dX11_line_269 : decode cX11_line 269 = .ok (.goto 31, 3) := by decide +kernel
theorem dX11_line_272 : decode cX11_line 272 = .ok (.aload_n 0, 1) := by decide +kernel
theorem dX11_line_273 : decode cX11_line 273 = .ok (.getfield 104, 3) := by decide +kernel
theorem dX11_line_276 : decode cX11_line 276 = .ok (.aload_n 0, 1) := by decide +kernel
theorem dX11_line_277 : decode cX11_line 277 = .ok (.getfield 46, 3) := by decide +kernel
theorem dX11_line_280 : decode cX11_line 280 = .ok (.aload_n 0, 1) := by decide +kernel
theorem dX11_line_281 : decode cX11_line 281 = .ok (.iconst 2, 1) := by decide +kernel
theorem dX11_line_282 : decode cX11_line 282 = .ok (.invokevirtual 68, 3) := by decide +kernel
theorem dX11_line_285 : decode cX11_line 285 = .ok (.iastore, 1) := by decide +kernel
theorem dX11_line_286 : decode cX11_line 286 = .ok (.aload_n 0, 1) := by decide +kernel
theorem dX11_line_287 : decode cX11_line 287 = .ok (.getfield 104, 3) := by decide +kernel
theorem dX11_line_290 : decode cX11_line 290 = .ok (.aload_n 0, 1) := by decide +kernel
theorem dX11_line_291 : decode cX11_line 291 = .ok (.getfield 46, 3) := by decide +kernel
theorem dX11_line_294 : decode cX11_line 294 = .ok (.iaload, 1) := by decide +kernel
theorem dX11_line_295 : decode cX11_line 295 = .ok (.ifCond .ge 5, 3) := by decide +kernel
theorem dX11_line_298 : decode cX11_line 298 = .ok (.iconst 0, 1) := by decide +kernel
theorem dX11_line_299 : decode cX11_line 299 = .ok (.ireturn, 1) := by decide +kernel
theorem dX11_line_300 : decode cX11_line 300 = .ok (.iload_n 2, 1) := by decide +kernel
theorem dX11_line_301 : decode cX11_line 301 = .ok (.bipush 115, 2) := by decide +kernel
theorem dX11_line_303 : decode cX11_line 303 = .ok (.if_icmp .eq 19, 3) := by decide +kernel
theorem dX11_line_306 : decode cX11_line 306 = .ok (.aload_n 0, 1) := by decide +kernel
theorem dX11_line_307 : decode cX11_line 307 = .ok (.bipush 58, 2) := by decide +kernel
theorem dX11_line_309 : decode cX11_line 309 = .ok (.invokevirtual 86, 3) := by decide +kernel
theorem dX11_line_312 : decode cX11_line 312 = .ok (.ifCond .eq 14, 3) := by decide +kernel
theorem dX11_line_315 : decode cX11_line 315 = .ok (.aload_n 0, 1) := by decide +kernel
theorem dX11_line_316 : decode cX11_line 316 = .ok (.invokevirtual 83, 3) := by decide +kernel
theorem dX11_line_319 : decode cX11_line 319 = .ok (.ifCond .eq 7, 3) := by decide +kernel
theorem dX11_line_322 : decode cX11_line 322 = .ok (.iconst 1, 1) := by decide +kernel
theorem dX11_line_323 : decode cX11_line 323 = .ok (.goto 4, 3) := by decide +kernel
theorem dX11_line_326 : decode cX11_line 326 = .ok (.iconst 0, 1) := by decide +kernel
theorem dX11_line_327 : decode cX11_line 327 = .ok (.ireturn, 1) := by decide +kernel
theorem dX11_begins_0 : decode cX11_begins 0 = .ok (.aload_n 0, 1) := by decide +kernel
theorem dX11_begins_1 : decode cX11_begins 1 = .ok (.getfield 14, 3) := by decide +kernel
theorem dX11_begins_4 : decode cX11_begins 4 = .ok (.istore_n 2, 1) := by decide +kernel
theorem dX11_begins_5 : decode cX11_begins 5 = .ok (.aload_n 0, 1) := by decide +kernel
theorem dX11_begins_6 : decode cX11_begins 6 = .ok (.iconst 0, 1) := by decide +kernel
theorem dX11_begins_7 : decode cX11_begins 7 = .ok (.putfield 14, 3) := by decide +kernel
theorem dX11_begins_10 : decode cX11_begins 10 = .ok (.aload_n 0, 1) := by decide +kernel
theorem dX11_begins_11 : decode cX11_begins 11 = .ok (.iconst 0, 1) := by decide +kernel
theorem dX11_begins_12 : decode cX11_begins 12 = .ok (.putfield 25, 3) := by decide +kernel
theorem dX11_begins_15 : decode cX11_begins 15 = .ok (.aload_n 0, 1) := by decide +kernel
theorem dX11_begins_16 : decode cX11_begins 16 = .ok (.iconst 0, 1) := by decide +kernel
theorem dX11_begins_17 : decode cX11_begins 17 = .ok (.putfield 80, 3) := by decide +kernel
theorem dX11_begins_20 : decode cX11_begins 20 = .ok (.aload_n 0, 1) := by decide +kernel
theorem dX11_begins_21 : decode cX11_begins 21 = .ok (.iload_n 1, 1) := by decide +kernel
theorem dX11_begins_22 : decode cX11_begins 22 = .ok (.putfield 64, 3) := by decide +kernel
theorem dX11_begins_25 : decode cX11_begins 25 = .ok (.aload_n 0, 1) := by decide +kernel
theorem dX11_begins_26 : decode cX11_begins 26 = .ok (.iload_n 2, 1) := by decide +kernel
theorem dX11_begins_27 : decode cX11_begins 27 = .ok (.bipush 60, 2) := by decide +kernel
theorem dX11_begins_29 : decode cX11_begins 29 = .ok (.invokestatic 112, 3) := by decide +kernel
theorem dX11_begins_32 : decode cX11_begins 32 = .ok (.putfield 28, 3) := by decide +kernel
theorem dX11_begins_35 : decode cX11_begins 35 = .ok (.iload_n 2, 1) := by decide +kernel
theorem dX11_begins_36 : decode cX11_begins 36 = .ok (.ireturn, 1) := by decide +kernel
theorem dX11_fault_0 : decode cX11_fault 0 = .ok (.iload_n 2, 1) := by decide +kernel
theorem dX11_fault_1 : decode cX11_fault 1 = .ok (.ifCond .eq 18, 3) := by decide +kernel
theorem dX11_fault_4 : decode cX11_fault 4 = .ok (.aload_n 0, 1) := by decide +kernel
theorem dX11_fault_5 : decode cX11_fault 5 = .ok (.getfield 25, 3) := by decide +kernel
theorem dX11_fault_8 : decode cX11_fault 8 = .ok (.aload_n 0, 1) := by decide +kernel
theorem dX11_fault_9 : decode cX11_fault 9 = .ok (.getfield 28, 3) := by decide +kernel
theorem dX11_fault_12 : decode cX11_fault 12 = .ok (.if_icmp .ne 7, 3) := by decide +kernel
theorem dX11_fault_15 : decode cX11_fault 15 = .ok (.iconst 1, 1) := by decide +kernel
theorem dX11_fault_16 : decode cX11_fault 16 = .ok (.goto 4, 3) := by decide +kernel
theorem dX11_fault_19 : decode cX11_fault 19 = .ok (.iconst 0, 1) := by decide +kernel
theorem dX11_fault_20 : decode cX11_fault 20 = .ok (.istore_n 3, 1) := by decide +kernel
theorem dX11_fault_21 : decode cX11_fault 21 = .ok (.iload_n 1, 1) := by decide +kernel
theorem dX11_fault_22 : decode cX11_fault 22 = .ok (.bipush 60, 2) := by decide +kernel
theorem dX11_fault_24 : decode cX11_fault 24 = .ok (.if_icmp .le 19, 3) := by decide +kernel
theorem dX11_fault_27 : decode cX11_fault 27 = .ok (.iload_n 3, 1) := by decide +kernel
theorem dX11_fault_28 : decode cX11_fault 28 = .ok (.ifCond .ne 12, 3) := by decide +kernel
theorem dX11_fault_31 : decode cX11_fault 31 = .ok (.aload_n 0, 1) := by decide +kernel
theorem dX11_fault_32 : decode cX11_fault 32 = .ok (.getfield 25, 3) := by decide +kernel
theorem dX11_fault_35 : decode cX11_fault 35 = .ok (.bipush 60, 2) := by decide +kernel
theorem dX11_fault_37 : decode cX11_fault 37 = .ok (.if_icmp .lt 6, 3) := by decide +kernel
theorem dX11_fault_40 : decode cX11_fault 40 = .ok (.bipush (-61), 2) := by decide +kernel
theorem dX11_fault_42 : decode cX11_fault 42 = .ok (.ireturn, 1) := by decide +kernel
theorem dX11_fault_43 : decode cX11_fault 43 = .ok (.iload_n 3, 1) := by decide +kernel
theorem dX11_fault_44 : decode cX11_fault 44 = .ok (.ifCond .eq 7, 3) := by decide +kernel
theorem dX11_fault_47 : decode cX11_fault 47 = .ok (.iconst 0, 1) := by decide +kernel
theorem dX11_fault_48 : decode cX11_fault 48 = .ok (.goto 9, 3) := by decide +kernel
theorem dX11_fault_51 : decode cX11_fault 51 = .ok (.iconst (-1), 1) := by decide +kernel
theorem dX11_fault_52 : decode cX11_fault 52 = .ok (.aload_n 0, 1) := by decide +kernel
theorem dX11_fault_53 : decode cX11_fault 53 = .ok (.getfield 25, 3) := by decide +kernel
theorem dX11_fault_56 : decode cX11_fault 56 = .ok (.isub, 1) := by decide +kernel
theorem dX11_fault_57 : decode cX11_fault 57 = .ok (.ireturn, 1) := by decide +kernel
theorem dX11_copies_0 : decode cX11_copies 0 = .ok (.aload_n 0, 1) := by decide +kernel
theorem dX11_copies_1 : decode cX11_copies 1 = .ok (.getfield 107, 3) := by decide +kernel
theorem dX11_copies_4 : decode cX11_copies 4 = .ok (.iload_n 2, 1) := by decide +kernel
theorem dX11_copies_5 : decode cX11_copies 5 = .ok (.aload_n 0, 1) := by decide +kernel
theorem dX11_copies_6 : decode cX11_copies 6 = .ok (.getfield 107, 3) := by decide +kernel
theorem dX11_copies_9 : decode cX11_copies 9 = .ok (.iload_n 1, 1) := by decide +kernel
theorem dX11_copies_10 : decode cX11_copies 10 = .ok (.iaload, 1) := by decide +kernel
theorem dX11_copies_11 : decode cX11_copies 11 = .ok (.iastore, 1) := by decide +kernel
theorem dX11_copies_12 : decode cX11_copies 12 = .ok (.aload_n 0, 1) := by decide +kernel
theorem dX11_copies_13 : decode cX11_copies 13 = .ok (.getfield 104, 3) := by decide +kernel
theorem dX11_copies_16 : decode cX11_copies 16 = .ok (.iload_n 2, 1) := by decide +kernel
theorem dX11_copies_17 : decode cX11_copies 17 = .ok (.aload_n 0, 1) := by decide +kernel
theorem dX11_copies_18 : decode cX11_copies 18 = .ok (.getfield 104, 3) := by decide +kernel
theorem dX11_copies_21 : decode cX11_copies 21 = .ok (.iload_n 1, 1) := by decide +kernel
theorem dX11_copies_22 : decode cX11_copies 22 = .ok (.iaload, 1) := by decide +kernel
theorem dX11_copies_23 : decode cX11_copies 23 = .ok (.iastore, 1) := by decide +kernel
theorem dX11_copies_24 : decode cX11_copies 24 = .ok (.aload_n 0, 1) := by decide +kernel
theorem dX11_copies_25 : decode cX11_copies 25 = .ok (.getfield 49, 3) := by decide +kernel
theorem dX11_copies_28 : decode cX11_copies 28 = .ok (.iload_n 2, 1) := by decide +kernel
theorem dX11_copies_29 : decode cX11_copies 29 = .ok (.aload_n 0, 1) := by decide +kernel
theorem dX11_copies_30 : decode cX11_copies 30 = .ok (.getfield 49, 3) := by decide +kernel
theorem dX11_copies_33 : decode cX11_copies 33 = .ok (.iload_n 1, 1) := by decide +kernel
theorem dX11_copies_34 : decode cX11_copies 34 = .ok (.iaload, 1) := by decide +kernel
theorem dX11_copies_35 : decode cX11_copies 35 = .ok (.iastore, 1) := by decide +kernel
theorem dX11_copies_36 : decode cX11_copies 36 = .ok (.iconst 0, 1) := by decide +kernel
theorem dX11_copies_37 : decode cX11_copies 37 = .ok (.istore_n 3, 1) := by decide +kernel
theorem dX11_copies_38 : decode cX11_copies 38 = .ok (.iload_n 3, 1) := by decide +kernel
theorem dX11_copies_39 : decode cX11_copies 39 = .ok (.bipush 64, 2) := by decide +kernel
theorem dX11_copies_41 : decode cX11_copies 41 = .ok (.if_icmp .ge 31, 3) := by decide +kernel
theorem dX11_copies_44 : decode cX11_copies 44 = .ok (.aload_n 0, 1) := by decide +kernel
theorem dX11_copies_45 : decode cX11_copies 45 = .ok (.getfield 43, 3) := by decide +kernel
theorem dX11_copies_48 : decode cX11_copies 48 = .ok (.bipush 64, 2) := by decide +kernel
theorem dX11_copies_50 : decode cX11_copies 50 = .ok (.iload_n 2, 1) := by decide +kernel
theorem dX11_copies_51 : decode cX11_copies 51 = .ok (.imul, 1) := by decide +kernel
theorem dX11_copies_52 : decode cX11_copies 52 = .ok (.iload_n 3, 1) := by decide +kernel
theorem dX11_copies_53 : decode cX11_copies 53 = .ok (.iadd, 1) := by decide +kernel
theorem dX11_copies_54 : decode cX11_copies 54 = .ok (.aload_n 0, 1) := by decide +kernel
theorem dX11_copies_55 : decode cX11_copies 55 = .ok (.getfield 43, 3) := by decide +kernel
theorem dX11_copies_58 : decode cX11_copies 58 = .ok (.bipush 64, 2) := by decide +kernel
theorem dX11_copies_60 : decode cX11_copies 60 = .ok (.iload_n 1, 1) := by decide +kernel
theorem dX11_copies_61 : decode cX11_copies 61 = .ok (.imul, 1) := by decide +kernel
theorem dX11_copies_62 : decode cX11_copies 62 = .ok (.iload_n 3, 1) := by decide +kernel
theorem dX11_copies_63 : decode cX11_copies 63 = .ok (.iadd, 1) := by decide +kernel
theorem dX11_copies_64 : decode cX11_copies 64 = .ok (.iaload, 1) := by decide +kernel
theorem dX11_copies_65 : decode cX11_copies 65 = .ok (.iastore, 1) := by decide +kernel
theorem dX11_copies_66 : decode cX11_copies 66 = .ok (.iinc 3 1, 3) := by decide +kernel
theorem dX11_copies_69 : decode cX11_copies 69 = .ok (.goto (-31), 3) := by decide +kernel
theorem dX11_copies_72 : decode cX11_copies 72 = .ok (.return_, 1) := by decide +kernel
theorem dX11_task_0 : decode cX11_task 0 = .ok (.aload_n 0, 1) := by decide +kernel
theorem dX11_task_1 : decode cX11_task 1 = .ok (.iconst 0, 1) := by decide +kernel
theorem dX11_task_2 : decode cX11_task 2 = .ok (.putfield 3, 3) := by decide +kernel
theorem dX11_task_5 : decode cX11_task 5 = .ok (.aload_n 0, 1) := by decide +kernel
theorem dX11_task_6 : decode cX11_task 6 = .ok (.iconst 0, 1) := by decide +kernel
theorem dX11_task_7 : decode cX11_task 7 = .ok (.invokevirtual 118, 3) := by decide +kernel
theorem dX11_task_10 : decode cX11_task 10 = .ok (.istore_n 2, 1) := by decide +kernel
theorem dX11_task_11 : decode cX11_task 11 = .ok (.iload_n 1, 1) := by decide +kernel
theorem dX11_task_12 : decode cX11_task 12 = .ok (.i2l, 1) := by decide +kernel
theorem dX11_task_13 : decode cX11_task 13 = .ok (.lconst 0, 1) := by decide +kernel
theorem dX11_task_14 : decode cX11_task 14 = .ok (.aload_n 0, 1) := by decide +kernel
theorem dX11_task_15 : decode cX11_task 15 = .ok (.getfield 121, 3) := by decide +kernel
theorem dX11_task_18 : decode cX11_task 18 = .ok (.iconst 3, 1) := by decide +kernel
theorem dX11_task_19 : decode cX11_task 19 = .ok (.invokestatic 112, 3) := by decide +kernel
theorem dX11_task_22 : decode cX11_task 22 = .ok (.i2l, 1) := by decide +kernel
theorem dX11_task_23 : decode cX11_task 23 = .ok (.invokestatic 21, 3) := by decide +kernel
theorem dX11_task_26 : decode cX11_task 26 = .ok (.ifCond .ne 6, 3) := by decide +kernel
theorem dX11_task_29 : decode cX11_task 29 = .ok (.bipush (-100), 2) := by decide +kernel
theorem dX11_task_31 : decode cX11_task 31 = .ok (.ireturn, 1) := by decide +kernel
theorem dX11_task_32 : decode cX11_task 32 = .ok (.iconst 0, 1) := by decide +kernel
theorem dX11_task_33 : decode cX11_task 33 = .ok (.istore_n 3, 1) := by decide +kernel
theorem dX11_task_34 : decode cX11_task 34 = .ok (.iconst 1, 1) := by decide +kernel
theorem dX11_task_35 : decode cX11_task 35 = .ok (.istore 4, 2) := by decide +kernel
theorem dX11_task_37 : decode cX11_task 37 = .ok (.iconst 1, 1) := by decide +kernel
theorem dX11_task_38 : decode cX11_task 38 = .ok (.istore 5, 2) := by decide +kernel
theorem dX11_task_40 : decode cX11_task 40 = .ok (.iload 4, 2) := by decide +kernel
theorem dX11_task_42 : decode cX11_task 42 = .ok (.ifCond .eq 51, 3) := by decide +kernel
theorem dX11_task_45 : decode cX11_task 45 = .ok (.iload 5, 2) := by decide +kernel
theorem dX11_task_47 : decode cX11_task 47 = .ok (.ifCond .eq 46, 3) := by decide +kernel
theorem dX11_task_50 : decode cX11_task 50 = .ok (.aload_n 0, 1) := by decide +kernel
theorem dX11_task_51 : decode cX11_task 51 = .ok (.bipush 74, 2) := by decide +kernel
theorem dX11_task_53 : decode cX11_task 53 = .ok (.iload_n 3, 1) := by decide +kernel
theorem dX11_task_54 : decode cX11_task 54 = .ok (.iadd, 1) := by decide +kernel
theorem dX11_task_55 : decode cX11_task 55 = .ok (.invokevirtual 124, 3) := by decide +kernel
theorem dX11_task_58 : decode cX11_task 58 = .ok (.istore 4, 2) := by decide +kernel
theorem dX11_task_60 : decode cX11_task 60 = .ok (.iinc 3 1, 3) := by decide +kernel
theorem dX11_task_63 : decode cX11_task 63 = .ok (.iload 4, 2) := by decide +kernel
theorem dX11_task_65 : decode cX11_task 65 = .ok (.ifCond .eq 22, 3) := by decide +kernel
theorem dX11_task_68 : decode cX11_task 68 = .ok (.iload_n 3, 1) := by decide +kernel
theorem dX11_task_69 : decode cX11_task 69 = .ok (.bipush 16, 2) := by decide +kernel
theorem dX11_task_71 : decode cX11_task 71 = .ok (.if_icmp .ge 16, 3) := by decide +kernel
theorem dX11_task_74 : decode cX11_task 74 = .ok (.aload_n 0, 1) := by decide +kernel
theorem dX11_task_75 : decode cX11_task 75 = .ok (.bipush 59, 2) := by decide +kernel
theorem dX11_task_77 : decode cX11_task 77 = .ok (.invokevirtual 86, 3) := by decide +kernel
theorem dX11_task_80 : decode cX11_task 80 = .ok (.ifCond .eq 7, 3) := by decide +kernel
theorem dX11_task_83 : decode cX11_task 83 = .ok (.iconst 1, 1) := by decide +kernel
theorem dX11_task_84 : decode cX11_task 84 = .ok (.goto 4, 3) := by decide +kernel
theorem dX11_task_87 : decode cX11_task 87 = .ok (.iconst 0, 1) := by decide +kernel
theorem dX11_task_88 : decode cX11_task 88 = .ok (.istore 5, 2) := by decide +kernel
theorem dX11_task_90 : decode cX11_task 90 = .ok (.goto (-50), 3) := by decide +kernel
theorem dX11_task_93 : decode cX11_task 93 = .ok (.aload_n 0, 1) := by decide +kernel
theorem dX11_task_94 : decode cX11_task 94 = .ok (.iload_n 2, 1) := by decide +kernel
theorem dX11_task_95 : decode cX11_task 95 = .ok (.iload 4, 2) := by decide +kernel
theorem dX11_task_97 : decode cX11_task 97 = .ok (.invokevirtual 128, 3) := by decide +kernel
theorem dX11_task_100 : decode cX11_task 100 = .ok (.istore 6, 2) := by decide +kernel
theorem dX11_task_102 : decode cX11_task 102 = .ok (.iload 6, 2) := by decide +kernel
theorem dX11_task_104 : decode cX11_task 104 = .ok (.ifCond .ge 6, 3) := by decide +kernel
theorem dX11_task_107 : decode cX11_task 107 = .ok (.iload 6, 2) := by decide +kernel
theorem dX11_task_109 : decode cX11_task 109 = .ok (.ireturn, 1) := by decide +kernel
theorem dX11_task_110 : decode cX11_task 110 = .ok (.iconst 0, 1) := by decide +kernel
theorem dX11_task_111 : decode cX11_task 111 = .ok (.istore 7, 2) := by decide +kernel
theorem dX11_task_113 : decode cX11_task 113 = .ok (.iload 7, 2) := by decide +kernel
theorem dX11_task_115 : decode cX11_task 115 = .ok (.iload_n 3, 1) := by decide +kernel
theorem dX11_task_116 : decode cX11_task 116 = .ok (.if_icmp .ge 25, 3) := by decide +kernel
theorem dX11_task_119 : decode cX11_task 119 = .ok (.aload_n 0, 1) := by decide +kernel
theorem dX11_task_120 : decode cX11_task 120 = .ok (.bipush 74, 2) := by decide +kernel
theorem dX11_task_122 : decode cX11_task 122 = .ok (.iload 7, 2) := by decide +kernel
theorem dX11_task_124 : decode cX11_task 124 = .ok (.iadd, 1) := by decide +kernel
theorem dX11_task_125 : decode cX11_task 125 = .ok (.bipush 16, 2) := by decide +kernel
theorem dX11_task_127 : decode cX11_task 127 = .ok (.iload_n 1, 1) := by decide +kernel
theorem dX11_task_128 : decode cX11_task 128 = .ok (.imul, 1) := by decide +kernel
theorem dX11_task_129 : decode cX11_task 129 = .ok (.iload 7, 2) := by decide +kernel
theorem dX11_task_131 : decode cX11_task 131 = .ok (.iadd, 1) := by decide +kernel
theorem dX11_task_132 : decode cX11_task 132 = .ok (.invokevirtual 132, 3) := by decide +kernel
theorem dX11_task_135 : decode cX11_task 135 = .ok (.iinc 7 1, 3) := by decide +kernel
theorem dX11_task_138 : decode cX11_task 138 = .ok (.goto (-25), 3) := by decide +kernel
theorem dX11_task_141 : decode cX11_task 141 = .ok (.iconst 0, 1) := by decide +kernel
theorem dX11_task_142 : decode cX11_task 142 = .ok (.istore 7, 2) := by decide +kernel
theorem dX11_task_144 : decode cX11_task 144 = .ok (.iload 7, 2) := by decide +kernel
theorem dX11_task_146 : decode cX11_task 146 = .ok (.aload_n 0, 1) := by decide +kernel
theorem dX11_task_147 : decode cX11_task 147 = .ok (.getfield 28, 3) := by decide +kernel
theorem dX11_task_150 : decode cX11_task 150 = .ok (.if_icmp .ge 28, 3) := by decide +kernel
theorem dX11_task_153 : decode cX11_task 153 = .ok (.aload_n 0, 1) := by decide +kernel
theorem dX11_task_154 : decode cX11_task 154 = .ok (.getfield 136, 3) := by decide +kernel
theorem dX11_task_157 : decode cX11_task 157 = .ok (.bipush 60, 2) := by decide +kernel
theorem dX11_task_159 : decode cX11_task 159 = .ok (.iload_n 1, 1) := by decide +kernel
theorem dX11_task_160 : decode cX11_task 160 = .ok (.imul, 1) := by decide +kernel
theorem dX11_task_161 : decode cX11_task 161 = .ok (.iload 7, 2) := by decide +kernel
theorem dX11_task_163 : decode cX11_task 163 = .ok (.iadd, 1) := by decide +kernel
theorem dX11_task_164 : decode cX11_task 164 = .ok (.aload_n 0, 1) := by decide +kernel
theorem dX11_task_165 : decode cX11_task 165 = .ok (.getfield 17, 3) := by decide +kernel
theorem dX11_task_168 : decode cX11_task 168 = .ok (.iload 7, 2) := by decide +kernel
theorem dX11_task_170 : decode cX11_task 170 = .ok (.iaload, 1) := by decide +kernel
theorem dX11_task_171 : decode cX11_task 171 = .ok (.iastore, 1) := by decide +kernel
theorem dX11_task_172 : decode cX11_task 172 = .ok (.iinc 7 1, 3) := by decide +kernel
theorem dX11_task_175 : decode cX11_task 175 = .ok (.goto (-31), 3) := by decide +kernel
theorem dX11_task_178 : decode cX11_task 178 = .ok (.aload_n 0, 1) := by decide +kernel
theorem dX11_task_179 : decode cX11_task 179 = .ok (.getfield 139, 3) := by decide +kernel
theorem dX11_task_182 : decode cX11_task 182 = .ok (.iload_n 1, 1) := by decide +kernel
theorem dX11_task_183 : decode cX11_task 183 = .ok (.aload_n 0, 1) := by decide +kernel
theorem dX11_task_184 : decode cX11_task 184 = .ok (.getfield 28, 3) := by decide +kernel
theorem dX11_task_187 : decode cX11_task 187 = .ok (.iastore, 1) := by decide +kernel
theorem dX11_task_188 : decode cX11_task 188 = .ok (.aload_n 0, 1) := by decide +kernel
theorem dX11_task_189 : decode cX11_task 189 = .ok (.getfield 142, 3) := by decide +kernel
theorem dX11_task_192 : decode cX11_task 192 = .ok (.iload_n 1, 1) := by decide +kernel
theorem dX11_task_193 : decode cX11_task 193 = .ok (.iload_n 3, 1) := by decide +kernel
theorem dX11_task_194 : decode cX11_task 194 = .ok (.iastore, 1) := by decide +kernel
theorem dX11_task_195 : decode cX11_task 195 = .ok (.aload_n 0, 1) := by decide +kernel
theorem dX11_task_196 : decode cX11_task 196 = .ok (.getfield 145, 3) := by decide +kernel
theorem dX11_task_199 : decode cX11_task 199 = .ok (.iload_n 1, 1) := by decide +kernel
theorem dX11_task_200 : decode cX11_task 200 = .ok (.iconst 0, 1) := by decide +kernel
theorem dX11_task_201 : decode cX11_task 201 = .ok (.iastore, 1) := by decide +kernel
theorem dX11_task_202 : decode cX11_task 202 = .ok (.aload_n 0, 1) := by decide +kernel
theorem dX11_task_203 : decode cX11_task 203 = .ok (.aload_n 0, 1) := by decide +kernel
theorem dX11_task_204 : decode cX11_task 204 = .ok (.getfield 121, 3) := by decide +kernel
theorem dX11_task_207 : decode cX11_task 207 = .ok (.iload_n 1, 1) := by decide +kernel
theorem dX11_task_208 : decode cX11_task 208 = .ok (.iconst 1, 1) := by decide +kernel
theorem dX11_task_209 : decode cX11_task 209 = .ok (.iadd, 1) := by decide +kernel
theorem dX11_task_210 : decode cX11_task 210 = .ok (.invokestatic 148, 3) := by decide +kernel
theorem dX11_task_213 : decode cX11_task 213 = .ok (.putfield 121, 3) := by decide +kernel
theorem dX11_task_216 : decode cX11_task 216 = .ok (.aload_n 0, 1) := by decide +kernel
theorem dX11_task_217 : decode cX11_task 217 = .ok (.invokevirtual 151, 3) := by decide +kernel
theorem dX11_task_220 : decode cX11_task 220 = .ok (.iload_n 3, 1) := by decide +kernel
theorem dX11_task_221 : decode cX11_task 221 = .ok (.ireturn, 1) := by decide +kernel
theorem dX11_must_0 : decode cX11_must 0 = .ok (.aload_n 0, 1) := by decide +kernel
theorem dX11_must_1 : decode cX11_must 1 = .ok (.iconst 0, 1) := by decide +kernel
theorem dX11_must_2 : decode cX11_must 2 = .ok (.putfield 3, 3) := by decide +kernel
theorem dX11_must_5 : decode cX11_must 5 = .ok (.aload_n 0, 1) := by decide +kernel
theorem dX11_must_6 : decode cX11_must 6 = .ok (.iconst 1, 1) := by decide +kernel
theorem dX11_must_7 : decode cX11_must 7 = .ok (.invokevirtual 118, 3) := by decide +kernel
theorem dX11_must_10 : decode cX11_must 10 = .ok (.istore_n 1, 1) := by decide +kernel
theorem dX11_must_11 : decode cX11_must 11 = .ok (.iload_n 1, 1) := by decide +kernel
theorem dX11_must_12 : decode cX11_must 12 = .ok (.ifCond .ne 10, 3) := by decide +kernel
theorem dX11_must_15 : decode cX11_must 15 = .ok (.aload_n 0, 1) := by decide +kernel
theorem dX11_must_16 : decode cX11_must 16 = .ok (.iconst 0, 1) := by decide +kernel
theorem dX11_must_17 : decode cX11_must 17 = .ok (.putfield 155, 3) := by decide +kernel
theorem dX11_must_20 : decode cX11_must 20 = .ok (.iconst 0, 1) := by decide +kernel
theorem dX11_must_21 : decode cX11_must 21 = .ok (.ireturn, 1) := by decide +kernel
theorem dX11_must_22 : decode cX11_must 22 = .ok (.aload_n 0, 1) := by decide +kernel
theorem dX11_must_23 : decode cX11_must 23 = .ok (.bipush 74, 2) := by decide +kernel
theorem dX11_must_25 : decode cX11_must 25 = .ok (.putfield 46, 3) := by decide +kernel
theorem dX11_must_28 : decode cX11_must 28 = .ok (.aload_n 0, 1) := by decide +kernel
theorem dX11_must_29 : decode cX11_must 29 = .ok (.getfield 49, 3) := by decide +kernel
theorem dX11_must_32 : decode cX11_must 32 = .ok (.aload_n 0, 1) := by decide +kernel
theorem dX11_must_33 : decode cX11_must 33 = .ok (.getfield 46, 3) := by decide +kernel
theorem dX11_must_36 : decode cX11_must 36 = .ok (.iconst 0, 1) := by decide +kernel
theorem dX11_must_37 : decode cX11_must 37 = .ok (.iastore, 1) := by decide +kernel
theorem dX11_must_38 : decode cX11_must 38 = .ok (.aload_n 0, 1) := by decide +kernel
theorem dX11_must_39 : decode cX11_must 39 = .ok (.iload_n 1, 1) := by decide +kernel
theorem dX11_must_40 : decode cX11_must 40 = .ok (.aload_n 0, 1) := by decide +kernel
theorem dX11_must_41 : decode cX11_must 41 = .ok (.invokevirtual 83, 3) := by decide +kernel
theorem dX11_must_44 : decode cX11_must 44 = .ok (.invokevirtual 128, 3) := by decide +kernel
theorem dX11_must_47 : decode cX11_must 47 = .ok (.istore_n 2, 1) := by decide +kernel
theorem dX11_must_48 : decode cX11_must 48 = .ok (.iload_n 2, 1) := by decide +kernel
theorem dX11_must_49 : decode cX11_must 49 = .ok (.ifCond .ge 5, 3) := by decide +kernel
theorem dX11_must_52 : decode cX11_must 52 = .ok (.iload_n 2, 1) := by decide +kernel
theorem dX11_must_53 : decode cX11_must 53 = .ok (.ireturn, 1) := by decide +kernel
theorem dX11_must_54 : decode cX11_must 54 = .ok (.aload_n 0, 1) := by decide +kernel
theorem dX11_must_55 : decode cX11_must 55 = .ok (.bipush 74, 2) := by decide +kernel
theorem dX11_must_57 : decode cX11_must 57 = .ok (.bipush 69, 2) := by decide +kernel
theorem dX11_must_59 : decode cX11_must 59 = .ok (.invokevirtual 132, 3) := by decide +kernel
theorem dX11_must_62 : decode cX11_must 62 = .ok (.aload_n 0, 1) := by decide +kernel
theorem dX11_must_63 : decode cX11_must 63 = .ok (.iconst 1, 1) := by decide +kernel
theorem dX11_must_64 : decode cX11_must 64 = .ok (.putfield 155, 3) := by decide +kernel
theorem dX11_must_67 : decode cX11_must 67 = .ok (.iconst 0, 1) := by decide +kernel
theorem dX11_must_68 : decode cX11_must 68 = .ok (.ireturn, 1) := by decide +kernel
theorem dX11_bolt_0 : decode cX11_bolt 0 = .ok (.aload_n 0, 1) := by decide +kernel
theorem dX11_bolt_1 : decode cX11_bolt 1 = .ok (.iconst 0, 1) := by decide +kernel
theorem dX11_bolt_2 : decode cX11_bolt 2 = .ok (.putfield 3, 3) := by decide +kernel
theorem dX11_bolt_5 : decode cX11_bolt 5 = .ok (.aload_n 0, 1) := by decide +kernel
theorem dX11_bolt_6 : decode cX11_bolt 6 = .ok (.iconst 1, 1) := by decide +kernel
theorem dX11_bolt_7 : decode cX11_bolt 7 = .ok (.invokevirtual 118, 3) := by decide +kernel
theorem dX11_bolt_10 : decode cX11_bolt 10 = .ok (.istore_n 1, 1) := by decide +kernel
theorem dX11_bolt_11 : decode cX11_bolt 11 = .ok (.aload_n 0, 1) := by decide +kernel
theorem dX11_bolt_12 : decode cX11_bolt 12 = .ok (.getfield 158, 3) := by decide +kernel
theorem dX11_bolt_15 : decode cX11_bolt 15 = .ok (.iconst 3, 1) := by decide +kernel
theorem dX11_bolt_16 : decode cX11_bolt 16 = .ok (.if_icmp .ne 6, 3) := by decide +kernel
theorem dX11_bolt_19 : decode cX11_bolt 19 = .ok (.bipush (-100), 2) := by decide +kernel
theorem dX11_bolt_21 : decode cX11_bolt 21 = .ok (.ireturn, 1) := by decide +kernel
theorem dX11_bolt_22 : decode cX11_bolt 22 = .ok (.aload_n 0, 1) := by decide +kernel
theorem dX11_bolt_23 : decode cX11_bolt 23 = .ok (.bipush 74, 2) := by decide +kernel
theorem dX11_bolt_25 : decode cX11_bolt 25 = .ok (.putfield 46, 3) := by decide +kernel
theorem dX11_bolt_28 : decode cX11_bolt 28 = .ok (.aload_n 0, 1) := by decide +kernel
theorem dX11_bolt_29 : decode cX11_bolt 29 = .ok (.getfield 49, 3) := by decide +kernel
theorem dX11_bolt_32 : decode cX11_bolt 32 = .ok (.aload_n 0, 1) := by decide +kernel
theorem dX11_bolt_33 : decode cX11_bolt 33 = .ok (.getfield 46, 3) := by decide +kernel
theorem dX11_bolt_36 : decode cX11_bolt 36 = .ok (.iconst 0, 1) := by decide +kernel
theorem dX11_bolt_37 : decode cX11_bolt 37 = .ok (.iastore, 1) := by decide +kernel
theorem dX11_bolt_38 : decode cX11_bolt 38 = .ok (.aload_n 0, 1) := by decide +kernel
theorem dX11_bolt_39 : decode cX11_bolt 39 = .ok (.iload_n 1, 1) := by decide +kernel
theorem dX11_bolt_40 : decode cX11_bolt 40 = .ok (.aload_n 0, 1) := by decide +kernel
theorem dX11_bolt_41 : decode cX11_bolt 41 = .ok (.invokevirtual 83, 3) := by decide +kernel
theorem dX11_bolt_44 : decode cX11_bolt 44 = .ok (.invokevirtual 128, 3) := by decide +kernel
theorem dX11_bolt_47 : decode cX11_bolt 47 = .ok (.istore_n 2, 1) := by decide +kernel
theorem dX11_bolt_48 : decode cX11_bolt 48 = .ok (.iload_n 2, 1) := by decide +kernel
theorem dX11_bolt_49 : decode cX11_bolt 49 = .ok (.ifCond .ge 5, 3) := by decide +kernel
theorem dX11_bolt_52 : decode cX11_bolt 52 = .ok (.iload_n 2, 1) := by decide +kernel
theorem dX11_bolt_53 : decode cX11_bolt 53 = .ok (.ireturn, 1) := by decide +kernel
theorem dX11_bolt_54 : decode cX11_bolt 54 = .ok (.aload_n 0, 1) := by decide +kernel
theorem dX11_bolt_55 : decode cX11_bolt 55 = .ok (.bipush 74, 2) := by decide +kernel
theorem dX11_bolt_57 : decode cX11_bolt 57 = .ok (.bipush 70, 2) := by decide +kernel
theorem dX11_bolt_59 : decode cX11_bolt 59 = .ok (.aload_n 0, 1) := by decide +kernel
theorem dX11_bolt_60 : decode cX11_bolt 60 = .ok (.getfield 158, 3) := by decide +kernel
theorem dX11_bolt_63 : decode cX11_bolt 63 = .ok (.iadd, 1) := by decide +kernel
theorem dX11_bolt_64 : decode cX11_bolt 64 = .ok (.invokevirtual 132, 3) := by decide +kernel
theorem dX11_bolt_67 : decode cX11_bolt 67 = .ok (.aload_n 0, 1) := by decide +kernel
theorem dX11_bolt_68 : decode cX11_bolt 68 = .ok (.dup, 1) := by decide +kernel
theorem dX11_bolt_69 : decode cX11_bolt 69 = .ok (.getfield 161, 3) := by decide +kernel
theorem dX11_bolt_72 : decode cX11_bolt 72 = .ok (.iconst 1, 1) := by decide +kernel
theorem dX11_bolt_73 : decode cX11_bolt 73 = .ok (.aload_n 0, 1) := by decide +kernel
theorem dX11_bolt_74 : decode cX11_bolt 74 = .ok (.getfield 158, 3) := by decide +kernel
theorem dX11_bolt_77 : decode cX11_bolt 77 = .ok (.ishl, 1) := by decide +kernel
theorem dX11_bolt_78 : decode cX11_bolt 78 = .ok (.ior, 1) := by decide +kernel
theorem dX11_bolt_79 : decode cX11_bolt 79 = .ok (.putfield 161, 3) := by decide +kernel
theorem dX11_bolt_82 : decode cX11_bolt 82 = .ok (.aload_n 0, 1) := by decide +kernel
theorem dX11_bolt_83 : decode cX11_bolt 83 = .ok (.dup, 1) := by decide +kernel
theorem dX11_bolt_84 : decode cX11_bolt 84 = .ok (.getfield 158, 3) := by decide +kernel
theorem dX11_bolt_87 : decode cX11_bolt 87 = .ok (.iconst 1, 1) := by decide +kernel
theorem dX11_bolt_88 : decode cX11_bolt 88 = .ok (.iadd, 1) := by decide +kernel
theorem dX11_bolt_89 : decode cX11_bolt 89 = .ok (.putfield 158, 3) := by decide +kernel
theorem dX11_bolt_92 : decode cX11_bolt 92 = .ok (.aload_n 0, 1) := by decide +kernel
theorem dX11_bolt_93 : decode cX11_bolt 93 = .ok (.invokevirtual 151, 3) := by decide +kernel
theorem dX11_bolt_96 : decode cX11_bolt 96 = .ok (.aload_n 0, 1) := by decide +kernel
theorem dX11_bolt_97 : decode cX11_bolt 97 = .ok (.getfield 158, 3) := by decide +kernel
theorem dX11_bolt_100 : decode cX11_bolt 100 = .ok (.iconst 1, 1) := by decide +kernel
theorem dX11_bolt_101 : decode cX11_bolt 101 = .ok (.isub, 1) := by decide +kernel
theorem dX11_bolt_102 : decode cX11_bolt 102 = .ok (.ireturn, 1) := by decide +kernel
theorem dX11_turn_0 : decode cX11_turn 0 = .ok (.aload_n 0, 1) := by decide +kernel
theorem dX11_turn_1 : decode cX11_turn 1 = .ok (.iconst 0, 1) := by decide +kernel
theorem dX11_turn_2 : decode cX11_turn 2 = .ok (.putfield 3, 3) := by decide +kernel
theorem dX11_turn_5 : decode cX11_turn 5 = .ok (.iload_n 1, 1) := by decide +kernel
theorem dX11_turn_6 : decode cX11_turn 6 = .ok (.i2l, 1) := by decide +kernel
theorem dX11_turn_7 : decode cX11_turn 7 = .ok (.lconst 0, 1) := by decide +kernel
theorem dX11_turn_8 : decode cX11_turn 8 = .ok (.aload_n 0, 1) := by decide +kernel
theorem dX11_turn_9 : decode cX11_turn 9 = .ok (.getfield 158, 3) := by decide +kernel
theorem dX11_turn_12 : decode cX11_turn 12 = .ok (.iconst 1, 1) := by decide +kernel
theorem dX11_turn_13 : decode cX11_turn 13 = .ok (.isub, 1) := by decide +kernel
theorem dX11_turn_14 : decode cX11_turn 14 = .ok (.i2l, 1) := by decide +kernel
theorem dX11_turn_15 : decode cX11_turn 15 = .ok (.invokestatic 21, 3) := by decide +kernel
theorem dX11_turn_18 : decode cX11_turn 18 = .ok (.ifCond .ne 5, 3) := by decide +kernel
theorem dX11_turn_21 : decode cX11_turn 21 = .ok (.iconst 0, 1) := by decide +kernel
theorem dX11_turn_22 : decode cX11_turn 22 = .ok (.ireturn, 1) := by decide +kernel
theorem dX11_turn_23 : decode cX11_turn 23 = .ok (.aload_n 0, 1) := by decide +kernel
theorem dX11_turn_24 : decode cX11_turn 24 = .ok (.iload_n 2, 1) := by decide +kernel
theorem dX11_turn_25 : decode cX11_turn 25 = .ok (.ifCond .eq 14, 3) := by decide +kernel
theorem dX11_turn_28 : decode cX11_turn 28 = .ok (.aload_n 0, 1) := by decide +kernel
theorem dX11_turn_29 : decode cX11_turn 29 = .ok (.getfield 161, 3) := by decide +kernel
theorem dX11_turn_32 : decode cX11_turn 32 = .ok (.iconst 1, 1) := by decide +kernel
theorem dX11_turn_33 : decode cX11_turn 33 = .ok (.iload_n 1, 1) := by decide +kernel
theorem dX11_turn_34 : decode cX11_turn 34 = .ok (.ishl, 1) := by decide +kernel
theorem dX11_turn_35 : decode cX11_turn 35 = .ok (.ior, 1) := by decide +kernel
theorem dX11_turn_36 : decode cX11_turn 36 = .ok (.goto 13, 3) := by decide +kernel
theorem dX11_turn_39 : decode cX11_turn 39 = .ok (.aload_n 0, 1) := by decide +kernel
theorem dX11_turn_40 : decode cX11_turn 40 = .ok (.getfield 161, 3) := by decide +kernel
theorem dX11_turn_43 : decode cX11_turn 43 = .ok (.iconst 1, 1) := by decide +kernel
theorem dX11_turn_44 : decode cX11_turn 44 = .ok (.iload_n 1, 1) := by decide +kernel
theorem dX11_turn_45 : decode cX11_turn 45 = .ok (.ishl, 1) := by decide +kernel
theorem dX11_turn_46 : decode cX11_turn 46 = .ok (.iconst (-1), 1) := by decide +kernel
theorem dX11_turn_47 : decode cX11_turn 47 = .ok (.ixor, 1) := by decide +kernel
theorem dX11_turn_48 : decode cX11_turn 48 = .ok (.iand, 1) := by decide +kernel
theorem dX11_turn_49 : decode cX11_turn 49 = .ok (.putfield 161, 3) := by decide +kernel
theorem dX11_turn_52 : decode cX11_turn 52 = .ok (.iconst 1, 1) := by decide +kernel
theorem dX11_turn_53 : decode cX11_turn 53 = .ok (.ireturn, 1) := by decide +kernel
theorem dX11_acted_0 : decode cX11_acted 0 = .ok (.iload_n 0, 1) := by decide +kernel
theorem dX11_acted_1 : decode cX11_acted 1 = .ok (.lookupswitch 126 #[(38, 109), (43, 59), (45, 63), (60, 67), (61, 95), (62, 81)], 59) := by decide +kernel
theorem dX11_acted_60 : decode cX11_acted 60 = .ok (.iload_n 1, 1) := by decide +kernel
theorem dX11_acted_61 : decode cX11_acted 61 = .ok (.iload_n 2, 1) := by decide +kernel
theorem dX11_acted_62 : decode cX11_acted 62 = .ok (.iadd, 1) := by decide +kernel
theorem dX11_acted_63 : decode cX11_acted 63 = .ok (.ireturn, 1) := by decide +kernel
theorem dX11_acted_64 : decode cX11_acted 64 = .ok (.iload_n 1, 1) := by decide +kernel
theorem dX11_acted_65 : decode cX11_acted 65 = .ok (.iload_n 2, 1) := by decide +kernel
theorem dX11_acted_66 : decode cX11_acted 66 = .ok (.isub, 1) := by decide +kernel
theorem dX11_acted_67 : decode cX11_acted 67 = .ok (.ireturn, 1) := by decide +kernel
theorem dX11_acted_68 : decode cX11_acted 68 = .ok (.iload_n 1, 1) := by decide +kernel
theorem dX11_acted_69 : decode cX11_acted 69 = .ok (.iload_n 2, 1) := by decide +kernel
theorem dX11_acted_70 : decode cX11_acted 70 = .ok (.if_icmp .ge 7, 3) := by decide +kernel
theorem dX11_acted_73 : decode cX11_acted 73 = .ok (.iconst 1, 1) := by decide +kernel
theorem dX11_acted_74 : decode cX11_acted 74 = .ok (.goto 4, 3) := by decide +kernel
theorem dX11_acted_77 : decode cX11_acted 77 = .ok (.iconst 0, 1) := by decide +kernel
theorem dX11_acted_78 : decode cX11_acted 78 = .ok (.invokestatic 35, 3) := by decide +kernel
theorem dX11_acted_81 : decode cX11_acted 81 = .ok (.ireturn, 1) := by decide +kernel
theorem dX11_acted_82 : decode cX11_acted 82 = .ok (.iload_n 1, 1) := by decide +kernel
theorem dX11_acted_83 : decode cX11_acted 83 = .ok (.iload_n 2, 1) := by decide +kernel
theorem dX11_acted_84 : decode cX11_acted 84 = .ok (.if_icmp .le 7, 3) := by decide +kernel
theorem dX11_acted_87 : decode cX11_acted 87 = .ok (.iconst 1, 1) := by decide +kernel
theorem dX11_acted_88 : decode cX11_acted 88 = .ok (.goto 4, 3) := by decide +kernel
theorem dX11_acted_91 : decode cX11_acted 91 = .ok (.iconst 0, 1) := by decide +kernel
theorem dX11_acted_92 : decode cX11_acted 92 = .ok (.invokestatic 35, 3) := by decide +kernel
theorem dX11_acted_95 : decode cX11_acted 95 = .ok (.ireturn, 1) := by decide +kernel
theorem dX11_acted_96 : decode cX11_acted 96 = .ok (.iload_n 1, 1) := by decide +kernel
theorem dX11_acted_97 : decode cX11_acted 97 = .ok (.iload_n 2, 1) := by decide +kernel
theorem dX11_acted_98 : decode cX11_acted 98 = .ok (.if_icmp .ne 7, 3) := by decide +kernel
theorem dX11_acted_101 : decode cX11_acted 101 = .ok (.iconst 1, 1) := by decide +kernel
theorem dX11_acted_102 : decode cX11_acted 102 = .ok (.goto 4, 3) := by decide +kernel
theorem dX11_acted_105 : decode cX11_acted 105 = .ok (.iconst 0, 1) := by decide +kernel
theorem dX11_acted_106 : decode cX11_acted 106 = .ok (.invokestatic 35, 3) := by decide +kernel
theorem dX11_acted_109 : decode cX11_acted 109 = .ok (.ireturn, 1) := by decide +kernel
theorem dX11_acted_110 : decode cX11_acted 110 = .ok (.iload_n 1, 1) := by decide +kernel
theorem dX11_acted_111 : decode cX11_acted 111 = .ok (.ifCond .eq 11, 3) := by decide +kernel
theorem dX11_acted_114 : decode cX11_acted 114 = .ok (.iload_n 2, 1) := by decide +kernel
theorem dX11_acted_115 : decode cX11_acted 115 = .ok (.ifCond .eq 7, 3) := by decide +kernel
theorem dX11_acted_118 : decode cX11_acted 118 = .ok (.iconst 1, 1) := by decide +kernel
theorem dX11_acted_119 : decode cX11_acted 119 = .ok (.goto 4, 3) := by decide +kernel
theorem dX11_acted_122 : decode cX11_acted 122 = .ok (.iconst 0, 1) := by decide +kernel
theorem dX11_acted_123 : decode cX11_acted 123 = .ok (.invokestatic 35, 3) := by decide +kernel
theorem dX11_acted_126 : decode cX11_acted 126 = .ok (.ireturn, 1) := by decide +kernel
theorem dX11_acted_127 : decode cX11_acted 127 = .ok (.iload_n 1, 1) := by decide +kernel
theorem dX11_acted_128 : decode cX11_acted 128 = .ok (.ifCond .ne 7, 3) := by decide +kernel
theorem dX11_acted_131 : decode cX11_acted 131 = .ok (.iload_n 2, 1) := by decide +kernel
theorem dX11_acted_132 : decode cX11_acted 132 = .ok (.ifCond .eq 7, 3) := by decide +kernel
theorem dX11_acted_135 : decode cX11_acted 135 = .ok (.iconst 1, 1) := by decide +kernel
theorem dX11_acted_136 : decode cX11_acted 136 = .ok (.goto 4, 3) := by decide +kernel
theorem dX11_acted_139 : decode cX11_acted 139 = .ok (.iconst 0, 1) := by decide +kernel
theorem dX11_acted_140 : decode cX11_acted 140 = .ok (.invokestatic 35, 3) := by decide +kernel
theorem dX11_acted_143 : decode cX11_acted 143 = .ok (.ireturn, 1) := by decide +kernel
theorem dX11_valueOf_0 : decode cX11_valueOf 0 = .ok (.iload_n 1, 1) := by decide +kernel
theorem dX11_valueOf_1 : decode cX11_valueOf 1 = .ok (.sipush 1000, 3) := by decide +kernel
theorem dX11_valueOf_4 : decode cX11_valueOf 4 = .ok (.if_icmp .ge 5, 3) := by decide +kernel
theorem dX11_valueOf_7 : decode cX11_valueOf 7 = .ok (.iload_n 1, 1) := by decide +kernel
theorem dX11_valueOf_8 : decode cX11_valueOf 8 = .ok (.ireturn, 1) := by decide +kernel
theorem dX11_valueOf_9 : decode cX11_valueOf 9 = .ok (.iload_n 1, 1) := by decide +kernel
theorem dX11_valueOf_10 : decode cX11_valueOf 10 = .ok (.sipush 1010, 3) := by decide +kernel
theorem dX11_valueOf_13 : decode cX11_valueOf 13 = .ok (.if_icmp .ge 14, 3) := by decide +kernel
theorem dX11_valueOf_16 : decode cX11_valueOf 16 = .ok (.aload_n 0, 1) := by decide +kernel
theorem dX11_valueOf_17 : decode cX11_valueOf 17 = .ok (.getfield 164, 3) := by decide +kernel
theorem dX11_valueOf_20 : decode cX11_valueOf 20 = .ok (.iload_n 1, 1) := by decide +kernel
theorem dX11_valueOf_21 : decode cX11_valueOf 21 = .ok (.sipush 1000, 3) := by decide +kernel
theorem dX11_valueOf_24 : decode cX11_valueOf 24 = .ok (.isub, 1) := by decide +kernel
theorem dX11_valueOf_25 : decode cX11_valueOf 25 = .ok (.iaload, 1) := by decide +kernel
theorem dX11_valueOf_26 : decode cX11_valueOf 26 = .ok (.ireturn, 1) := by decide +kernel
theorem dX11_valueOf_27 : decode cX11_valueOf 27 = .ok (.iload_n 1, 1) := by decide +kernel
theorem dX11_valueOf_28 : decode cX11_valueOf 28 = .ok (.sipush 1020, 3) := by decide +kernel
theorem dX11_valueOf_31 : decode cX11_valueOf 31 = .ok (.if_icmp .ge 31, 3) := by decide +kernel
theorem dX11_valueOf_34 : decode cX11_valueOf 34 = .ok (.aload_n 0, 1) := by decide +kernel
theorem dX11_valueOf_35 : decode cX11_valueOf 35 = .ok (.getfield 167, 3) := by decide +kernel
theorem dX11_valueOf_38 : decode cX11_valueOf 38 = .ok (.iload_n 1, 1) := by decide +kernel
theorem dX11_valueOf_39 : decode cX11_valueOf 39 = .ok (.sipush 1010, 3) := by decide +kernel
theorem dX11_valueOf_42 : decode cX11_valueOf 42 = .ok (.isub, 1) := by decide +kernel
theorem dX11_valueOf_43 : decode cX11_valueOf 43 = .ok (.iaload, 1) := by decide +kernel
theorem dX11_valueOf_44 : decode cX11_valueOf 44 = .ok (.ifCond .le 7, 3) := by decide +kernel
theorem dX11_valueOf_47 : decode cX11_valueOf 47 = .ok (.iconst 4, 1) := by decide +kernel
theorem dX11_valueOf_48 : decode cX11_valueOf 48 = .ok (.goto 13, 3) := by decide +kernel
theorem dX11_valueOf_51 : decode cX11_valueOf 51 = .ok (.aload_n 0, 1) := by decide +kernel
theorem dX11_valueOf_52 : decode cX11_valueOf 52 = .ok (.getfield 170, 3) := by decide +kernel
theorem dX11_valueOf_55 : decode cX11_valueOf 55 = .ok (.iload_n 1, 1) := by decide +kernel
theorem dX11_valueOf_56 : decode cX11_valueOf 56 = .ok (.sipush 1010, 3) := by decide +kernel
theorem dX11_valueOf_59 : decode cX11_valueOf 59 = .ok (.isub, 1) := by decide +kernel
theorem dX11_valueOf_60 : decode cX11_valueOf 60 = .ok (.iaload, 1) := by decide +kernel
theorem dX11_valueOf_61 : decode cX11_valueOf 61 = .ok (.ireturn, 1) := by decide +kernel
theorem dX11_valueOf_62 : decode cX11_valueOf 62 = .ok (.iload_n 1, 1) := by decide +kernel
theorem dX11_valueOf_63 : decode cX11_valueOf 63 = .ok (.sipush 1020, 3) := by decide +kernel
theorem dX11_valueOf_66 : decode cX11_valueOf 66 = .ok (.if_icmp .ne 10, 3) := by decide +kernel
theorem dX11_valueOf_69 : decode cX11_valueOf 69 = .ok (.aload_n 0, 1) := by decide +kernel
theorem dX11_valueOf_70 : decode cX11_valueOf 70 = .ok (.getfield 173, 3) := by decide +kernel
theorem dX11_valueOf_73 : decode cX11_valueOf 73 = .ok (.goto 35, 3) := by decide +kernel
theorem dX11_valueOf_76 : decode cX11_valueOf 76 = .ok (.iload_n 1, 1) := by decide +kernel
theorem dX11_valueOf_77 : decode cX11_valueOf 77 = .ok (.sipush 1021, 3) := by decide +kernel
theorem dX11_valueOf_80 : decode cX11_valueOf 80 = .ok (.if_icmp .ne 10, 3) := by decide +kernel
theorem dX11_valueOf_83 : decode cX11_valueOf 83 = .ok (.aload_n 0, 1) := by decide +kernel
theorem dX11_valueOf_84 : decode cX11_valueOf 84 = .ok (.getfield 176, 3) := by decide +kernel
theorem dX11_valueOf_87 : decode cX11_valueOf 87 = .ok (.goto 21, 3) := by decide +kernel
theorem dX11_valueOf_90 : decode cX11_valueOf 90 = .ok (.iload_n 1, 1) := by decide +kernel
theorem dX11_valueOf_91 : decode cX11_valueOf 91 = .ok (.sipush 1022, 3) := by decide +kernel
theorem dX11_valueOf_94 : decode cX11_valueOf 94 = .ok (.if_icmp .ne 10, 3) := by decide +kernel
theorem dX11_valueOf_97 : decode cX11_valueOf 97 = .ok (.aload_n 0, 1) := by decide +kernel
theorem dX11_valueOf_98 : decode cX11_valueOf 98 = .ok (.getfield 179, 3) := by decide +kernel
theorem dX11_valueOf_101 : decode cX11_valueOf 101 = .ok (.goto 7, 3) := by decide +kernel
theorem dX11_valueOf_104 : decode cX11_valueOf 104 = .ok (.aload_n 0, 1) := by decide +kernel
theorem dX11_valueOf_105 : decode cX11_valueOf 105 = .ok (.getfield 182, 3) := by decide +kernel
theorem dX11_valueOf_108 : decode cX11_valueOf 108 = .ok (.ireturn, 1) := by decide +kernel
theorem dX11_worked_0 : decode cX11_worked 0 = .ok (.iconst 0, 1) := by decide +kernel
theorem dX11_worked_1 : decode cX11_worked 1 = .ok (.istore_n 2, 1) := by decide +kernel
theorem dX11_worked_2 : decode cX11_worked 2 = .ok (.iconst 0, 1) := by decide +kernel
theorem dX11_worked_3 : decode cX11_worked 3 = .ok (.istore_n 3, 1) := by decide +kernel
theorem dX11_worked_4 : decode cX11_worked 4 = .ok (.iload_n 3, 1) := by decide +kernel
theorem dX11_worked_5 : decode cX11_worked 5 = .ok (.aload_n 0, 1) := by decide +kernel
theorem dX11_worked_6 : decode cX11_worked 6 = .ok (.getfield 49, 3) := by decide +kernel
theorem dX11_worked_9 : decode cX11_worked 9 = .ok (.iload_n 1, 1) := by decide +kernel
theorem dX11_worked_10 : decode cX11_worked 10 = .ok (.iaload, 1) := by decide +kernel
theorem dX11_worked_11 : decode cX11_worked 11 = .ok (.if_icmp .ge 148, 3) := by decide +kernel
theorem dX11_worked_14 : decode cX11_worked 14 = .ok (.aload_n 0, 1) := by decide +kernel
theorem dX11_worked_15 : decode cX11_worked 15 = .ok (.getfield 43, 3) := by decide +kernel
theorem dX11_worked_18 : decode cX11_worked 18 = .ok (.bipush 64, 2) := by decide +kernel
theorem dX11_worked_20 : decode cX11_worked 20 = .ok (.iload_n 1, 1) := by decide +kernel
theorem dX11_worked_21 : decode cX11_worked 21 = .ok (.imul, 1) := by decide +kernel
theorem dX11_worked_22 : decode cX11_worked 22 = .ok (.iload_n 3, 1) := by decide +kernel
theorem dX11_worked_23 : decode cX11_worked 23 = .ok (.iadd, 1) := by decide +kernel
theorem dX11_worked_24 : decode cX11_worked 24 = .ok (.iaload, 1) := by decide +kernel
theorem dX11_worked_25 : decode cX11_worked 25 = .ok (.istore 4, 2) := by decide +kernel
theorem dX11_worked_27 : decode cX11_worked 27 = .ok (.iload 4, 2) := by decide +kernel
theorem dX11_worked_29 : decode cX11_worked 29 = .ok (.sipush 2000, 3) := by decide +kernel
theorem dX11_worked_32 : decode cX11_worked 32 = .ok (.if_icmp .ge 21, 3) := by decide +kernel
theorem dX11_worked_35 : decode cX11_worked 35 = .ok (.aload_n 0, 1) := by decide +kernel
theorem dX11_worked_36 : decode cX11_worked 36 = .ok (.getfield 185, 3) := by decide +kernel
theorem dX11_worked_39 : decode cX11_worked 39 = .ok (.iload_n 2, 1) := by decide +kernel
theorem dX11_worked_40 : decode cX11_worked 40 = .ok (.aload_n 0, 1) := by decide +kernel
theorem dX11_worked_41 : decode cX11_worked 41 = .ok (.iload 4, 2) := by decide +kernel
theorem dX11_worked_43 : decode cX11_worked 43 = .ok (.invokevirtual 188, 3) := by decide +kernel
theorem dX11_worked_46 : decode cX11_worked 46 = .ok (.iastore, 1) := by decide +kernel
theorem dX11_worked_47 : decode cX11_worked 47 = .ok (.iinc 2 1, 3) := by decide +kernel
theorem dX11_worked_50 : decode cX11_worked 50 = .ok (.goto 103, 3) := by decide +kernel
theorem dX11_worked_53 : decode cX11_worked 53 = .ok (.iload 4, 2) := by decide +kernel
theorem dX11_worked_55 : decode cX11_worked 55 = .ok (.sipush 2033, 3) := by decide +kernel
theorem dX11_worked_58 : decode cX11_worked 58 = .ok (.if_icmp .ne 33, 3) := by decide +kernel
theorem dX11_worked_61 : decode cX11_worked 61 = .ok (.aload_n 0, 1) := by decide +kernel
theorem dX11_worked_62 : decode cX11_worked 62 = .ok (.getfield 185, 3) := by decide +kernel
theorem dX11_worked_65 : decode cX11_worked 65 = .ok (.iload_n 2, 1) := by decide +kernel
theorem dX11_worked_66 : decode cX11_worked 66 = .ok (.iconst 1, 1) := by decide +kernel
theorem dX11_worked_67 : decode cX11_worked 67 = .ok (.isub, 1) := by decide +kernel
theorem dX11_worked_68 : decode cX11_worked 68 = .ok (.aload_n 0, 1) := by decide +kernel
theorem dX11_worked_69 : decode cX11_worked 69 = .ok (.getfield 185, 3) := by decide +kernel
theorem dX11_worked_72 : decode cX11_worked 72 = .ok (.iload_n 2, 1) := by decide +kernel
theorem dX11_worked_73 : decode cX11_worked 73 = .ok (.iconst 1, 1) := by decide +kernel
theorem dX11_worked_74 : decode cX11_worked 74 = .ok (.isub, 1) := by decide +kernel
theorem dX11_worked_75 : decode cX11_worked 75 = .ok (.iaload, 1) := by decide +kernel
theorem dX11_worked_76 : decode cX11_worked 76 = .ok (.ifCond .ne 7, 3) := by decide +kernel
theorem dX11_worked_79 : decode cX11_worked 79 = .ok (.iconst 1, 1) := by decide +kernel
theorem dX11_worked_80 : decode cX11_worked 80 = .ok (.goto 4, 3) := by decide +kernel
theorem dX11_worked_83 : decode cX11_worked 83 = .ok (.iconst 0, 1) := by decide +kernel
theorem dX11_worked_84 : decode cX11_worked 84 = .ok (.invokestatic 35, 3) := by decide +kernel
theorem dX11_worked_87 : decode cX11_worked 87 = .ok (.iastore, 1) := by decide +kernel
theorem dX11_worked_88 : decode cX11_worked 88 = .ok (.goto 65, 3) := by decide +kernel
theorem dX11_worked_91 : decode cX11_worked 91 = .ok (.iload 4, 2) := by decide +kernel
theorem dX11_worked_93 : decode cX11_worked 93 = .ok (.sipush 2126, 3) := by decide +kernel
theorem dX11_worked_96 : decode cX11_worked 96 = .ok (.if_icmp .ne 23, 3) := by decide +kernel
theorem dX11_worked_99 : decode cX11_worked 99 = .ok (.aload_n 0, 1) := by decide +kernel
theorem dX11_worked_100 : decode cX11_worked 100 = .ok (.getfield 185, 3) := by decide +kernel
theorem dX11_worked_103 : decode cX11_worked 103 = .ok (.iload_n 2, 1) := by decide +kernel
theorem dX11_worked_104 : decode cX11_worked 104 = .ok (.iconst 1, 1) := by decide +kernel
theorem dX11_worked_105 : decode cX11_worked 105 = .ok (.isub, 1) := by decide +kernel
theorem dX11_worked_106 : decode cX11_worked 106 = .ok (.aload_n 0, 1) := by decide +kernel
theorem dX11_worked_107 : decode cX11_worked 107 = .ok (.getfield 185, 3) := by decide +kernel
theorem dX11_worked_110 : decode cX11_worked 110 = .ok (.iload_n 2, 1) := by decide +kernel
theorem dX11_worked_111 : decode cX11_worked 111 = .ok (.iconst 1, 1) := by decide +kernel
theorem dX11_worked_112 : decode cX11_worked 112 = .ok (.isub, 1) := by decide +kernel
theorem dX11_worked_113 : decode cX11_worked 113 = .ok (.iaload, 1) := by decide +kernel
theorem dX11_worked_114 : decode cX11_worked 114 = .ok (.ineg, 1) := by decide +kernel
theorem dX11_worked_115 : decode cX11_worked 115 = .ok (.iastore, 1) := by decide +kernel
theorem dX11_worked_116 : decode cX11_worked 116 = .ok (.goto 37, 3) := by decide +kernel
theorem dX11_worked_119 : decode cX11_worked 119 = .ok (.iinc 2 (-1), 3) := by decide +kernel
theorem dX11_worked_122 : decode cX11_worked 122 = .ok (.aload_n 0, 1) := by decide +kernel
theorem dX11_worked_123 : decode cX11_worked 123 = .ok (.getfield 185, 3) := by decide +kernel
theorem dX11_worked_126 : decode cX11_worked 126 = .ok (.iload_n 2, 1) := by decide +kernel
theorem dX11_worked_127 : decode cX11_worked 127 = .ok (.iconst 1, 1) := by decide +kernel
theorem dX11_worked_128 : decode cX11_worked 128 = .ok (.isub, 1) := by decide +kernel
theorem dX11_worked_129 : decode cX11_worked 129 = .ok (.iload 4, 2) := by decide +kernel
theorem dX11_worked_131 : decode cX11_worked 131 = .ok (.sipush 2000, 3) := by decide +kernel
theorem dX11_worked_134 : decode cX11_worked 134 = .ok (.isub, 1) := by decide +kernel
theorem dX11_worked_135 : decode cX11_worked 135 = .ok (.aload_n 0, 1) := by decide +kernel
theorem dX11_worked_136 : decode cX11_worked 136 = .ok (.getfield 185, 3) := by decide +kernel
theorem dX11_worked_139 : decode cX11_worked 139 = .ok (.iload_n 2, 1) := by decide +kernel
theorem dX11_worked_140 : decode cX11_worked 140 = .ok (.iconst 1, 1) := by decide +kernel
theorem dX11_worked_141 : decode cX11_worked 141 = .ok (.isub, 1) := by decide +kernel
theorem dX11_worked_142 : decode cX11_worked 142 = .ok (.iaload, 1) := by decide +kernel
theorem dX11_worked_143 : decode cX11_worked 143 = .ok (.aload_n 0, 1) := by decide +kernel
theorem dX11_worked_144 : decode cX11_worked 144 = .ok (.getfield 185, 3) := by decide +kernel
theorem dX11_worked_147 : decode cX11_worked 147 = .ok (.iload_n 2, 1) := by decide +kernel
theorem dX11_worked_148 : decode cX11_worked 148 = .ok (.iaload, 1) := by decide +kernel
theorem dX11_worked_149 : decode cX11_worked 149 = .ok (.invokestatic 191, 3) := by decide +kernel
theorem dX11_worked_152 : decode cX11_worked 152 = .ok (.iastore, 1) := by decide +kernel
theorem dX11_worked_153 : decode cX11_worked 153 = .ok (.iinc 3 1, 3) := by decide +kernel
theorem dX11_worked_156 : decode cX11_worked 156 = .ok (.goto (-152), 3) := by decide +kernel
theorem dX11_worked_159 : decode cX11_worked 159 = .ok (.aload_n 0, 1) := by decide +kernel
theorem dX11_worked_160 : decode cX11_worked 160 = .ok (.getfield 185, 3) := by decide +kernel
theorem dX11_worked_163 : decode cX11_worked 163 = .ok (.iconst 0, 1) := by decide +kernel
theorem dX11_worked_164 : decode cX11_worked 164 = .ok (.iaload, 1) := by decide +kernel
theorem dX11_worked_165 : decode cX11_worked 165 = .ok (.ireturn, 1) := by decide +kernel
theorem dX11_breaks_0 : decode cX11_breaks 0 = .ok (.aload_n 0, 1) := by decide +kernel
theorem dX11_breaks_1 : decode cX11_breaks 1 = .ok (.getfield 155, 3) := by decide +kernel
theorem dX11_breaks_4 : decode cX11_breaks 4 = .ok (.ifCond .eq 16, 3) := by decide +kernel
theorem dX11_breaks_7 : decode cX11_breaks 7 = .ok (.aload_n 0, 1) := by decide +kernel
theorem dX11_breaks_8 : decode cX11_breaks 8 = .ok (.bipush 69, 2) := by decide +kernel
theorem dX11_breaks_10 : decode cX11_breaks 10 = .ok (.invokevirtual 195, 3) := by decide +kernel
theorem dX11_breaks_13 : decode cX11_breaks 13 = .ok (.ifCond .ne 7, 3) := by decide +kernel
theorem dX11_breaks_16 : decode cX11_breaks 16 = .ok (.iconst 1, 1) := by decide +kernel
theorem dX11_breaks_17 : decode cX11_breaks 17 = .ok (.goto 4, 3) := by decide +kernel
theorem dX11_breaks_20 : decode cX11_breaks 20 = .ok (.iconst 0, 1) := by decide +kernel
theorem dX11_breaks_21 : decode cX11_breaks 21 = .ok (.ireturn, 1) := by decide +kernel
theorem dX11_rowOfLine_0 : decode cX11_rowOfLine 0 = .ok (.bipush 16, 2) := by decide +kernel
theorem dX11_rowOfLine_2 : decode cX11_rowOfLine 2 = .ok (.iload_n 1, 1) := by decide +kernel
theorem dX11_rowOfLine_3 : decode cX11_rowOfLine 3 = .ok (.imul, 1) := by decide +kernel
theorem dX11_rowOfLine_4 : decode cX11_rowOfLine 4 = .ok (.iload_n 2, 1) := by decide +kernel
theorem dX11_rowOfLine_5 : decode cX11_rowOfLine 5 = .ok (.iadd, 1) := by decide +kernel
theorem dX11_rowOfLine_6 : decode cX11_rowOfLine 6 = .ok (.istore_n 3, 1) := by decide +kernel
theorem dX11_rowOfLine_7 : decode cX11_rowOfLine 7 = .ok (.iconst 0, 1) := by decide +kernel
theorem dX11_rowOfLine_8 : decode cX11_rowOfLine 8 = .ok (.istore 4, 2) := by decide +kernel
theorem dX11_rowOfLine_10 : decode cX11_rowOfLine 10 = .ok (.iload 4, 2) := by decide +kernel
theorem dX11_rowOfLine_12 : decode cX11_rowOfLine 12 = .ok (.aload_n 0, 1) := by decide +kernel
theorem dX11_rowOfLine_13 : decode cX11_rowOfLine 13 = .ok (.getfield 198, 3) := by decide +kernel
theorem dX11_rowOfLine_16 : decode cX11_rowOfLine 16 = .ok (.if_icmp .ge 53, 3) := by decide +kernel
theorem dX11_rowOfLine_19 : decode cX11_rowOfLine 19 = .ok (.aload_n 0, 1) := by decide +kernel
theorem dX11_rowOfLine_20 : decode cX11_rowOfLine 20 = .ok (.getfield 201, 3) := by decide +kernel
theorem dX11_rowOfLine_23 : decode cX11_rowOfLine 23 = .ok (.iload 4, 2) := by decide +kernel
theorem dX11_rowOfLine_25 : decode cX11_rowOfLine 25 = .ok (.invokestatic 204, 3) := by decide +kernel
theorem dX11_rowOfLine_28 : decode cX11_rowOfLine 28 = .ok (.ifCond .eq 33, 3) := by decide +kernel
theorem dX11_rowOfLine_31 : decode cX11_rowOfLine 31 = .ok (.aload_n 0, 1) := by decide +kernel
theorem dX11_rowOfLine_32 : decode cX11_rowOfLine 32 = .ok (.getfield 208, 3) := by decide +kernel
theorem dX11_rowOfLine_35 : decode cX11_rowOfLine 35 = .ok (.iload 4, 2) := by decide +kernel
theorem dX11_rowOfLine_37 : decode cX11_rowOfLine 37 = .ok (.iaload, 1) := by decide +kernel
theorem dX11_rowOfLine_38 : decode cX11_rowOfLine 38 = .ok (.iload_n 1, 1) := by decide +kernel
theorem dX11_rowOfLine_39 : decode cX11_rowOfLine 39 = .ok (.if_icmp .ne 22, 3) := by decide +kernel
theorem dX11_rowOfLine_42 : decode cX11_rowOfLine 42 = .ok (.aload_n 0, 1) := by decide +kernel
theorem dX11_rowOfLine_43 : decode cX11_rowOfLine 43 = .ok (.getfield 211, 3) := by decide +kernel
theorem dX11_rowOfLine_46 : decode cX11_rowOfLine 46 = .ok (.iload 4, 2) := by decide +kernel
theorem dX11_rowOfLine_48 : decode cX11_rowOfLine 48 = .ok (.iaload, 1) := by decide +kernel
theorem dX11_rowOfLine_49 : decode cX11_rowOfLine 49 = .ok (.iload_n 2, 1) := by decide +kernel
theorem dX11_rowOfLine_50 : decode cX11_rowOfLine 50 = .ok (.if_icmp .ne 11, 3) := by decide +kernel
theorem dX11_rowOfLine_53 : decode cX11_rowOfLine 53 = .ok (.bipush 64, 2) := by decide +kernel
theorem dX11_rowOfLine_55 : decode cX11_rowOfLine 55 = .ok (.iload 4, 2) := by decide +kernel
theorem dX11_rowOfLine_57 : decode cX11_rowOfLine 57 = .ok (.iadd, 1) := by decide +kernel
theorem dX11_rowOfLine_58 : decode cX11_rowOfLine 58 = .ok (.goto 4, 3) := by decide +kernel
theorem dX11_rowOfLine_61 : decode cX11_rowOfLine 61 = .ok (.iload_n 3, 1) := by decide +kernel
theorem dX11_rowOfLine_62 : decode cX11_rowOfLine 62 = .ok (.istore_n 3, 1) := by decide +kernel
theorem dX11_rowOfLine_63 : decode cX11_rowOfLine 63 = .ok (.iinc 4 1, 3) := by decide +kernel
theorem dX11_rowOfLine_66 : decode cX11_rowOfLine 66 = .ok (.goto (-56), 3) := by decide +kernel
theorem dX11_rowOfLine_69 : decode cX11_rowOfLine 69 = .ok (.iload_n 3, 1) := by decide +kernel
theorem dX11_rowOfLine_70 : decode cX11_rowOfLine 70 = .ok (.ireturn, 1) := by decide +kernel
theorem dX11_fires_0 : decode cX11_fires 0 = .ok (.aload_n 0, 1) := by decide +kernel
theorem dX11_fires_1 : decode cX11_fires 1 = .ok (.iconst 0, 1) := by decide +kernel
theorem dX11_fires_2 : decode cX11_fires 2 = .ok (.putfield 214, 3) := by decide +kernel
theorem dX11_fires_5 : decode cX11_fires 5 = .ok (.iconst 0, 1) := by decide +kernel
theorem dX11_fires_6 : decode cX11_fires 6 = .ok (.istore_n 1, 1) := by decide +kernel
theorem dX11_fires_7 : decode cX11_fires 7 = .ok (.iload_n 1, 1) := by decide +kernel
theorem dX11_fires_8 : decode cX11_fires 8 = .ok (.aload_n 0, 1) := by decide +kernel
theorem dX11_fires_9 : decode cX11_fires 9 = .ok (.getfield 158, 3) := by decide +kernel
theorem dX11_fires_12 : decode cX11_fires 12 = .ok (.if_icmp .ge 47, 3) := by decide +kernel
theorem dX11_fires_15 : decode cX11_fires 15 = .ok (.aload_n 0, 1) := by decide +kernel
theorem dX11_fires_16 : decode cX11_fires 16 = .ok (.dup, 1) := by decide +kernel
theorem dX11_fires_17 : decode cX11_fires 17 = .ok (.getfield 214, 3) := by decide +kernel
theorem dX11_fires_20 : decode cX11_fires 20 = .ok (.aload_n 0, 1) := by decide +kernel
theorem dX11_fires_21 : decode cX11_fires 21 = .ok (.getfield 161, 3) := by decide +kernel
theorem dX11_fires_24 : decode cX11_fires 24 = .ok (.iload_n 1, 1) := by decide +kernel
theorem dX11_fires_25 : decode cX11_fires 25 = .ok (.invokestatic 204, 3) := by decide +kernel
theorem dX11_fires_28 : decode cX11_fires 28 = .ok (.ifCond .eq 20, 3) := by decide +kernel
theorem dX11_fires_31 : decode cX11_fires 31 = .ok (.aload_n 0, 1) := by decide +kernel
theorem dX11_fires_32 : decode cX11_fires 32 = .ok (.bipush 70, 2) := by decide +kernel
theorem dX11_fires_34 : decode cX11_fires 34 = .ok (.iload_n 1, 1) := by decide +kernel
theorem dX11_fires_35 : decode cX11_fires 35 = .ok (.iadd, 1) := by decide +kernel
theorem dX11_fires_36 : decode cX11_fires 36 = .ok (.invokevirtual 195, 3) := by decide +kernel
theorem dX11_fires_39 : decode cX11_fires 39 = .ok (.ifCond .ne 9, 3) := by decide +kernel
theorem dX11_fires_42 : decode cX11_fires 42 = .ok (.iconst 1, 1) := by decide +kernel
theorem dX11_fires_43 : decode cX11_fires 43 = .ok (.iload_n 1, 1) := by decide +kernel
theorem dX11_fires_44 : decode cX11_fires 44 = .ok (.ishl, 1) := by decide +kernel
theorem dX11_fires_45 : decode cX11_fires 45 = .ok (.goto 4, 3) := by decide +kernel
theorem dX11_fires_48 : decode cX11_fires 48 = .ok (.iconst 0, 1) := by decide +kernel
theorem dX11_fires_49 : decode cX11_fires 49 = .ok (.ior, 1) := by decide +kernel
theorem dX11_fires_50 : decode cX11_fires 50 = .ok (.putfield 214, 3) := by decide +kernel
theorem dX11_fires_53 : decode cX11_fires 53 = .ok (.iinc 1 1, 3) := by decide +kernel
theorem dX11_fires_56 : decode cX11_fires 56 = .ok (.goto (-49), 3) := by decide +kernel
theorem dX11_fires_59 : decode cX11_fires 59 = .ok (.aload_n 0, 1) := by decide +kernel
theorem dX11_fires_60 : decode cX11_fires 60 = .ok (.aload_n 0, 1) := by decide +kernel
theorem dX11_fires_61 : decode cX11_fires 61 = .ok (.getfield 214, 3) := by decide +kernel
theorem dX11_fires_64 : decode cX11_fires 64 = .ok (.ifCond .ne 7, 3) := by decide +kernel
theorem dX11_fires_67 : decode cX11_fires 67 = .ok (.iconst 1, 1) := by decide +kernel
theorem dX11_fires_68 : decode cX11_fires 68 = .ok (.goto 4, 3) := by decide +kernel
theorem dX11_fires_71 : decode cX11_fires 71 = .ok (.iconst 0, 1) := by decide +kernel
theorem dX11_fires_72 : decode cX11_fires 72 = .ok (.invokestatic 35, 3) := by decide +kernel
theorem dX11_fires_75 : decode cX11_fires 75 = .ok (.putfield 173, 3) := by decide +kernel
theorem dX11_fires_78 : decode cX11_fires 78 = .ok (.aload_n 0, 1) := by decide +kernel
theorem dX11_fires_79 : decode cX11_fires 79 = .ok (.aload_n 0, 1) := by decide +kernel
theorem dX11_fires_80 : decode cX11_fires 80 = .ok (.getfield 214, 3) := by decide +kernel
theorem dX11_fires_83 : decode cX11_fires 83 = .ok (.ifCond .eq 7, 3) := by decide +kernel
theorem dX11_fires_86 : decode cX11_fires 86 = .ok (.iconst 1, 1) := by decide +kernel
theorem dX11_fires_87 : decode cX11_fires 87 = .ok (.goto 4, 3) := by decide +kernel
theorem dX11_fires_90 : decode cX11_fires 90 = .ok (.iconst 0, 1) := by decide +kernel
theorem dX11_fires_91 : decode cX11_fires 91 = .ok (.invokestatic 35, 3) := by decide +kernel
theorem dX11_fires_94 : decode cX11_fires 94 = .ok (.putfield 176, 3) := by decide +kernel
theorem dX11_fires_97 : decode cX11_fires 97 = .ok (.return_, 1) := by decide +kernel
theorem dX11_moves_0 : decode cX11_moves 0 = .ok (.aload_n 0, 1) := by decide +kernel
theorem dX11_moves_1 : decode cX11_moves 1 = .ok (.getfield 167, 3) := by decide +kernel
theorem dX11_moves_4 : decode cX11_moves 4 = .ok (.iload_n 1, 1) := by decide +kernel
theorem dX11_moves_5 : decode cX11_moves 5 = .ok (.iaload, 1) := by decide +kernel
theorem dX11_moves_6 : decode cX11_moves 6 = .ok (.ifCond .le 4, 3) := by decide +kernel
theorem dX11_moves_9 : decode cX11_moves 9 = .ok (.return_, 1) := by decide +kernel
theorem dX11_moves_10 : decode cX11_moves 10 = .ok (.aload_n 0, 1) := by decide +kernel
theorem dX11_moves_11 : decode cX11_moves 11 = .ok (.getfield 170, 3) := by decide +kernel
theorem dX11_moves_14 : decode cX11_moves 14 = .ok (.iload_n 1, 1) := by decide +kernel
theorem dX11_moves_15 : decode cX11_moves 15 = .ok (.iaload, 1) := by decide +kernel
theorem dX11_moves_16 : decode cX11_moves 16 = .ok (.iload_n 2, 1) := by decide +kernel
theorem dX11_moves_17 : decode cX11_moves 17 = .ok (.if_icmp .ne 7, 3) := by decide +kernel
theorem dX11_moves_20 : decode cX11_moves 20 = .ok (.iconst 1, 1) := by decide +kernel
theorem dX11_moves_21 : decode cX11_moves 21 = .ok (.goto 4, 3) := by decide +kernel
theorem dX11_moves_24 : decode cX11_moves 24 = .ok (.iconst 0, 1) := by decide +kernel
theorem dX11_moves_25 : decode cX11_moves 25 = .ok (.istore_n 3, 1) := by decide +kernel
theorem dX11_moves_26 : decode cX11_moves 26 = .ok (.aload_n 0, 1) := by decide +kernel
theorem dX11_moves_27 : decode cX11_moves 27 = .ok (.getfield 170, 3) := by decide +kernel
theorem dX11_moves_30 : decode cX11_moves 30 = .ok (.iload_n 1, 1) := by decide +kernel
theorem dX11_moves_31 : decode cX11_moves 31 = .ok (.iload_n 2, 1) := by decide +kernel
theorem dX11_moves_32 : decode cX11_moves 32 = .ok (.iastore, 1) := by decide +kernel
theorem dX11_moves_33 : decode cX11_moves 33 = .ok (.aload_n 0, 1) := by decide +kernel
theorem dX11_moves_34 : decode cX11_moves 34 = .ok (.getfield 167, 3) := by decide +kernel
theorem dX11_moves_37 : decode cX11_moves 37 = .ok (.iload_n 1, 1) := by decide +kernel
theorem dX11_moves_38 : decode cX11_moves 38 = .ok (.iload_n 3, 1) := by decide +kernel
theorem dX11_moves_39 : decode cX11_moves 39 = .ok (.ifCond .eq 7, 3) := by decide +kernel
theorem dX11_moves_42 : decode cX11_moves 42 = .ok (.iconst 0, 1) := by decide +kernel
theorem dX11_moves_43 : decode cX11_moves 43 = .ok (.goto 9, 3) := by decide +kernel
theorem dX11_moves_46 : decode cX11_moves 46 = .ok (.aload_n 0, 1) := by decide +kernel
theorem dX11_moves_47 : decode cX11_moves 47 = .ok (.getfield 217, 3) := by decide +kernel
theorem dX11_moves_50 : decode cX11_moves 50 = .ok (.iload_n 1, 1) := by decide +kernel
theorem dX11_moves_51 : decode cX11_moves 51 = .ok (.iaload, 1) := by decide +kernel
theorem dX11_moves_52 : decode cX11_moves 52 = .ok (.iastore, 1) := by decide +kernel
theorem dX11_moves_53 : decode cX11_moves 53 = .ok (.return_, 1) := by decide +kernel
theorem dX11_does_0 : decode cX11_does 0 = .ok (.iconst 0, 1) := by decide +kernel
theorem dX11_does_1 : decode cX11_does 1 = .ok (.istore_n 3, 1) := by decide +kernel
theorem dX11_does_2 : decode cX11_does 2 = .ok (.iconst 0, 1) := by decide +kernel
theorem dX11_does_3 : decode cX11_does 3 = .ok (.istore 4, 2) := by decide +kernel
theorem dX11_does_5 : decode cX11_does 5 = .ok (.iload 4, 2) := by decide +kernel
theorem dX11_does_7 : decode cX11_does 7 = .ok (.iconst 4, 1) := by decide +kernel
theorem dX11_does_8 : decode cX11_does 8 = .ok (.if_icmp .ge 30, 3) := by decide +kernel
theorem dX11_does_11 : decode cX11_does 11 = .ok (.iload_n 3, 1) := by decide +kernel
theorem dX11_does_12 : decode cX11_does 12 = .ok (.aload_n 0, 1) := by decide +kernel
theorem dX11_does_13 : decode cX11_does 13 = .ok (.getfield 167, 3) := by decide +kernel
theorem dX11_does_16 : decode cX11_does 16 = .ok (.iload 4, 2) := by decide +kernel
theorem dX11_does_18 : decode cX11_does 18 = .ok (.iaload, 1) := by decide +kernel
theorem dX11_does_19 : decode cX11_does 19 = .ok (.ifCond .le 10, 3) := by decide +kernel
theorem dX11_does_22 : decode cX11_does 22 = .ok (.iconst 1, 1) := by decide +kernel
theorem dX11_does_23 : decode cX11_does 23 = .ok (.iload 4, 2) := by decide +kernel
theorem dX11_does_25 : decode cX11_does 25 = .ok (.ishl, 1) := by decide +kernel
theorem dX11_does_26 : decode cX11_does 26 = .ok (.goto 4, 3) := by decide +kernel
theorem dX11_does_29 : decode cX11_does 29 = .ok (.iconst 0, 1) := by decide +kernel
theorem dX11_does_30 : decode cX11_does 30 = .ok (.ior, 1) := by decide +kernel
theorem dX11_does_31 : decode cX11_does 31 = .ok (.istore_n 3, 1) := by decide +kernel
theorem dX11_does_32 : decode cX11_does 32 = .ok (.iinc 4 1, 3) := by decide +kernel
theorem dX11_does_35 : decode cX11_does 35 = .ok (.goto (-30), 3) := by decide +kernel
theorem dX11_does_38 : decode cX11_does 38 = .ok (.aload_n 0, 1) := by decide +kernel
theorem dX11_does_39 : decode cX11_does 39 = .ok (.iconst 0, 1) := by decide +kernel
theorem dX11_does_40 : decode cX11_does 40 = .ok (.putfield 173, 3) := by decide +kernel
theorem dX11_does_43 : decode cX11_does 43 = .ok (.aload_n 0, 1) := by decide +kernel
theorem dX11_does_44 : decode cX11_does 44 = .ok (.iconst 0, 1) := by decide +kernel
theorem dX11_does_45 : decode cX11_does 45 = .ok (.putfield 176, 3) := by decide +kernel
theorem dX11_does_48 : decode cX11_does 48 = .ok (.aload_n 0, 1) := by decide +kernel
theorem dX11_does_49 : decode cX11_does 49 = .ok (.iconst 0, 1) := by decide +kernel
theorem dX11_does_50 : decode cX11_does 50 = .ok (.putfield 179, 3) := by decide +kernel
theorem dX11_does_53 : decode cX11_does 53 = .ok (.aload_n 0, 1) := by decide +kernel
theorem dX11_does_54 : decode cX11_does 54 = .ok (.iload_n 1, 1) := by decide +kernel
theorem dX11_does_55 : decode cX11_does 55 = .ok (.putfield 182, 3) := by decide +kernel
theorem dX11_does_58 : decode cX11_does 58 = .ok (.aload_n 0, 1) := by decide +kernel
theorem dX11_does_59 : decode cX11_does 59 = .ok (.iconst 0, 1) := by decide +kernel
theorem dX11_does_60 : decode cX11_does 60 = .ok (.putfield 214, 3) := by decide +kernel
theorem dX11_does_63 : decode cX11_does 63 = .ok (.iload_n 2, 1) := by decide +kernel
theorem dX11_does_64 : decode cX11_does 64 = .ok (.ifCond .le 11, 3) := by decide +kernel
theorem dX11_does_67 : decode cX11_does 67 = .ok (.aload_n 0, 1) := by decide +kernel
theorem dX11_does_68 : decode cX11_does 68 = .ok (.getfield 164, 3) := by decide +kernel
theorem dX11_does_71 : decode cX11_does 71 = .ok (.bipush 7, 2) := by decide +kernel
theorem dX11_does_73 : decode cX11_does 73 = .ok (.iload_n 2, 1) := by decide +kernel
theorem dX11_does_74 : decode cX11_does 74 = .ok (.iastore, 1) := by decide +kernel
theorem dX11_does_75 : decode cX11_does 75 = .ok (.aload_n 0, 1) := by decide +kernel
theorem dX11_does_76 : decode cX11_does 76 = .ok (.getfield 145, 3) := by decide +kernel
theorem dX11_does_79 : decode cX11_does 79 = .ok (.iload_n 1, 1) := by decide +kernel
theorem dX11_does_80 : decode cX11_does 80 = .ok (.iaload, 1) := by decide +kernel
theorem dX11_does_81 : decode cX11_does 81 = .ok (.istore 4, 2) := by decide +kernel
theorem dX11_does_83 : decode cX11_does 83 = .ok (.aload_n 0, 1) := by decide +kernel
theorem dX11_does_84 : decode cX11_does 84 = .ok (.iload_n 1, 1) := by decide +kernel
theorem dX11_does_85 : decode cX11_does 85 = .ok (.iload 4, 2) := by decide +kernel
theorem dX11_does_87 : decode cX11_does 87 = .ok (.invokevirtual 220, 3) := by decide +kernel
theorem dX11_does_90 : decode cX11_does 90 = .ok (.istore 5, 2) := by decide +kernel
theorem dX11_does_92 : decode cX11_does 92 = .ok (.iload 4, 2) := by decide +kernel
theorem dX11_does_94 : decode cX11_does 94 = .ok (.iconst 1, 1) := by decide +kernel
theorem dX11_does_95 : decode cX11_does 95 = .ok (.iadd, 1) := by decide +kernel
theorem dX11_does_96 : decode cX11_does 96 = .ok (.aload_n 0, 1) := by decide +kernel
theorem dX11_does_97 : decode cX11_does 97 = .ok (.getfield 142, 3) := by decide +kernel
theorem dX11_does_100 : decode cX11_does 100 = .ok (.iload_n 1, 1) := by decide +kernel
theorem dX11_does_101 : decode cX11_does 101 = .ok (.iaload, 1) := by decide +kernel
theorem dX11_does_102 : decode cX11_does 102 = .ok (.if_icmp .ge 10, 3) := by decide +kernel
theorem dX11_does_105 : decode cX11_does 105 = .ok (.iload 4, 2) := by decide +kernel
theorem dX11_does_107 : decode cX11_does 107 = .ok (.iconst 1, 1) := by decide +kernel
theorem dX11_does_108 : decode cX11_does 108 = .ok (.iadd, 1) := by decide +kernel
theorem dX11_does_109 : decode cX11_does 109 = .ok (.goto 4, 3) := by decide +kernel
theorem dX11_does_112 : decode cX11_does 112 = .ok (.iconst 0, 1) := by decide +kernel
theorem dX11_does_113 : decode cX11_does 113 = .ok (.istore 6, 2) := by decide +kernel
theorem dX11_does_115 : decode cX11_does 115 = .ok (.aload_n 0, 1) := by decide +kernel
theorem dX11_does_116 : decode cX11_does 116 = .ok (.getfield 107, 3) := by decide +kernel
theorem dX11_does_119 : decode cX11_does 119 = .ok (.iload 5, 2) := by decide +kernel
theorem dX11_does_121 : decode cX11_does 121 = .ok (.iaload, 1) := by decide +kernel
theorem dX11_does_122 : decode cX11_does 122 = .ok (.lookupswitch 180 #[(61, 50), (63, 75), (106, 118), (109, 96), (115, 164)], 50) := by decide +kernel
theorem dX11_does_172 : decode cX11_does 172 = .ok (.aload_n 0, 1) := by decide +kernel
theorem dX11_does_173 : decode cX11_does 173 = .ok (.getfield 164, 3) := by decide +kernel
theorem dX11_does_176 : decode cX11_does 176 = .ok (.aload_n 0, 1) := by decide +kernel
theorem dX11_does_177 : decode cX11_does 177 = .ok (.getfield 104, 3) := by decide +kernel
theorem dX11_does_180 : decode cX11_does 180 = .ok (.iload 5, 2) := by decide +kernel
theorem dX11_does_182 : decode cX11_does 182 = .ok (.iaload, 1) := by decide +kernel
theorem dX11_does_183 : decode cX11_does 183 = .ok (.aload_n 0, 1) := by decide +kernel
theorem dX11_does_184 : decode cX11_does 184 = .ok (.iload 5, 2) := by decide +kernel
theorem dX11_does_186 : decode cX11_does 186 = .ok (.invokevirtual 195, 3) := by decide +kernel
theorem dX11_does_189 : decode cX11_does 189 = .ok (.sipush 255, 3) := by decide +kernel
theorem dX11_does_192 : decode cX11_does 192 = .ok (.iand, 1) := by decide +kernel
theorem dX11_does_193 : decode cX11_does 193 = .ok (.iastore, 1) := by decide +kernel
theorem dX11_does_194 : decode cX11_does 194 = .ok (.goto 112, 3) := by decide +kernel
theorem dX11_does_197 : decode cX11_does 197 = .ok (.aload_n 0, 1) := by decide +kernel
theorem dX11_does_198 : decode cX11_does 198 = .ok (.iload 5, 2) := by decide +kernel
theorem dX11_does_200 : decode cX11_does 200 = .ok (.invokevirtual 195, 3) := by decide +kernel
theorem dX11_does_203 : decode cX11_does 203 = .ok (.ifCond .eq 8, 3) := by decide +kernel
theorem dX11_does_206 : decode cX11_does 206 = .ok (.iload 6, 2) := by decide +kernel
theorem dX11_does_208 : decode cX11_does 208 = .ok (.goto 5, 3) := by decide +kernel
theorem dX11_does_211 : decode cX11_does 211 = .ok (.iload 4, 2) := by decide +kernel
theorem dX11_does_213 : decode cX11_does 213 = .ok (.istore 6, 2) := by decide +kernel
theorem dX11_does_215 : decode cX11_does 215 = .ok (.goto 91, 3) := by decide +kernel
theorem dX11_does_218 : decode cX11_does 218 = .ok (.aload_n 0, 1) := by decide +kernel
theorem dX11_does_219 : decode cX11_does 219 = .ok (.aload_n 0, 1) := by decide +kernel
theorem dX11_does_220 : decode cX11_does 220 = .ok (.getfield 104, 3) := by decide +kernel
theorem dX11_does_223 : decode cX11_does 223 = .ok (.iload 5, 2) := by decide +kernel
theorem dX11_does_225 : decode cX11_does 225 = .ok (.iaload, 1) := by decide +kernel
theorem dX11_does_226 : decode cX11_does 226 = .ok (.aload_n 0, 1) := by decide +kernel
theorem dX11_does_227 : decode cX11_does 227 = .ok (.iload 5, 2) := by decide +kernel
theorem dX11_does_229 : decode cX11_does 229 = .ok (.invokevirtual 195, 3) := by decide +kernel
theorem dX11_does_232 : decode cX11_does 232 = .ok (.iconst 3, 1) := by decide +kernel
theorem dX11_does_233 : decode cX11_does 233 = .ok (.iand, 1) := by decide +kernel
theorem dX11_does_234 : decode cX11_does 234 = .ok (.invokevirtual 223, 3) := by decide +kernel
theorem dX11_does_237 : decode cX11_does 237 = .ok (.goto 69, 3) := by decide +kernel
theorem dX11_does_240 : decode cX11_does 240 = .ok (.aload_n 0, 1) := by decide +kernel
theorem dX11_does_241 : decode cX11_does 241 = .ok (.iload 5, 2) := by decide +kernel
theorem dX11_does_243 : decode cX11_does 243 = .ok (.invokevirtual 195, 3) := by decide +kernel
theorem dX11_does_246 : decode cX11_does 246 = .ok (.ifCond .ne 8, 3) := by decide +kernel
theorem dX11_does_249 : decode cX11_does 249 = .ok (.iload 6, 2) := by decide +kernel
theorem dX11_does_251 : decode cX11_does 251 = .ok (.goto 30, 3) := by decide +kernel
theorem dX11_does_254 : decode cX11_does 254 = .ok (.aload_n 0, 1) := by decide +kernel
theorem dX11_does_255 : decode cX11_does 255 = .ok (.getfield 104, 3) := by decide +kernel
theorem dX11_does_258 : decode cX11_does 258 = .ok (.iload 5, 2) := by decide +kernel
theorem dX11_does_260 : decode cX11_does 260 = .ok (.iaload, 1) := by decide +kernel
theorem dX11_does_261 : decode cX11_does 261 = .ok (.aload_n 0, 1) := by decide +kernel
theorem dX11_does_262 : decode cX11_does 262 = .ok (.getfield 142, 3) := by decide +kernel
theorem dX11_does_265 : decode cX11_does 265 = .ok (.iload_n 1, 1) := by decide +kernel
theorem dX11_does_266 : decode cX11_does 266 = .ok (.iaload, 1) := by decide +kernel
theorem dX11_does_267 : decode cX11_does 267 = .ok (.if_icmp .ge 13, 3) := by decide +kernel
theorem dX11_does_270 : decode cX11_does 270 = .ok (.aload_n 0, 1) := by decide +kernel
theorem dX11_does_271 : decode cX11_does 271 = .ok (.getfield 104, 3) := by decide +kernel
theorem dX11_does_274 : decode cX11_does 274 = .ok (.iload 5, 2) := by decide +kernel
theorem dX11_does_276 : decode cX11_does 276 = .ok (.iaload, 1) := by decide +kernel
theorem dX11_does_277 : decode cX11_does 277 = .ok (.goto 4, 3) := by decide +kernel
theorem dX11_does_280 : decode cX11_does 280 = .ok (.iconst 0, 1) := by decide +kernel
theorem dX11_does_281 : decode cX11_does 281 = .ok (.istore 6, 2) := by decide +kernel
theorem dX11_does_283 : decode cX11_does 283 = .ok (.goto 23, 3) := by decide +kernel
theorem dX11_does_286 : decode cX11_does 286 = .ok (.aload_n 0, 1) := by decide +kernel
theorem dX11_does_287 : decode cX11_does 287 = .ok (.aload_n 0, 1) := by decide +kernel
theorem dX11_does_288 : decode cX11_does 288 = .ok (.getfield 104, 3) := by decide +kernel
theorem dX11_does_291 : decode cX11_does 291 = .ok (.iload 5, 2) := by decide +kernel
theorem dX11_does_293 : decode cX11_does 293 = .ok (.iaload, 1) := by decide +kernel
theorem dX11_does_294 : decode cX11_does 294 = .ok (.iconst 1, 1) := by decide +kernel
theorem dX11_does_295 : decode cX11_does 295 = .ok (.iadd, 1) := by decide +kernel
theorem dX11_does_296 : decode cX11_does 296 = .ok (.putfield 179, 3) := by decide +kernel
theorem dX11_does_299 : decode cX11_does 299 = .ok (.goto 7, 3) := by decide +kernel
theorem dX11_does_302 : decode cX11_does 302 = .ok (.aload_n 0, 1) := by decide +kernel
theorem dX11_does_303 : decode cX11_does 303 = .ok (.invokevirtual 226, 3) := by decide +kernel
theorem dX11_does_306 : decode cX11_does 306 = .ok (.aload_n 0, 1) := by decide +kernel
theorem dX11_does_307 : decode cX11_does 307 = .ok (.getfield 145, 3) := by decide +kernel
theorem dX11_does_310 : decode cX11_does 310 = .ok (.iload_n 1, 1) := by decide +kernel
theorem dX11_does_311 : decode cX11_does 311 = .ok (.iload 6, 2) := by decide +kernel
theorem dX11_does_313 : decode cX11_does 313 = .ok (.iastore, 1) := by decide +kernel
theorem dX11_does_314 : decode cX11_does 314 = .ok (.iconst 0, 1) := by decide +kernel
theorem dX11_does_315 : decode cX11_does 315 = .ok (.istore 7, 2) := by decide +kernel
theorem dX11_does_317 : decode cX11_does 317 = .ok (.iload 7, 2) := by decide +kernel
theorem dX11_does_319 : decode cX11_does 319 = .ok (.iconst 4, 1) := by decide +kernel
theorem dX11_does_320 : decode cX11_does 320 = .ok (.if_icmp .ge 33, 3) := by decide +kernel
theorem dX11_does_323 : decode cX11_does 323 = .ok (.aload_n 0, 1) := by decide +kernel
theorem dX11_does_324 : decode cX11_does 324 = .ok (.getfield 167, 3) := by decide +kernel
theorem dX11_does_327 : decode cX11_does 327 = .ok (.iload 7, 2) := by decide +kernel
theorem dX11_does_329 : decode cX11_does 329 = .ok (.dup2, 1) := by decide +kernel
theorem dX11_does_330 : decode cX11_does 330 = .ok (.iaload, 1) := by decide +kernel
theorem dX11_does_331 : decode cX11_does 331 = .ok (.iload_n 3, 1) := by decide +kernel
theorem dX11_does_332 : decode cX11_does 332 = .ok (.iload 7, 2) := by decide +kernel
theorem dX11_does_334 : decode cX11_does 334 = .ok (.invokestatic 204, 3) := by decide +kernel
theorem dX11_does_337 : decode cX11_does 337 = .ok (.ifCond .eq 7, 3) := by decide +kernel
theorem dX11_does_340 : decode cX11_does 340 = .ok (.iconst 1, 1) := by decide +kernel
theorem dX11_does_341 : decode cX11_does 341 = .ok (.goto 4, 3) := by decide +kernel
theorem dX11_does_344 : decode cX11_does 344 = .ok (.iconst 0, 1) := by decide +kernel
theorem dX11_does_345 : decode cX11_does 345 = .ok (.isub, 1) := by decide +kernel
theorem dX11_does_346 : decode cX11_does 346 = .ok (.iastore, 1) := by decide +kernel
theorem dX11_does_347 : decode cX11_does 347 = .ok (.iinc 7 1, 3) := by decide +kernel
theorem dX11_does_350 : decode cX11_does 350 = .ok (.goto (-33), 3) := by decide +kernel
theorem dX11_does_353 : decode cX11_does 353 = .ok (.return_, 1) := by decide +kernel
theorem dX11_slot_0 : decode cX11_slot 0 = .ok (.aload_n 0, 1) := by decide +kernel
theorem dX11_slot_1 : decode cX11_slot 1 = .ok (.iconst 0, 1) := by decide +kernel
theorem dX11_slot_2 : decode cX11_slot 2 = .ok (.putfield 3, 3) := by decide +kernel
theorem dX11_slot_5 : decode cX11_slot 5 = .ok (.iload_n 1, 1) := by decide +kernel
theorem dX11_slot_6 : decode cX11_slot 6 = .ok (.i2l, 1) := by decide +kernel
theorem dX11_slot_7 : decode cX11_slot 7 = .ok (.lconst 0, 1) := by decide +kernel
theorem dX11_slot_8 : decode cX11_slot 8 = .ok (.ldc2_w 229, 3) := by decide +kernel
theorem dX11_slot_11 : decode cX11_slot 11 = .ok (.invokestatic 21, 3) := by decide +kernel
theorem dX11_slot_14 : decode cX11_slot 14 = .ok (.ifCond .eq 15, 3) := by decide +kernel
theorem dX11_slot_17 : decode cX11_slot 17 = .ok (.iload_n 2, 1) := by decide +kernel
theorem dX11_slot_18 : decode cX11_slot 18 = .ok (.i2l, 1) := by decide +kernel
theorem dX11_slot_19 : decode cX11_slot 19 = .ok (.lconst 0, 1) := by decide +kernel
theorem dX11_slot_20 : decode cX11_slot 20 = .ok (.ldc2_w 231, 3) := by decide +kernel
theorem dX11_slot_23 : decode cX11_slot 23 = .ok (.invokestatic 21, 3) := by decide +kernel
theorem dX11_slot_26 : decode cX11_slot 26 = .ok (.ifCond .ne 5, 3) := by decide +kernel
theorem dX11_slot_29 : decode cX11_slot 29 = .ok (.iconst (-1), 1) := by decide +kernel
theorem dX11_slot_30 : decode cX11_slot 30 = .ok (.ireturn, 1) := by decide +kernel
theorem dX11_slot_31 : decode cX11_slot 31 = .ok (.aload_n 0, 1) := by decide +kernel
theorem dX11_slot_32 : decode cX11_slot 32 = .ok (.getfield 164, 3) := by decide +kernel
theorem dX11_slot_35 : decode cX11_slot 35 = .ok (.iload_n 1, 1) := by decide +kernel
theorem dX11_slot_36 : decode cX11_slot 36 = .ok (.iaload, 1) := by decide +kernel
theorem dX11_slot_37 : decode cX11_slot 37 = .ok (.istore_n 3, 1) := by decide +kernel
theorem dX11_slot_38 : decode cX11_slot 38 = .ok (.aload_n 0, 1) := by decide +kernel
theorem dX11_slot_39 : decode cX11_slot 39 = .ok (.getfield 164, 3) := by decide +kernel
theorem dX11_slot_42 : decode cX11_slot 42 = .ok (.iload_n 1, 1) := by decide +kernel
theorem dX11_slot_43 : decode cX11_slot 43 = .ok (.iload_n 2, 1) := by decide +kernel
theorem dX11_slot_44 : decode cX11_slot 44 = .ok (.iastore, 1) := by decide +kernel
theorem dX11_slot_45 : decode cX11_slot 45 = .ok (.iload_n 3, 1) := by decide +kernel
theorem dX11_slot_46 : decode cX11_slot 46 = .ok (.ireturn, 1) := by decide +kernel
theorem dX11_speed_0 : decode cX11_speed 0 = .ok (.aload_n 0, 1) := by decide +kernel
theorem dX11_speed_1 : decode cX11_speed 1 = .ok (.iconst 0, 1) := by decide +kernel
theorem dX11_speed_2 : decode cX11_speed 2 = .ok (.putfield 3, 3) := by decide +kernel
theorem dX11_speed_5 : decode cX11_speed 5 = .ok (.iload_n 1, 1) := by decide +kernel
theorem dX11_speed_6 : decode cX11_speed 6 = .ok (.i2l, 1) := by decide +kernel
theorem dX11_speed_7 : decode cX11_speed 7 = .ok (.lconst 0, 1) := by decide +kernel
theorem dX11_speed_8 : decode cX11_speed 8 = .ok (.ldc2_w 233, 3) := by decide +kernel
theorem dX11_speed_11 : decode cX11_speed 11 = .ok (.invokestatic 21, 3) := by decide +kernel
theorem dX11_speed_14 : decode cX11_speed 14 = .ok (.ifCond .eq 15, 3) := by decide +kernel
theorem dX11_speed_17 : decode cX11_speed 17 = .ok (.iload_n 2, 1) := by decide +kernel
theorem dX11_speed_18 : decode cX11_speed 18 = .ok (.i2l, 1) := by decide +kernel
theorem dX11_speed_19 : decode cX11_speed 19 = .ok (.lconst 0, 1) := by decide +kernel
theorem dX11_speed_20 : decode cX11_speed 20 = .ok (.ldc2_w 235, 3) := by decide +kernel
theorem dX11_speed_23 : decode cX11_speed 23 = .ok (.invokestatic 21, 3) := by decide +kernel
theorem dX11_speed_26 : decode cX11_speed 26 = .ok (.ifCond .ne 5, 3) := by decide +kernel
theorem dX11_speed_29 : decode cX11_speed 29 = .ok (.iconst (-1), 1) := by decide +kernel
theorem dX11_speed_30 : decode cX11_speed 30 = .ok (.ireturn, 1) := by decide +kernel
theorem dX11_speed_31 : decode cX11_speed 31 = .ok (.aload_n 0, 1) := by decide +kernel
theorem dX11_speed_32 : decode cX11_speed 32 = .ok (.getfield 217, 3) := by decide +kernel
theorem dX11_speed_35 : decode cX11_speed 35 = .ok (.iload_n 1, 1) := by decide +kernel
theorem dX11_speed_36 : decode cX11_speed 36 = .ok (.iaload, 1) := by decide +kernel
theorem dX11_speed_37 : decode cX11_speed 37 = .ok (.istore_n 3, 1) := by decide +kernel
theorem dX11_speed_38 : decode cX11_speed 38 = .ok (.aload_n 0, 1) := by decide +kernel
theorem dX11_speed_39 : decode cX11_speed 39 = .ok (.getfield 217, 3) := by decide +kernel
theorem dX11_speed_42 : decode cX11_speed 42 = .ok (.iload_n 1, 1) := by decide +kernel
theorem dX11_speed_43 : decode cX11_speed 43 = .ok (.iload_n 2, 1) := by decide +kernel
theorem dX11_speed_44 : decode cX11_speed 44 = .ok (.iastore, 1) := by decide +kernel
theorem dX11_speed_45 : decode cX11_speed 45 = .ok (.iload_n 3, 1) := by decide +kernel
theorem dX11_speed_46 : decode cX11_speed 46 = .ok (.ireturn, 1) := by decide +kernel
theorem dX11_keys_0 : decode cX11_keys 0 = .ok (.aload_n 0, 1) := by decide +kernel
theorem dX11_keys_1 : decode cX11_keys 1 = .ok (.iconst 0, 1) := by decide +kernel
theorem dX11_keys_2 : decode cX11_keys 2 = .ok (.putfield 3, 3) := by decide +kernel
theorem dX11_keys_5 : decode cX11_keys 5 = .ok (.iload_n 1, 1) := by decide +kernel
theorem dX11_keys_6 : decode cX11_keys 6 = .ok (.i2l, 1) := by decide +kernel
theorem dX11_keys_7 : decode cX11_keys 7 = .ok (.lconst 0, 1) := by decide +kernel
theorem dX11_keys_8 : decode cX11_keys 8 = .ok (.ldc2_w 237, 3) := by decide +kernel
theorem dX11_keys_11 : decode cX11_keys 11 = .ok (.invokestatic 21, 3) := by decide +kernel
theorem dX11_keys_14 : decode cX11_keys 14 = .ok (.ifCond .ne 5, 3) := by decide +kernel
theorem dX11_keys_17 : decode cX11_keys 17 = .ok (.iconst (-1), 1) := by decide +kernel
theorem dX11_keys_18 : decode cX11_keys 18 = .ok (.ireturn, 1) := by decide +kernel
theorem dX11_keys_19 : decode cX11_keys 19 = .ok (.aload_n 0, 1) := by decide +kernel
theorem dX11_keys_20 : decode cX11_keys 20 = .ok (.getfield 239, 3) := by decide +kernel
theorem dX11_keys_23 : decode cX11_keys 23 = .ok (.istore_n 2, 1) := by decide +kernel
theorem dX11_keys_24 : decode cX11_keys 24 = .ok (.aload_n 0, 1) := by decide +kernel
theorem dX11_keys_25 : decode cX11_keys 25 = .ok (.iload_n 1, 1) := by decide +kernel
theorem dX11_keys_26 : decode cX11_keys 26 = .ok (.putfield 239, 3) := by decide +kernel
theorem dX11_keys_29 : decode cX11_keys 29 = .ok (.iload_n 2, 1) := by decide +kernel
theorem dX11_keys_30 : decode cX11_keys 30 = .ok (.ireturn, 1) := by decide +kernel
theorem dX11_byHand_0 : decode cX11_byHand 0 = .ok (.aload_n 0, 1) := by decide +kernel
theorem dX11_byHand_1 : decode cX11_byHand 1 = .ok (.iconst 0, 1) := by decide +kernel
theorem dX11_byHand_2 : decode cX11_byHand 2 = .ok (.putfield 201, 3) := by decide +kernel
theorem dX11_byHand_5 : decode cX11_byHand 5 = .ok (.aload_n 0, 1) := by decide +kernel
theorem dX11_byHand_6 : decode cX11_byHand 6 = .ok (.iload_n 1, 1) := by decide +kernel
theorem dX11_byHand_7 : decode cX11_byHand 7 = .ok (.iload_n 2, 1) := by decide +kernel
theorem dX11_byHand_8 : decode cX11_byHand 8 = .ok (.invokevirtual 242, 3) := by decide +kernel
theorem dX11_byHand_11 : decode cX11_byHand 11 = .ok (.aload_n 0, 1) := by decide +kernel
theorem dX11_byHand_12 : decode cX11_byHand 12 = .ok (.dup, 1) := by decide +kernel
theorem dX11_byHand_13 : decode cX11_byHand 13 = .ok (.getfield 245, 3) := by decide +kernel
theorem dX11_byHand_16 : decode cX11_byHand 16 = .ok (.iconst 1, 1) := by decide +kernel
theorem dX11_byHand_17 : decode cX11_byHand 17 = .ok (.iadd, 1) := by decide +kernel
theorem dX11_byHand_18 : decode cX11_byHand 18 = .ok (.putfield 245, 3) := by decide +kernel
theorem dX11_byHand_21 : decode cX11_byHand 21 = .ok (.aload_n 0, 1) := by decide +kernel
theorem dX11_byHand_22 : decode cX11_byHand 22 = .ok (.getfield 173, 3) := by decide +kernel
theorem dX11_byHand_25 : decode cX11_byHand 25 = .ok (.iconst 1, 1) := by decide +kernel
theorem dX11_byHand_26 : decode cX11_byHand 26 = .ok (.if_icmp .ne 7, 3) := by decide +kernel
theorem dX11_byHand_29 : decode cX11_byHand 29 = .ok (.iconst 1, 1) := by decide +kernel
theorem dX11_byHand_30 : decode cX11_byHand 30 = .ok (.goto 32, 3) := by decide +kernel
theorem dX11_byHand_33 : decode cX11_byHand 33 = .ok (.aload_n 0, 1) := by decide +kernel
theorem dX11_byHand_34 : decode cX11_byHand 34 = .ok (.getfield 176, 3) := by decide +kernel
theorem dX11_byHand_37 : decode cX11_byHand 37 = .ok (.iconst 1, 1) := by decide +kernel
theorem dX11_byHand_38 : decode cX11_byHand 38 = .ok (.if_icmp .ne 7, 3) := by decide +kernel
theorem dX11_byHand_41 : decode cX11_byHand 41 = .ok (.iconst 2, 1) := by decide +kernel
theorem dX11_byHand_42 : decode cX11_byHand 42 = .ok (.goto 20, 3) := by decide +kernel
theorem dX11_byHand_45 : decode cX11_byHand 45 = .ok (.aload_n 0, 1) := by decide +kernel
theorem dX11_byHand_46 : decode cX11_byHand 46 = .ok (.getfield 179, 3) := by decide +kernel
theorem dX11_byHand_49 : decode cX11_byHand 49 = .ok (.ifCond .le 12, 3) := by decide +kernel
theorem dX11_byHand_52 : decode cX11_byHand 52 = .ok (.aload_n 0, 1) := by decide +kernel
theorem dX11_byHand_53 : decode cX11_byHand 53 = .ok (.getfield 179, 3) := by decide +kernel
theorem dX11_byHand_56 : decode cX11_byHand 56 = .ok (.iconst 2, 1) := by decide +kernel
theorem dX11_byHand_57 : decode cX11_byHand 57 = .ok (.iadd, 1) := by decide +kernel
theorem dX11_byHand_58 : decode cX11_byHand 58 = .ok (.goto 4, 3) := by decide +kernel
theorem dX11_byHand_61 : decode cX11_byHand 61 = .ok (.iconst 0, 1) := by decide +kernel
theorem dX11_byHand_62 : decode cX11_byHand 62 = .ok (.ireturn, 1) := by decide +kernel
theorem dX11_step_0 : decode cX11_step 0 = .ok (.aload_n 0, 1) := by decide +kernel
theorem dX11_step_1 : decode cX11_step 1 = .ok (.iconst 0, 1) := by decide +kernel
theorem dX11_step_2 : decode cX11_step 2 = .ok (.putfield 3, 3) := by decide +kernel
theorem dX11_step_5 : decode cX11_step 5 = .ok (.iload_n 1, 1) := by decide +kernel
theorem dX11_step_6 : decode cX11_step 6 = .ok (.i2l, 1) := by decide +kernel
theorem dX11_step_7 : decode cX11_step 7 = .ok (.lconst 0, 1) := by decide +kernel
theorem dX11_step_8 : decode cX11_step 8 = .ok (.aload_n 0, 1) := by decide +kernel
theorem dX11_step_9 : decode cX11_step 9 = .ok (.getfield 121, 3) := by decide +kernel
theorem dX11_step_12 : decode cX11_step 12 = .ok (.iconst 1, 1) := by decide +kernel
theorem dX11_step_13 : decode cX11_step 13 = .ok (.isub, 1) := by decide +kernel
theorem dX11_step_14 : decode cX11_step 14 = .ok (.i2l, 1) := by decide +kernel
theorem dX11_step_15 : decode cX11_step 15 = .ok (.invokestatic 21, 3) := by decide +kernel
theorem dX11_step_18 : decode cX11_step 18 = .ok (.ifCond .eq 26, 3) := by decide +kernel
theorem dX11_step_21 : decode cX11_step 21 = .ok (.iload_n 2, 1) := by decide +kernel
theorem dX11_step_22 : decode cX11_step 22 = .ok (.i2l, 1) := by decide +kernel
theorem dX11_step_23 : decode cX11_step 23 = .ok (.lconst 0, 1) := by decide +kernel
theorem dX11_step_24 : decode cX11_step 24 = .ok (.aload_n 0, 1) := by decide +kernel
theorem dX11_step_25 : decode cX11_step 25 = .ok (.getfield 239, 3) := by decide +kernel
theorem dX11_step_28 : decode cX11_step 28 = .ok (.i2l, 1) := by decide +kernel
theorem dX11_step_29 : decode cX11_step 29 = .ok (.invokestatic 21, 3) := by decide +kernel
theorem dX11_step_32 : decode cX11_step 32 = .ok (.ifCond .eq 12, 3) := by decide +kernel
theorem dX11_step_35 : decode cX11_step 35 = .ok (.aload_n 0, 1) := by decide +kernel
theorem dX11_step_36 : decode cX11_step 36 = .ok (.iload_n 1, 1) := by decide +kernel
theorem dX11_step_37 : decode cX11_step 37 = .ok (.iload_n 2, 1) := by decide +kernel
theorem dX11_step_38 : decode cX11_step 38 = .ok (.invokevirtual 248, 3) := by decide +kernel
theorem dX11_step_41 : decode cX11_step 41 = .ok (.goto 4, 3) := by decide +kernel
theorem dX11_step_44 : decode cX11_step 44 = .ok (.iconst (-1), 1) := by decide +kernel
theorem dX11_step_45 : decode cX11_step 45 = .ok (.ireturn, 1) := by decide +kernel
theorem dX11_steps_0 : decode cX11_steps 0 = .ok (.aload_n 0, 1) := by decide +kernel
theorem dX11_steps_1 : decode cX11_steps 1 = .ok (.iconst 0, 1) := by decide +kernel
theorem dX11_steps_2 : decode cX11_steps 2 = .ok (.putfield 3, 3) := by decide +kernel
theorem dX11_steps_5 : decode cX11_steps 5 = .ok (.iload_n 1, 1) := by decide +kernel
theorem dX11_steps_6 : decode cX11_steps 6 = .ok (.i2l, 1) := by decide +kernel
theorem dX11_steps_7 : decode cX11_steps 7 = .ok (.lconst 0, 1) := by decide +kernel
theorem dX11_steps_8 : decode cX11_steps 8 = .ok (.ldc2_w 233, 3) := by decide +kernel
theorem dX11_steps_11 : decode cX11_steps 11 = .ok (.invokestatic 21, 3) := by decide +kernel
theorem dX11_steps_14 : decode cX11_steps 14 = .ok (.ifCond .eq 9, 3) := by decide +kernel
theorem dX11_steps_17 : decode cX11_steps 17 = .ok (.iload_n 2, 1) := by decide +kernel
theorem dX11_steps_18 : decode cX11_steps 18 = .ok (.bipush 20, 2) := by decide +kernel
theorem dX11_steps_20 : decode cX11_steps 20 = .ok (.if_icmp .le 5, 3) := by decide +kernel
theorem dX11_steps_23 : decode cX11_steps 23 = .ok (.iconst (-1), 1) := by decide +kernel
theorem dX11_steps_24 : decode cX11_steps 24 = .ok (.ireturn, 1) := by decide +kernel
theorem dX11_steps_25 : decode cX11_steps 25 = .ok (.iload_n 1, 1) := by decide +kernel
theorem dX11_steps_26 : decode cX11_steps 26 = .ok (.iconst 3, 1) := by decide +kernel
theorem dX11_steps_27 : decode cX11_steps 27 = .ok (.if_icmp .eq 7, 3) := by decide +kernel
theorem dX11_steps_30 : decode cX11_steps 30 = .ok (.iload_n 2, 1) := by decide +kernel
theorem dX11_steps_31 : decode cX11_steps 31 = .ok (.ifCond .ge 16, 3) := by decide +kernel
theorem dX11_steps_34 : decode cX11_steps 34 = .ok (.iload_n 1, 1) := by decide +kernel
theorem dX11_steps_35 : decode cX11_steps 35 = .ok (.iconst 3, 1) := by decide +kernel
theorem dX11_steps_36 : decode cX11_steps 36 = .ok (.if_icmp .ne 8, 3) := by decide +kernel
theorem dX11_steps_39 : decode cX11_steps 39 = .ok (.bipush (-3), 2) := by decide +kernel
theorem dX11_steps_41 : decode cX11_steps 41 = .ok (.goto 5, 3) := by decide +kernel
theorem dX11_steps_44 : decode cX11_steps 44 = .ok (.bipush (-2), 2) := by decide +kernel
theorem dX11_steps_46 : decode cX11_steps 46 = .ok (.ireturn, 1) := by decide +kernel
theorem dX11_steps_47 : decode cX11_steps 47 = .ok (.iload_n 3, 1) := by decide +kernel
theorem dX11_steps_48 : decode cX11_steps 48 = .ok (.istore 5, 2) := by decide +kernel
theorem dX11_steps_50 : decode cX11_steps 50 = .ok (.iconst 0, 1) := by decide +kernel
theorem dX11_steps_51 : decode cX11_steps 51 = .ok (.istore 6, 2) := by decide +kernel
theorem dX11_steps_53 : decode cX11_steps 53 = .ok (.iload 6, 2) := by decide +kernel
theorem dX11_steps_55 : decode cX11_steps 55 = .ok (.iload_n 2, 1) := by decide +kernel
theorem dX11_steps_56 : decode cX11_steps 56 = .ok (.if_icmp .ge 84, 3) := by decide +kernel
theorem dX11_steps_59 : decode cX11_steps 59 = .ok (.iload_n 1, 1) := by decide +kernel
theorem dX11_steps_60 : decode cX11_steps 60 = .ok (.ifCond .ne 9, 3) := by decide +kernel
theorem dX11_steps_63 : decode cX11_steps 63 = .ok (.iload 5, 2) := by decide +kernel
theorem dX11_steps_65 : decode cX11_steps 65 = .ok (.i2b, 1) := by decide +kernel
theorem dX11_steps_66 : decode cX11_steps 66 = .ok (.goto 16, 3) := by decide +kernel
theorem dX11_steps_69 : decode cX11_steps 69 = .ok (.iload_n 1, 1) := by decide +kernel
theorem dX11_steps_70 : decode cX11_steps 70 = .ok (.iconst 1, 1) := by decide +kernel
theorem dX11_steps_71 : decode cX11_steps 71 = .ok (.if_icmp .ne 9, 3) := by decide +kernel
theorem dX11_steps_74 : decode cX11_steps 74 = .ok (.iload 5, 2) := by decide +kernel
theorem dX11_steps_76 : decode cX11_steps 76 = .ok (.i2s, 1) := by decide +kernel
theorem dX11_steps_77 : decode cX11_steps 77 = .ok (.goto 5, 3) := by decide +kernel
theorem dX11_steps_80 : decode cX11_steps 80 = .ok (.iload 5, 2) := by decide +kernel
theorem dX11_steps_82 : decode cX11_steps 82 = .ok (.istore 7, 2) := by decide +kernel
theorem dX11_steps_84 : decode cX11_steps 84 = .ok (.iload 7, 2) := by decide +kernel
theorem dX11_steps_86 : decode cX11_steps 86 = .ok (.i2l, 1) := by decide +kernel
theorem dX11_steps_87 : decode cX11_steps 87 = .ok (.lconst 0, 1) := by decide +kernel
theorem dX11_steps_88 : decode cX11_steps 88 = .ok (.aload_n 0, 1) := by decide +kernel
theorem dX11_steps_89 : decode cX11_steps 89 = .ok (.invokevirtual 251, 3) := by decide +kernel
theorem dX11_steps_92 : decode cX11_steps 92 = .ok (.iconst 1, 1) := by decide +kernel
theorem dX11_steps_93 : decode cX11_steps 93 = .ok (.isub, 1) := by decide +kernel
theorem dX11_steps_94 : decode cX11_steps 94 = .ok (.i2l, 1) := by decide +kernel
theorem dX11_steps_95 : decode cX11_steps 95 = .ok (.invokestatic 21, 3) := by decide +kernel
theorem dX11_steps_98 : decode cX11_steps 98 = .ok (.ifCond .ne 6, 3) := by decide +kernel
theorem dX11_steps_101 : decode cX11_steps 101 = .ok (.iload 6, 2) := by decide +kernel
theorem dX11_steps_103 : decode cX11_steps 103 = .ok (.ireturn, 1) := by decide +kernel
theorem dX11_steps_104 : decode cX11_steps 104 = .ok (.aload_n 0, 1) := by decide +kernel
theorem dX11_steps_105 : decode cX11_steps 105 = .ok (.iload 7, 2) := by decide +kernel
theorem dX11_steps_107 : decode cX11_steps 107 = .ok (.aload_n 0, 1) := by decide +kernel
theorem dX11_steps_108 : decode cX11_steps 108 = .ok (.getfield 239, 3) := by decide +kernel
theorem dX11_steps_111 : decode cX11_steps 111 = .ok (.iconst 1, 1) := by decide +kernel
theorem dX11_steps_112 : decode cX11_steps 112 = .ok (.iadd, 1) := by decide +kernel
theorem dX11_steps_113 : decode cX11_steps 113 = .ok (.idiv, 1) := by decide +kernel
theorem dX11_steps_114 : decode cX11_steps 114 = .ok (.iload 7, 2) := by decide +kernel
theorem dX11_steps_116 : decode cX11_steps 116 = .ok (.aload_n 0, 1) := by decide +kernel
theorem dX11_steps_117 : decode cX11_steps 117 = .ok (.getfield 239, 3) := by decide +kernel
theorem dX11_steps_120 : decode cX11_steps 120 = .ok (.iconst 1, 1) := by decide +kernel
theorem dX11_steps_121 : decode cX11_steps 121 = .ok (.iadd, 1) := by decide +kernel
theorem dX11_steps_122 : decode cX11_steps 122 = .ok (.irem, 1) := by decide +kernel
theorem dX11_steps_123 : decode cX11_steps 123 = .ok (.invokevirtual 248, 3) := by decide +kernel
theorem dX11_steps_126 : decode cX11_steps 126 = .ok (.pop, 1) := by decide +kernel
theorem dX11_steps_127 : decode cX11_steps 127 = .ok (.iload 5, 2) := by decide +kernel
theorem dX11_steps_129 : decode cX11_steps 129 = .ok (.iload 4, 2) := by decide +kernel
theorem dX11_steps_131 : decode cX11_steps 131 = .ok (.iadd, 1) := by decide +kernel
theorem dX11_steps_132 : decode cX11_steps 132 = .ok (.istore 5, 2) := by decide +kernel
theorem dX11_steps_134 : decode cX11_steps 134 = .ok (.iinc 6 1, 3) := by decide +kernel
theorem dX11_steps_137 : decode cX11_steps 137 = .ok (.goto (-84), 3) := by decide +kernel
theorem dX11_steps_140 : decode cX11_steps 140 = .ok (.iload_n 2, 1) := by decide +kernel
theorem dX11_steps_141 : decode cX11_steps 141 = .ok (.ireturn, 1) := by decide +kernel
theorem dX11_at_0 : decode cX11_at 0 = .ok (.aload_n 0, 1) := by decide +kernel
theorem dX11_at_1 : decode cX11_at 1 = .ok (.iconst 0, 1) := by decide +kernel
theorem dX11_at_2 : decode cX11_at 2 = .ok (.putfield 3, 3) := by decide +kernel
theorem dX11_at_5 : decode cX11_at 5 = .ok (.iload_n 1, 1) := by decide +kernel
theorem dX11_at_6 : decode cX11_at 6 = .ok (.i2l, 1) := by decide +kernel
theorem dX11_at_7 : decode cX11_at 7 = .ok (.lconst 0, 1) := by decide +kernel
theorem dX11_at_8 : decode cX11_at 8 = .ok (.ldc2_w 254, 3) := by decide +kernel
theorem dX11_at_11 : decode cX11_at 11 = .ok (.invokestatic 21, 3) := by decide +kernel
theorem dX11_at_14 : decode cX11_at 14 = .ok (.ifCond .ne 8, 3) := by decide +kernel
theorem dX11_at_17 : decode cX11_at 17 = .ok (.aload_n 0, 1) := by decide +kernel
theorem dX11_at_18 : decode cX11_at 18 = .ok (.invokevirtual 256, 3) := by decide +kernel
theorem dX11_at_21 : decode cX11_at 21 = .ok (.ireturn, 1) := by decide +kernel
theorem dX11_at_22 : decode cX11_at 22 = .ok (.iload_n 1, 1) := by decide +kernel
theorem dX11_at_23 : decode cX11_at 23 = .ok (.iconst 4, 1) := by decide +kernel
theorem dX11_at_24 : decode cX11_at 24 = .ok (.irem, 1) := by decide +kernel
theorem dX11_at_25 : decode cX11_at 25 = .ok (.istore_n 2, 1) := by decide +kernel
theorem dX11_at_26 : decode cX11_at 26 = .ok (.iload_n 1, 1) := by decide +kernel
theorem dX11_at_27 : decode cX11_at 27 = .ok (.bipush 8, 2) := by decide +kernel
theorem dX11_at_29 : decode cX11_at 29 = .ok (.if_icmp .ge 10, 3) := by decide +kernel
theorem dX11_at_32 : decode cX11_at 32 = .ok (.aload_n 0, 1) := by decide +kernel
theorem dX11_at_33 : decode cX11_at 33 = .ok (.getfield 164, 3) := by decide +kernel
theorem dX11_at_36 : decode cX11_at 36 = .ok (.iload_n 1, 1) := by decide +kernel
theorem dX11_at_37 : decode cX11_at 37 = .ok (.iaload, 1) := by decide +kernel
theorem dX11_at_38 : decode cX11_at 38 = .ok (.ireturn, 1) := by decide +kernel
theorem dX11_at_39 : decode cX11_at 39 = .ok (.iload_n 1, 1) := by decide +kernel
theorem dX11_at_40 : decode cX11_at 40 = .ok (.bipush 12, 2) := by decide +kernel
theorem dX11_at_42 : decode cX11_at 42 = .ok (.if_icmp .ge 23, 3) := by decide +kernel
theorem dX11_at_45 : decode cX11_at 45 = .ok (.aload_n 0, 1) := by decide +kernel
theorem dX11_at_46 : decode cX11_at 46 = .ok (.getfield 167, 3) := by decide +kernel
theorem dX11_at_49 : decode cX11_at 49 = .ok (.iload_n 2, 1) := by decide +kernel
theorem dX11_at_50 : decode cX11_at 50 = .ok (.iaload, 1) := by decide +kernel
theorem dX11_at_51 : decode cX11_at 51 = .ok (.ifCond .le 7, 3) := by decide +kernel
theorem dX11_at_54 : decode cX11_at 54 = .ok (.iconst 4, 1) := by decide +kernel
theorem dX11_at_55 : decode cX11_at 55 = .ok (.goto 9, 3) := by decide +kernel
theorem dX11_at_58 : decode cX11_at 58 = .ok (.aload_n 0, 1) := by decide +kernel
theorem dX11_at_59 : decode cX11_at 59 = .ok (.getfield 170, 3) := by decide +kernel
theorem dX11_at_62 : decode cX11_at 62 = .ok (.iload_n 2, 1) := by decide +kernel
theorem dX11_at_63 : decode cX11_at 63 = .ok (.iaload, 1) := by decide +kernel
theorem dX11_at_64 : decode cX11_at 64 = .ok (.ireturn, 1) := by decide +kernel
theorem dX11_at_65 : decode cX11_at 65 = .ok (.iload_n 1, 1) := by decide +kernel
theorem dX11_at_66 : decode cX11_at 66 = .ok (.bipush 16, 2) := by decide +kernel
theorem dX11_at_68 : decode cX11_at 68 = .ok (.if_icmp .ge 10, 3) := by decide +kernel
theorem dX11_at_71 : decode cX11_at 71 = .ok (.aload_n 0, 1) := by decide +kernel
theorem dX11_at_72 : decode cX11_at 72 = .ok (.getfield 170, 3) := by decide +kernel
theorem dX11_at_75 : decode cX11_at 75 = .ok (.iload_n 2, 1) := by decide +kernel
theorem dX11_at_76 : decode cX11_at 76 = .ok (.iaload, 1) := by decide +kernel
theorem dX11_at_77 : decode cX11_at 77 = .ok (.ireturn, 1) := by decide +kernel
theorem dX11_at_78 : decode cX11_at 78 = .ok (.iload_n 1, 1) := by decide +kernel
theorem dX11_at_79 : decode cX11_at 79 = .ok (.bipush 20, 2) := by decide +kernel
theorem dX11_at_81 : decode cX11_at 81 = .ok (.if_icmp .ge 12, 3) := by decide +kernel
theorem dX11_at_84 : decode cX11_at 84 = .ok (.aload_n 0, 1) := by decide +kernel
theorem dX11_at_85 : decode cX11_at 85 = .ok (.getfield 167, 3) := by decide +kernel
theorem dX11_at_88 : decode cX11_at 88 = .ok (.iload_n 2, 1) := by decide +kernel
theorem dX11_at_89 : decode cX11_at 89 = .ok (.iaload, 1) := by decide +kernel
theorem dX11_at_90 : decode cX11_at 90 = .ok (.goto 21, 3) := by decide +kernel
theorem dX11_at_93 : decode cX11_at 93 = .ok (.iload_n 2, 1) := by decide +kernel
theorem dX11_at_94 : decode cX11_at 94 = .ok (.aload_n 0, 1) := by decide +kernel
theorem dX11_at_95 : decode cX11_at 95 = .ok (.getfield 121, 3) := by decide +kernel
theorem dX11_at_98 : decode cX11_at 98 = .ok (.if_icmp .ge 12, 3) := by decide +kernel
theorem dX11_at_101 : decode cX11_at 101 = .ok (.aload_n 0, 1) := by decide +kernel
theorem dX11_at_102 : decode cX11_at 102 = .ok (.getfield 145, 3) := by decide +kernel
theorem dX11_at_105 : decode cX11_at 105 = .ok (.iload_n 2, 1) := by decide +kernel
theorem dX11_at_106 : decode cX11_at 106 = .ok (.iaload, 1) := by decide +kernel
theorem dX11_at_107 : decode cX11_at 107 = .ok (.goto 4, 3) := by decide +kernel
theorem dX11_at_110 : decode cX11_at 110 = .ok (.iconst (-1), 1) := by decide +kernel
theorem dX11_at_111 : decode cX11_at 111 = .ok (.ireturn, 1) := by decide +kernel
theorem dX11_reads_0 : decode cX11_reads 0 = .ok (.aload_n 0, 1) := by decide +kernel
theorem dX11_reads_1 : decode cX11_reads 1 = .ok (.iconst 1, 1) := by decide +kernel
theorem dX11_reads_2 : decode cX11_reads 2 = .ok (.invokevirtual 118, 3) := by decide +kernel
theorem dX11_reads_5 : decode cX11_reads 5 = .ok (.istore_n 1, 1) := by decide +kernel
theorem dX11_reads_6 : decode cX11_reads 6 = .ok (.aload_n 0, 1) := by decide +kernel
theorem dX11_reads_7 : decode cX11_reads 7 = .ok (.bipush 74, 2) := by decide +kernel
theorem dX11_reads_9 : decode cX11_reads 9 = .ok (.putfield 46, 3) := by decide +kernel
theorem dX11_reads_12 : decode cX11_reads 12 = .ok (.aload_n 0, 1) := by decide +kernel
theorem dX11_reads_13 : decode cX11_reads 13 = .ok (.getfield 49, 3) := by decide +kernel
theorem dX11_reads_16 : decode cX11_reads 16 = .ok (.aload_n 0, 1) := by decide +kernel
theorem dX11_reads_17 : decode cX11_reads 17 = .ok (.getfield 46, 3) := by decide +kernel
theorem dX11_reads_20 : decode cX11_reads 20 = .ok (.iconst 0, 1) := by decide +kernel
theorem dX11_reads_21 : decode cX11_reads 21 = .ok (.iastore, 1) := by decide +kernel
theorem dX11_reads_22 : decode cX11_reads 22 = .ok (.aload_n 0, 1) := by decide +kernel
theorem dX11_reads_23 : decode cX11_reads 23 = .ok (.iload_n 1, 1) := by decide +kernel
theorem dX11_reads_24 : decode cX11_reads 24 = .ok (.aload_n 0, 1) := by decide +kernel
theorem dX11_reads_25 : decode cX11_reads 25 = .ok (.invokevirtual 83, 3) := by decide +kernel
theorem dX11_reads_28 : decode cX11_reads 28 = .ok (.invokevirtual 128, 3) := by decide +kernel
theorem dX11_reads_31 : decode cX11_reads 31 = .ok (.istore_n 2, 1) := by decide +kernel
theorem dX11_reads_32 : decode cX11_reads 32 = .ok (.iload_n 2, 1) := by decide +kernel
theorem dX11_reads_33 : decode cX11_reads 33 = .ok (.ifCond .ne 11, 3) := by decide +kernel
theorem dX11_reads_36 : decode cX11_reads 36 = .ok (.aload_n 0, 1) := by decide +kernel
theorem dX11_reads_37 : decode cX11_reads 37 = .ok (.bipush 74, 2) := by decide +kernel
theorem dX11_reads_39 : decode cX11_reads 39 = .ok (.bipush 73, 2) := by decide +kernel
theorem dX11_reads_41 : decode cX11_reads 41 = .ok (.invokevirtual 132, 3) := by decide +kernel
theorem dX11_reads_44 : decode cX11_reads 44 = .ok (.iload_n 2, 1) := by decide +kernel
theorem dX11_reads_45 : decode cX11_reads 45 = .ok (.ireturn, 1) := by decide +kernel
theorem dX11_ask_0 : decode cX11_ask 0 = .ok (.aload_n 0, 1) := by decide +kernel
theorem dX11_ask_1 : decode cX11_ask 1 = .ok (.iconst 0, 1) := by decide +kernel
theorem dX11_ask_2 : decode cX11_ask 2 = .ok (.putfield 3, 3) := by decide +kernel
theorem dX11_ask_5 : decode cX11_ask 5 = .ok (.aload_n 0, 1) := by decide +kernel
theorem dX11_ask_6 : decode cX11_ask 6 = .ok (.invokevirtual 259, 3) := by decide +kernel
theorem dX11_ask_9 : decode cX11_ask 9 = .ok (.istore_n 1, 1) := by decide +kernel
theorem dX11_ask_10 : decode cX11_ask 10 = .ok (.iload_n 1, 1) := by decide +kernel
theorem dX11_ask_11 : decode cX11_ask 11 = .ok (.ifCond .ge 5, 3) := by decide +kernel
theorem dX11_ask_14 : decode cX11_ask 14 = .ok (.iload_n 1, 1) := by decide +kernel
theorem dX11_ask_15 : decode cX11_ask 15 = .ok (.ireturn, 1) := by decide +kernel
theorem dX11_ask_16 : decode cX11_ask 16 = .ok (.aload_n 0, 1) := by decide +kernel
theorem dX11_ask_17 : decode cX11_ask 17 = .ok (.iconst 0, 1) := by decide +kernel
theorem dX11_ask_18 : decode cX11_ask 18 = .ok (.putfield 11, 3) := by decide +kernel
theorem dX11_ask_21 : decode cX11_ask 21 = .ok (.aload_n 0, 1) := by decide +kernel
theorem dX11_ask_22 : decode cX11_ask 22 = .ok (.aload_n 0, 1) := by decide +kernel
theorem dX11_ask_23 : decode cX11_ask 23 = .ok (.bipush 73, 2) := by decide +kernel
theorem dX11_ask_25 : decode cX11_ask 25 = .ok (.invokevirtual 195, 3) := by decide +kernel
theorem dX11_ask_28 : decode cX11_ask 28 = .ok (.i2l, 1) := by decide +kernel
theorem dX11_ask_29 : decode cX11_ask 29 = .ok (.invokevirtual 262, 3) := by decide +kernel
theorem dX11_ask_32 : decode cX11_ask 32 = .ok (.iconst 0, 1) := by decide +kernel
theorem dX11_ask_33 : decode cX11_ask 33 = .ok (.ireturn, 1) := by decide +kernel
theorem dX11_width_0 : decode cX11_width 0 = .ok (.aload_n 0, 1) := by decide +kernel
theorem dX11_width_1 : decode cX11_width 1 = .ok (.getfield 121, 3) := by decide +kernel
theorem dX11_width_4 : decode cX11_width 4 = .ok (.aload_n 0, 1) := by decide +kernel
theorem dX11_width_5 : decode cX11_width 5 = .ok (.getfield 239, 3) := by decide +kernel
theorem dX11_width_8 : decode cX11_width 8 = .ok (.iconst 1, 1) := by decide +kernel
theorem dX11_width_9 : decode cX11_width 9 = .ok (.iadd, 1) := by decide +kernel
theorem dX11_width_10 : decode cX11_width 10 = .ok (.imul, 1) := by decide +kernel
theorem dX11_width_11 : decode cX11_width 11 = .ok (.ireturn, 1) := by decide +kernel
theorem dX11_packsSlots_0 : decode cX11_packsSlots 0 = .ok (.lconst 0, 1) := by decide +kernel
theorem dX11_packsSlots_1 : decode cX11_packsSlots 1 = .ok (.lstore_n 1, 1) := by decide +kernel
theorem dX11_packsSlots_2 : decode cX11_packsSlots 2 = .ok (.iconst 0, 1) := by decide +kernel
theorem dX11_packsSlots_3 : decode cX11_packsSlots 3 = .ok (.istore_n 3, 1) := by decide +kernel
theorem dX11_packsSlots_4 : decode cX11_packsSlots 4 = .ok (.iload_n 3, 1) := by decide +kernel
theorem dX11_packsSlots_5 : decode cX11_packsSlots 5 = .ok (.bipush 8, 2) := by decide +kernel
theorem dX11_packsSlots_7 : decode cX11_packsSlots 7 = .ok (.if_icmp .ge 22, 3) := by decide +kernel
theorem dX11_packsSlots_10 : decode cX11_packsSlots 10 = .ok (.lload_n 1, 1) := by decide +kernel
theorem dX11_packsSlots_11 : decode cX11_packsSlots 11 = .ok (.bipush 8, 2) := by decide +kernel
theorem dX11_packsSlots_13 : decode cX11_packsSlots 13 = .ok (.lshl, 1) := by decide +kernel
theorem dX11_packsSlots_14 : decode cX11_packsSlots 14 = .ok (.aload_n 0, 1) := by decide +kernel
theorem dX11_packsSlots_15 : decode cX11_packsSlots 15 = .ok (.getfield 164, 3) := by decide +kernel
theorem dX11_packsSlots_18 : decode cX11_packsSlots 18 = .ok (.iload_n 3, 1) := by decide +kernel
theorem dX11_packsSlots_19 : decode cX11_packsSlots 19 = .ok (.iaload, 1) := by decide +kernel
theorem dX11_packsSlots_20 : decode cX11_packsSlots 20 = .ok (.i2l, 1) := by decide +kernel
theorem dX11_packsSlots_21 : decode cX11_packsSlots 21 = .ok (.lor, 1) := by decide +kernel
theorem dX11_packsSlots_22 : decode cX11_packsSlots 22 = .ok (.lstore_n 1, 1) := by decide +kernel
theorem dX11_packsSlots_23 : decode cX11_packsSlots 23 = .ok (.iinc 3 1, 3) := by decide +kernel
theorem dX11_packsSlots_26 : decode cX11_packsSlots 26 = .ok (.goto (-22), 3) := by decide +kernel
theorem dX11_packsSlots_29 : decode cX11_packsSlots 29 = .ok (.lload_n 1, 1) := by decide +kernel
theorem dX11_packsSlots_30 : decode cX11_packsSlots 30 = .ok (.lreturn, 1) := by decide +kernel
theorem dX11_packsRest_0 : decode cX11_packsRest 0 = .ok (.lconst 0, 1) := by decide +kernel
theorem dX11_packsRest_1 : decode cX11_packsRest 1 = .ok (.lstore_n 1, 1) := by decide +kernel
theorem dX11_packsRest_2 : decode cX11_packsRest 2 = .ok (.iconst 0, 1) := by decide +kernel
theorem dX11_packsRest_3 : decode cX11_packsRest 3 = .ok (.istore_n 3, 1) := by decide +kernel
theorem dX11_packsRest_4 : decode cX11_packsRest 4 = .ok (.iload_n 3, 1) := by decide +kernel
theorem dX11_packsRest_5 : decode cX11_packsRest 5 = .ok (.iconst 4, 1) := by decide +kernel
theorem dX11_packsRest_6 : decode cX11_packsRest 6 = .ok (.if_icmp .ge 32, 3) := by decide +kernel
theorem dX11_packsRest_9 : decode cX11_packsRest 9 = .ok (.lload_n 1, 1) := by decide +kernel
theorem dX11_packsRest_10 : decode cX11_packsRest 10 = .ok (.bipush 6, 2) := by decide +kernel
theorem dX11_packsRest_12 : decode cX11_packsRest 12 = .ok (.lshl, 1) := by decide +kernel
theorem dX11_packsRest_13 : decode cX11_packsRest 13 = .ok (.aload_n 0, 1) := by decide +kernel
theorem dX11_packsRest_14 : decode cX11_packsRest 14 = .ok (.getfield 170, 3) := by decide +kernel
theorem dX11_packsRest_17 : decode cX11_packsRest 17 = .ok (.iload_n 3, 1) := by decide +kernel
theorem dX11_packsRest_18 : decode cX11_packsRest 18 = .ok (.iaload, 1) := by decide +kernel
theorem dX11_packsRest_19 : decode cX11_packsRest 19 = .ok (.iconst 4, 1) := by decide +kernel
theorem dX11_packsRest_20 : decode cX11_packsRest 20 = .ok (.ishl, 1) := by decide +kernel
theorem dX11_packsRest_21 : decode cX11_packsRest 21 = .ok (.i2l, 1) := by decide +kernel
theorem dX11_packsRest_22 : decode cX11_packsRest 22 = .ok (.lor, 1) := by decide +kernel
theorem dX11_packsRest_23 : decode cX11_packsRest 23 = .ok (.aload_n 0, 1) := by decide +kernel
theorem dX11_packsRest_24 : decode cX11_packsRest 24 = .ok (.getfield 167, 3) := by decide +kernel
theorem dX11_packsRest_27 : decode cX11_packsRest 27 = .ok (.iload_n 3, 1) := by decide +kernel
theorem dX11_packsRest_28 : decode cX11_packsRest 28 = .ok (.iaload, 1) := by decide +kernel
theorem dX11_packsRest_29 : decode cX11_packsRest 29 = .ok (.i2l, 1) := by decide +kernel
theorem dX11_packsRest_30 : decode cX11_packsRest 30 = .ok (.lor, 1) := by decide +kernel
theorem dX11_packsRest_31 : decode cX11_packsRest 31 = .ok (.lstore_n 1, 1) := by decide +kernel
theorem dX11_packsRest_32 : decode cX11_packsRest 32 = .ok (.iinc 3 1, 3) := by decide +kernel
theorem dX11_packsRest_35 : decode cX11_packsRest 35 = .ok (.goto (-31), 3) := by decide +kernel
theorem dX11_packsRest_38 : decode cX11_packsRest 38 = .ok (.iconst 0, 1) := by decide +kernel
theorem dX11_packsRest_39 : decode cX11_packsRest 39 = .ok (.istore_n 3, 1) := by decide +kernel
theorem dX11_packsRest_40 : decode cX11_packsRest 40 = .ok (.iload_n 3, 1) := by decide +kernel
theorem dX11_packsRest_41 : decode cX11_packsRest 41 = .ok (.iconst 4, 1) := by decide +kernel
theorem dX11_packsRest_42 : decode cX11_packsRest 42 = .ok (.if_icmp .ge 21, 3) := by decide +kernel
theorem dX11_packsRest_45 : decode cX11_packsRest 45 = .ok (.lload_n 1, 1) := by decide +kernel
theorem dX11_packsRest_46 : decode cX11_packsRest 46 = .ok (.iconst 4, 1) := by decide +kernel
theorem dX11_packsRest_47 : decode cX11_packsRest 47 = .ok (.lshl, 1) := by decide +kernel
theorem dX11_packsRest_48 : decode cX11_packsRest 48 = .ok (.aload_n 0, 1) := by decide +kernel
theorem dX11_packsRest_49 : decode cX11_packsRest 49 = .ok (.getfield 145, 3) := by decide +kernel
theorem dX11_packsRest_52 : decode cX11_packsRest 52 = .ok (.iload_n 3, 1) := by decide +kernel
theorem dX11_packsRest_53 : decode cX11_packsRest 53 = .ok (.iaload, 1) := by decide +kernel
theorem dX11_packsRest_54 : decode cX11_packsRest 54 = .ok (.i2l, 1) := by decide +kernel
theorem dX11_packsRest_55 : decode cX11_packsRest 55 = .ok (.lor, 1) := by decide +kernel
theorem dX11_packsRest_56 : decode cX11_packsRest 56 = .ok (.lstore_n 1, 1) := by decide +kernel
theorem dX11_packsRest_57 : decode cX11_packsRest 57 = .ok (.iinc 3 1, 3) := by decide +kernel
theorem dX11_packsRest_60 : decode cX11_packsRest 60 = .ok (.goto (-20), 3) := by decide +kernel
theorem dX11_packsRest_63 : decode cX11_packsRest 63 = .ok (.lload_n 1, 1) := by decide +kernel
theorem dX11_packsRest_64 : decode cX11_packsRest 64 = .ok (.lreturn, 1) := by decide +kernel
theorem dX11_unpacks_0 : decode cX11_unpacks 0 = .ok (.lload_n 1, 1) := by decide +kernel
theorem dX11_unpacks_1 : decode cX11_unpacks 1 = .ok (.lstore 5, 2) := by decide +kernel
theorem dX11_unpacks_3 : decode cX11_unpacks 3 = .ok (.bipush 7, 2) := by decide +kernel
theorem dX11_unpacks_5 : decode cX11_unpacks 5 = .ok (.istore 7, 2) := by decide +kernel
theorem dX11_unpacks_7 : decode cX11_unpacks 7 = .ok (.iload 7, 2) := by decide +kernel
theorem dX11_unpacks_9 : decode cX11_unpacks 9 = .ok (.ifCond .lt 30, 3) := by decide +kernel
theorem dX11_unpacks_12 : decode cX11_unpacks 12 = .ok (.aload_n 0, 1) := by decide +kernel
theorem dX11_unpacks_13 : decode cX11_unpacks 13 = .ok (.getfield 164, 3) := by decide +kernel
theorem dX11_unpacks_16 : decode cX11_unpacks 16 = .ok (.iload 7, 2) := by decide +kernel
theorem dX11_unpacks_18 : decode cX11_unpacks 18 = .ok (.lload 5, 2) := by decide +kernel
theorem dX11_unpacks_20 : decode cX11_unpacks 20 = .ok (.ldc2_w 231, 3) := by decide +kernel
theorem dX11_unpacks_23 : decode cX11_unpacks 23 = .ok (.land, 1) := by decide +kernel
theorem dX11_unpacks_24 : decode cX11_unpacks 24 = .ok (.l2i, 1) := by decide +kernel
theorem dX11_unpacks_25 : decode cX11_unpacks 25 = .ok (.iastore, 1) := by decide +kernel
theorem dX11_unpacks_26 : decode cX11_unpacks 26 = .ok (.lload 5, 2) := by decide +kernel
theorem dX11_unpacks_28 : decode cX11_unpacks 28 = .ok (.bipush 8, 2) := by decide +kernel
theorem dX11_unpacks_30 : decode cX11_unpacks 30 = .ok (.lushr, 1) := by decide +kernel
theorem dX11_unpacks_31 : decode cX11_unpacks 31 = .ok (.lstore 5, 2) := by decide +kernel
theorem dX11_unpacks_33 : decode cX11_unpacks 33 = .ok (.iinc 7 (-1), 3) := by decide +kernel
theorem dX11_unpacks_36 : decode cX11_unpacks 36 = .ok (.goto (-29), 3) := by decide +kernel
theorem dX11_unpacks_39 : decode cX11_unpacks 39 = .ok (.lload_n 3, 1) := by decide +kernel
theorem dX11_unpacks_40 : decode cX11_unpacks 40 = .ok (.lstore 7, 2) := by decide +kernel
theorem dX11_unpacks_42 : decode cX11_unpacks 42 = .ok (.iconst 3, 1) := by decide +kernel
theorem dX11_unpacks_43 : decode cX11_unpacks 43 = .ok (.istore 9, 2) := by decide +kernel
theorem dX11_unpacks_45 : decode cX11_unpacks 45 = .ok (.iload 9, 2) := by decide +kernel
theorem dX11_unpacks_47 : decode cX11_unpacks 47 = .ok (.ifCond .lt 29, 3) := by decide +kernel
theorem dX11_unpacks_50 : decode cX11_unpacks 50 = .ok (.aload_n 0, 1) := by decide +kernel
theorem dX11_unpacks_51 : decode cX11_unpacks 51 = .ok (.getfield 145, 3) := by decide +kernel
theorem dX11_unpacks_54 : decode cX11_unpacks 54 = .ok (.iload 9, 2) := by decide +kernel
theorem dX11_unpacks_56 : decode cX11_unpacks 56 = .ok (.lload 7, 2) := by decide +kernel
theorem dX11_unpacks_58 : decode cX11_unpacks 58 = .ok (.ldc2_w 235, 3) := by decide +kernel
theorem dX11_unpacks_61 : decode cX11_unpacks 61 = .ok (.land, 1) := by decide +kernel
theorem dX11_unpacks_62 : decode cX11_unpacks 62 = .ok (.l2i, 1) := by decide +kernel
theorem dX11_unpacks_63 : decode cX11_unpacks 63 = .ok (.iastore, 1) := by decide +kernel
theorem dX11_unpacks_64 : decode cX11_unpacks 64 = .ok (.lload 7, 2) := by decide +kernel
theorem dX11_unpacks_66 : decode cX11_unpacks 66 = .ok (.iconst 4, 1) := by decide +kernel
theorem dX11_unpacks_67 : decode cX11_unpacks 67 = .ok (.lshr, 1) := by decide +kernel
theorem dX11_unpacks_68 : decode cX11_unpacks 68 = .ok (.lstore 7, 2) := by decide +kernel
theorem dX11_unpacks_70 : decode cX11_unpacks 70 = .ok (.iinc 9 (-1), 3) := by decide +kernel
theorem dX11_unpacks_73 : decode cX11_unpacks 73 = .ok (.goto (-28), 3) := by decide +kernel
theorem dX11_unpacks_76 : decode cX11_unpacks 76 = .ok (.iconst 3, 1) := by decide +kernel
theorem dX11_unpacks_77 : decode cX11_unpacks 77 = .ok (.istore 9, 2) := by decide +kernel
theorem dX11_unpacks_79 : decode cX11_unpacks 79 = .ok (.iload 9, 2) := by decide +kernel
theorem dX11_unpacks_81 : decode cX11_unpacks 81 = .ok (.ifCond .lt 46, 3) := by decide +kernel
theorem dX11_unpacks_84 : decode cX11_unpacks 84 = .ok (.aload_n 0, 1) := by decide +kernel
theorem dX11_unpacks_85 : decode cX11_unpacks 85 = .ok (.getfield 167, 3) := by decide +kernel
theorem dX11_unpacks_88 : decode cX11_unpacks 88 = .ok (.iload 9, 2) := by decide +kernel
theorem dX11_unpacks_90 : decode cX11_unpacks 90 = .ok (.lload 7, 2) := by decide +kernel
theorem dX11_unpacks_92 : decode cX11_unpacks 92 = .ok (.ldc2_w 235, 3) := by decide +kernel
theorem dX11_unpacks_95 : decode cX11_unpacks 95 = .ok (.land, 1) := by decide +kernel
theorem dX11_unpacks_96 : decode cX11_unpacks 96 = .ok (.l2i, 1) := by decide +kernel
theorem dX11_unpacks_97 : decode cX11_unpacks 97 = .ok (.iastore, 1) := by decide +kernel
theorem dX11_unpacks_98 : decode cX11_unpacks 98 = .ok (.aload_n 0, 1) := by decide +kernel
theorem dX11_unpacks_99 : decode cX11_unpacks 99 = .ok (.getfield 170, 3) := by decide +kernel
theorem dX11_unpacks_102 : decode cX11_unpacks 102 = .ok (.iload 9, 2) := by decide +kernel
theorem dX11_unpacks_104 : decode cX11_unpacks 104 = .ok (.lload 7, 2) := by decide +kernel
theorem dX11_unpacks_106 : decode cX11_unpacks 106 = .ok (.iconst 4, 1) := by decide +kernel
theorem dX11_unpacks_107 : decode cX11_unpacks 107 = .ok (.lshr, 1) := by decide +kernel
theorem dX11_unpacks_108 : decode cX11_unpacks 108 = .ok (.ldc2_w 233, 3) := by decide +kernel
theorem dX11_unpacks_111 : decode cX11_unpacks 111 = .ok (.land, 1) := by decide +kernel
theorem dX11_unpacks_112 : decode cX11_unpacks 112 = .ok (.l2i, 1) := by decide +kernel
theorem dX11_unpacks_113 : decode cX11_unpacks 113 = .ok (.iastore, 1) := by decide +kernel
theorem dX11_unpacks_114 : decode cX11_unpacks 114 = .ok (.lload 7, 2) := by decide +kernel
theorem dX11_unpacks_116 : decode cX11_unpacks 116 = .ok (.bipush 6, 2) := by decide +kernel
theorem dX11_unpacks_118 : decode cX11_unpacks 118 = .ok (.lshr, 1) := by decide +kernel
theorem dX11_unpacks_119 : decode cX11_unpacks 119 = .ok (.lstore 7, 2) := by decide +kernel
theorem dX11_unpacks_121 : decode cX11_unpacks 121 = .ok (.iinc 9 (-1), 3) := by decide +kernel
theorem dX11_unpacks_124 : decode cX11_unpacks 124 = .ok (.goto (-45), 3) := by decide +kernel
theorem dX11_unpacks_127 : decode cX11_unpacks 127 = .ok (.return_, 1) := by decide +kernel
theorem dX11_remembers_0 : decode cX11_remembers 0 = .ok (.aload_n 0, 1) := by decide +kernel
theorem dX11_remembers_1 : decode cX11_remembers 1 = .ok (.aload_n 0, 1) := by decide +kernel
theorem dX11_remembers_2 : decode cX11_remembers 2 = .ok (.invokevirtual 266, 3) := by decide +kernel
theorem dX11_remembers_5 : decode cX11_remembers 5 = .ok (.putfield 270, 3) := by decide +kernel
theorem dX11_remembers_8 : decode cX11_remembers 8 = .ok (.aload_n 0, 1) := by decide +kernel
theorem dX11_remembers_9 : decode cX11_remembers 9 = .ok (.aload_n 0, 1) := by decide +kernel
theorem dX11_remembers_10 : decode cX11_remembers 10 = .ok (.invokevirtual 274, 3) := by decide +kernel
theorem dX11_remembers_13 : decode cX11_remembers 13 = .ok (.putfield 277, 3) := by decide +kernel
theorem dX11_remembers_16 : decode cX11_remembers 16 = .ok (.aload_n 0, 1) := by decide +kernel
theorem dX11_remembers_17 : decode cX11_remembers 17 = .ok (.aload_n 0, 1) := by decide +kernel
theorem dX11_remembers_18 : decode cX11_remembers 18 = .ok (.getfield 173, 3) := by decide +kernel
theorem dX11_remembers_21 : decode cX11_remembers 21 = .ok (.putfield 280, 3) := by decide +kernel
theorem dX11_remembers_24 : decode cX11_remembers 24 = .ok (.aload_n 0, 1) := by decide +kernel
theorem dX11_remembers_25 : decode cX11_remembers 25 = .ok (.aload_n 0, 1) := by decide +kernel
theorem dX11_remembers_26 : decode cX11_remembers 26 = .ok (.getfield 176, 3) := by decide +kernel
theorem dX11_remembers_29 : decode cX11_remembers 29 = .ok (.putfield 283, 3) := by decide +kernel
theorem dX11_remembers_32 : decode cX11_remembers 32 = .ok (.aload_n 0, 1) := by decide +kernel
theorem dX11_remembers_33 : decode cX11_remembers 33 = .ok (.aload_n 0, 1) := by decide +kernel
theorem dX11_remembers_34 : decode cX11_remembers 34 = .ok (.getfield 179, 3) := by decide +kernel
theorem dX11_remembers_37 : decode cX11_remembers 37 = .ok (.putfield 286, 3) := by decide +kernel
theorem dX11_remembers_40 : decode cX11_remembers 40 = .ok (.aload_n 0, 1) := by decide +kernel
theorem dX11_remembers_41 : decode cX11_remembers 41 = .ok (.aload_n 0, 1) := by decide +kernel
theorem dX11_remembers_42 : decode cX11_remembers 42 = .ok (.getfield 182, 3) := by decide +kernel
theorem dX11_remembers_45 : decode cX11_remembers 45 = .ok (.putfield 289, 3) := by decide +kernel
theorem dX11_remembers_48 : decode cX11_remembers 48 = .ok (.return_, 1) := by decide +kernel
theorem dX11_comesBack_0 : decode cX11_comesBack 0 = .ok (.aload_n 0, 1) := by decide +kernel
theorem dX11_comesBack_1 : decode cX11_comesBack 1 = .ok (.aload_n 0, 1) := by decide +kernel
theorem dX11_comesBack_2 : decode cX11_comesBack 2 = .ok (.getfield 270, 3) := by decide +kernel
theorem dX11_comesBack_5 : decode cX11_comesBack 5 = .ok (.aload_n 0, 1) := by decide +kernel
theorem dX11_comesBack_6 : decode cX11_comesBack 6 = .ok (.getfield 277, 3) := by decide +kernel
theorem dX11_comesBack_9 : decode cX11_comesBack 9 = .ok (.invokevirtual 292, 3) := by decide +kernel
theorem dX11_comesBack_12 : decode cX11_comesBack 12 = .ok (.aload_n 0, 1) := by decide +kernel
theorem dX11_comesBack_13 : decode cX11_comesBack 13 = .ok (.aload_n 0, 1) := by decide +kernel
theorem dX11_comesBack_14 : decode cX11_comesBack 14 = .ok (.getfield 280, 3) := by decide +kernel
theorem dX11_comesBack_17 : decode cX11_comesBack 17 = .ok (.putfield 173, 3) := by decide +kernel
theorem dX11_comesBack_20 : decode cX11_comesBack 20 = .ok (.aload_n 0, 1) := by decide +kernel
theorem dX11_comesBack_21 : decode cX11_comesBack 21 = .ok (.aload_n 0, 1) := by decide +kernel
theorem dX11_comesBack_22 : decode cX11_comesBack 22 = .ok (.getfield 283, 3) := by decide +kernel
theorem dX11_comesBack_25 : decode cX11_comesBack 25 = .ok (.putfield 176, 3) := by decide +kernel
theorem dX11_comesBack_28 : decode cX11_comesBack 28 = .ok (.aload_n 0, 1) := by decide +kernel
theorem dX11_comesBack_29 : decode cX11_comesBack 29 = .ok (.aload_n 0, 1) := by decide +kernel
theorem dX11_comesBack_30 : decode cX11_comesBack 30 = .ok (.getfield 286, 3) := by decide +kernel
theorem dX11_comesBack_33 : decode cX11_comesBack 33 = .ok (.putfield 179, 3) := by decide +kernel
theorem dX11_comesBack_36 : decode cX11_comesBack 36 = .ok (.aload_n 0, 1) := by decide +kernel
theorem dX11_comesBack_37 : decode cX11_comesBack 37 = .ok (.aload_n 0, 1) := by decide +kernel
theorem dX11_comesBack_38 : decode cX11_comesBack 38 = .ok (.getfield 289, 3) := by decide +kernel
theorem dX11_comesBack_41 : decode cX11_comesBack 41 = .ok (.putfield 182, 3) := by decide +kernel
theorem dX11_comesBack_44 : decode cX11_comesBack 44 = .ok (.aload_n 0, 1) := by decide +kernel
theorem dX11_comesBack_45 : decode cX11_comesBack 45 = .ok (.iconst 0, 1) := by decide +kernel
theorem dX11_comesBack_46 : decode cX11_comesBack 46 = .ok (.putfield 201, 3) := by decide +kernel
theorem dX11_comesBack_49 : decode cX11_comesBack 49 = .ok (.return_, 1) := by decide +kernel
theorem dX11_empties_0 : decode cX11_empties 0 = .ok (.aload_n 0, 1) := by decide +kernel
theorem dX11_empties_1 : decode cX11_empties 1 = .ok (.iconst 0, 1) := by decide +kernel
theorem dX11_empties_2 : decode cX11_empties 2 = .ok (.putfield 296, 3) := by decide +kernel
theorem dX11_empties_5 : decode cX11_empties 5 = .ok (.iconst 0, 1) := by decide +kernel
theorem dX11_empties_6 : decode cX11_empties 6 = .ok (.istore_n 1, 1) := by decide +kernel
theorem dX11_empties_7 : decode cX11_empties 7 = .ok (.iload_n 1, 1) := by decide +kernel
theorem dX11_empties_8 : decode cX11_empties 8 = .ok (.sipush 16384, 3) := by decide +kernel
theorem dX11_empties_11 : decode cX11_empties 11 = .ok (.if_icmp .ge 16, 3) := by decide +kernel
theorem dX11_empties_14 : decode cX11_empties 14 = .ok (.aload_n 0, 1) := by decide +kernel
theorem dX11_empties_15 : decode cX11_empties 15 = .ok (.getfield 299, 3) := by decide +kernel
theorem dX11_empties_18 : decode cX11_empties 18 = .ok (.iload_n 1, 1) := by decide +kernel
theorem dX11_empties_19 : decode cX11_empties 19 = .ok (.iconst (-1), 1) := by decide +kernel
theorem dX11_empties_20 : decode cX11_empties 20 = .ok (.iastore, 1) := by decide +kernel
theorem dX11_empties_21 : decode cX11_empties 21 = .ok (.iinc 1 1, 3) := by decide +kernel
theorem dX11_empties_24 : decode cX11_empties 24 = .ok (.goto (-17), 3) := by decide +kernel
theorem dX11_empties_27 : decode cX11_empties 27 = .ok (.return_, 1) := by decide +kernel
theorem dX11_places_0 : decode cX11_places 0 = .ok (.lload_n 0, 1) := by decide +kernel
theorem dX11_places_1 : decode cX11_places 1 = .ok (.ldc2_w 302, 3) := by decide +kernel
theorem dX11_places_4 : decode cX11_places 4 = .ok (.lmul, 1) := by decide +kernel
theorem dX11_places_5 : decode cX11_places 5 = .ok (.lload_n 2, 1) := by decide +kernel
theorem dX11_places_6 : decode cX11_places 6 = .ok (.ldc2_w 304, 3) := by decide +kernel
theorem dX11_places_9 : decode cX11_places 9 = .ok (.lmul, 1) := by decide +kernel
theorem dX11_places_10 : decode cX11_places 10 = .ok (.ladd, 1) := by decide +kernel
theorem dX11_places_11 : decode cX11_places 11 = .ok (.lstore 4, 2) := by decide +kernel
theorem dX11_places_13 : decode cX11_places 13 = .ok (.lload 4, 2) := by decide +kernel
theorem dX11_places_15 : decode cX11_places 15 = .ok (.lload 4, 2) := by decide +kernel
theorem dX11_places_17 : decode cX11_places 17 = .ok (.bipush 29, 2) := by decide +kernel
theorem dX11_places_19 : decode cX11_places 19 = .ok (.lushr, 1) := by decide +kernel
theorem dX11_places_20 : decode cX11_places 20 = .ok (.lxor, 1) := by decide +kernel
theorem dX11_places_21 : decode cX11_places 21 = .ok (.lstore 4, 2) := by decide +kernel
theorem dX11_places_23 : decode cX11_places 23 = .ok (.lload 4, 2) := by decide +kernel
theorem dX11_places_25 : decode cX11_places 25 = .ok (.ldc2_w 306, 3) := by decide +kernel
theorem dX11_places_28 : decode cX11_places 28 = .ok (.lmul, 1) := by decide +kernel
theorem dX11_places_29 : decode cX11_places 29 = .ok (.lstore 4, 2) := by decide +kernel
theorem dX11_places_31 : decode cX11_places 31 = .ok (.lload 4, 2) := by decide +kernel
theorem dX11_places_33 : decode cX11_places 33 = .ok (.bipush 33, 2) := by decide +kernel
theorem dX11_places_35 : decode cX11_places 35 = .ok (.lushr, 1) := by decide +kernel
theorem dX11_places_36 : decode cX11_places 36 = .ok (.l2i, 1) := by decide +kernel
theorem dX11_places_37 : decode cX11_places 37 = .ok (.sipush 16383, 3) := by decide +kernel
theorem dX11_places_40 : decode cX11_places 40 = .ok (.iand, 1) := by decide +kernel
theorem dX11_places_41 : decode cX11_places 41 = .ok (.ireturn, 1) := by decide +kernel
theorem dX11_placeOf_0 : decode cX11_placeOf 0 = .ok (.lload_n 1, 1) := by decide +kernel
theorem dX11_placeOf_1 : decode cX11_placeOf 1 = .ok (.lload_n 3, 1) := by decide +kernel
theorem dX11_placeOf_2 : decode cX11_placeOf 2 = .ok (.invokestatic 308, 3) := by decide +kernel
theorem dX11_placeOf_5 : decode cX11_placeOf 5 = .ok (.istore 5, 2) := by decide +kernel
theorem dX11_placeOf_7 : decode cX11_placeOf 7 = .ok (.aload_n 0, 1) := by decide +kernel
theorem dX11_placeOf_8 : decode cX11_placeOf 8 = .ok (.getfield 299, 3) := by decide +kernel
theorem dX11_placeOf_11 : decode cX11_placeOf 11 = .ok (.iload 5, 2) := by decide +kernel
theorem dX11_placeOf_13 : decode cX11_placeOf 13 = .ok (.iaload, 1) := by decide +kernel
theorem dX11_placeOf_14 : decode cX11_placeOf 14 = .ok (.ifCond .lt 50, 3) := by decide +kernel
theorem dX11_placeOf_17 : decode cX11_placeOf 17 = .ok (.aload_n 0, 1) := by decide +kernel
theorem dX11_placeOf_18 : decode cX11_placeOf 18 = .ok (.getfield 312, 3) := by decide +kernel
theorem dX11_placeOf_21 : decode cX11_placeOf 21 = .ok (.aload_n 0, 1) := by decide +kernel
theorem dX11_placeOf_22 : decode cX11_placeOf 22 = .ok (.getfield 299, 3) := by decide +kernel
theorem dX11_placeOf_25 : decode cX11_placeOf 25 = .ok (.iload 5, 2) := by decide +kernel
theorem dX11_placeOf_27 : decode cX11_placeOf 27 = .ok (.iaload, 1) := by decide +kernel
theorem dX11_placeOf_28 : decode cX11_placeOf 28 = .ok (.laload, 1) := by decide +kernel
theorem dX11_placeOf_29 : decode cX11_placeOf 29 = .ok (.lload_n 1, 1) := by decide +kernel
theorem dX11_placeOf_30 : decode cX11_placeOf 30 = .ok (.lcmp, 1) := by decide +kernel
theorem dX11_placeOf_31 : decode cX11_placeOf 31 = .ok (.ifCond .ne 20, 3) := by decide +kernel
theorem dX11_placeOf_34 : decode cX11_placeOf 34 = .ok (.aload_n 0, 1) := by decide +kernel
theorem dX11_placeOf_35 : decode cX11_placeOf 35 = .ok (.getfield 315, 3) := by decide +kernel
theorem dX11_placeOf_38 : decode cX11_placeOf 38 = .ok (.aload_n 0, 1) := by decide +kernel
theorem dX11_placeOf_39 : decode cX11_placeOf 39 = .ok (.getfield 299, 3) := by decide +kernel
theorem dX11_placeOf_42 : decode cX11_placeOf 42 = .ok (.iload 5, 2) := by decide +kernel
theorem dX11_placeOf_44 : decode cX11_placeOf 44 = .ok (.iaload, 1) := by decide +kernel
theorem dX11_placeOf_45 : decode cX11_placeOf 45 = .ok (.laload, 1) := by decide +kernel
theorem dX11_placeOf_46 : decode cX11_placeOf 46 = .ok (.lload_n 3, 1) := by decide +kernel
theorem dX11_placeOf_47 : decode cX11_placeOf 47 = .ok (.lcmp, 1) := by decide +kernel
theorem dX11_placeOf_48 : decode cX11_placeOf 48 = .ok (.ifCond .eq 16, 3) := by decide +kernel
theorem dX11_placeOf_51 : decode cX11_placeOf 51 = .ok (.iload 5, 2) := by decide +kernel
theorem dX11_placeOf_53 : decode cX11_placeOf 53 = .ok (.iconst 1, 1) := by decide +kernel
theorem dX11_placeOf_54 : decode cX11_placeOf 54 = .ok (.iadd, 1) := by decide +kernel
theorem dX11_placeOf_55 : decode cX11_placeOf 55 = .ok (.sipush 16383, 3) := by decide +kernel
theorem dX11_placeOf_58 : decode cX11_placeOf 58 = .ok (.iand, 1) := by decide +kernel
theorem dX11_placeOf_59 : decode cX11_placeOf 59 = .ok (.istore 5, 2) := by decide +kernel
theorem dX11_placeOf_61 : decode cX11_placeOf 61 = .ok (.goto (-54), 3) := by decide +kernel
theorem dX11_placeOf_64 : decode cX11_placeOf 64 = .ok (.aload_n 0, 1) := by decide +kernel
theorem dX11_placeOf_65 : decode cX11_placeOf 65 = .ok (.getfield 299, 3) := by decide +kernel
theorem dX11_placeOf_68 : decode cX11_placeOf 68 = .ok (.iload 5, 2) := by decide +kernel
theorem dX11_placeOf_70 : decode cX11_placeOf 70 = .ok (.iaload, 1) := by decide +kernel
theorem dX11_placeOf_71 : decode cX11_placeOf 71 = .ok (.ifCond .ge 44, 3) := by decide +kernel
theorem dX11_placeOf_74 : decode cX11_placeOf 74 = .ok (.aload_n 0, 1) := by decide +kernel
theorem dX11_placeOf_75 : decode cX11_placeOf 75 = .ok (.getfield 312, 3) := by decide +kernel
theorem dX11_placeOf_78 : decode cX11_placeOf 78 = .ok (.aload_n 0, 1) := by decide +kernel
theorem dX11_placeOf_79 : decode cX11_placeOf 79 = .ok (.getfield 296, 3) := by decide +kernel
theorem dX11_placeOf_82 : decode cX11_placeOf 82 = .ok (.lload_n 1, 1) := by decide +kernel
theorem dX11_placeOf_83 : decode cX11_placeOf 83 = .ok (.lastore, 1) := by decide +kernel
theorem dX11_placeOf_84 : decode cX11_placeOf 84 = .ok (.aload_n 0, 1) := by decide +kernel
theorem dX11_placeOf_85 : decode cX11_placeOf 85 = .ok (.getfield 315, 3) := by decide +kernel
theorem dX11_placeOf_88 : decode cX11_placeOf 88 = .ok (.aload_n 0, 1) := by decide +kernel
theorem dX11_placeOf_89 : decode cX11_placeOf 89 = .ok (.getfield 296, 3) := by decide +kernel
theorem dX11_placeOf_92 : decode cX11_placeOf 92 = .ok (.lload_n 3, 1) := by decide +kernel
theorem dX11_placeOf_93 : decode cX11_placeOf 93 = .ok (.lastore, 1) := by decide +kernel
theorem dX11_placeOf_94 : decode cX11_placeOf 94 = .ok (.aload_n 0, 1) := by decide +kernel
theorem dX11_placeOf_95 : decode cX11_placeOf 95 = .ok (.getfield 299, 3) := by decide +kernel
theorem dX11_placeOf_98 : decode cX11_placeOf 98 = .ok (.iload 5, 2) := by decide +kernel
theorem dX11_placeOf_100 : decode cX11_placeOf 100 = .ok (.aload_n 0, 1) := by decide +kernel
theorem dX11_placeOf_101 : decode cX11_placeOf 101 = .ok (.getfield 296, 3) := by decide +kernel
theorem dX11_placeOf_104 : decode cX11_placeOf 104 = .ok (.iastore, 1) := by decide +kernel
theorem dX11_placeOf_105 : decode cX11_placeOf 105 = .ok (.aload_n 0, 1) := by decide +kernel
theorem dX11_placeOf_106 : decode cX11_placeOf 106 = .ok (.dup, 1) := by decide +kernel
theorem dX11_placeOf_107 : decode cX11_placeOf 107 = .ok (.getfield 296, 3) := by decide +kernel
theorem dX11_placeOf_110 : decode cX11_placeOf 110 = .ok (.iconst 1, 1) := by decide +kernel
theorem dX11_placeOf_111 : decode cX11_placeOf 111 = .ok (.iadd, 1) := by decide +kernel
theorem dX11_placeOf_112 : decode cX11_placeOf 112 = .ok (.putfield 296, 3) := by decide +kernel
theorem dX11_placeOf_115 : decode cX11_placeOf 115 = .ok (.aload_n 0, 1) := by decide +kernel
theorem dX11_placeOf_116 : decode cX11_placeOf 116 = .ok (.getfield 299, 3) := by decide +kernel
theorem dX11_placeOf_119 : decode cX11_placeOf 119 = .ok (.iload 5, 2) := by decide +kernel
theorem dX11_placeOf_121 : decode cX11_placeOf 121 = .ok (.iaload, 1) := by decide +kernel
theorem dX11_placeOf_122 : decode cX11_placeOf 122 = .ok (.ireturn, 1) := by decide +kernel
theorem dX11_goesTo_0 : decode cX11_goesTo 0 = .ok (.aload_n 0, 1) := by decide +kernel
theorem dX11_goesTo_1 : decode cX11_goesTo 1 = .ok (.aload_n 0, 1) := by decide +kernel
theorem dX11_goesTo_2 : decode cX11_goesTo 2 = .ok (.getfield 312, 3) := by decide +kernel
theorem dX11_goesTo_5 : decode cX11_goesTo 5 = .ok (.iload_n 1, 1) := by decide +kernel
theorem dX11_goesTo_6 : decode cX11_goesTo 6 = .ok (.laload, 1) := by decide +kernel
theorem dX11_goesTo_7 : decode cX11_goesTo 7 = .ok (.aload_n 0, 1) := by decide +kernel
theorem dX11_goesTo_8 : decode cX11_goesTo 8 = .ok (.getfield 315, 3) := by decide +kernel
theorem dX11_goesTo_11 : decode cX11_goesTo 11 = .ok (.iload_n 1, 1) := by decide +kernel
theorem dX11_goesTo_12 : decode cX11_goesTo 12 = .ok (.laload, 1) := by decide +kernel
theorem dX11_goesTo_13 : decode cX11_goesTo 13 = .ok (.invokevirtual 292, 3) := by decide +kernel
theorem dX11_goesTo_16 : decode cX11_goesTo 16 = .ok (.aload_n 0, 1) := by decide +kernel
theorem dX11_goesTo_17 : decode cX11_goesTo 17 = .ok (.iload_n 2, 1) := by decide +kernel
theorem dX11_goesTo_18 : decode cX11_goesTo 18 = .ok (.aload_n 0, 1) := by decide +kernel
theorem dX11_goesTo_19 : decode cX11_goesTo 19 = .ok (.getfield 239, 3) := by decide +kernel
theorem dX11_goesTo_22 : decode cX11_goesTo 22 = .ok (.iconst 1, 1) := by decide +kernel
theorem dX11_goesTo_23 : decode cX11_goesTo 23 = .ok (.iadd, 1) := by decide +kernel
theorem dX11_goesTo_24 : decode cX11_goesTo 24 = .ok (.idiv, 1) := by decide +kernel
theorem dX11_goesTo_25 : decode cX11_goesTo 25 = .ok (.iload_n 2, 1) := by decide +kernel
theorem dX11_goesTo_26 : decode cX11_goesTo 26 = .ok (.aload_n 0, 1) := by decide +kernel
theorem dX11_goesTo_27 : decode cX11_goesTo 27 = .ok (.getfield 239, 3) := by decide +kernel
theorem dX11_goesTo_30 : decode cX11_goesTo 30 = .ok (.iconst 1, 1) := by decide +kernel
theorem dX11_goesTo_31 : decode cX11_goesTo 31 = .ok (.iadd, 1) := by decide +kernel
theorem dX11_goesTo_32 : decode cX11_goesTo 32 = .ok (.irem, 1) := by decide +kernel
theorem dX11_goesTo_33 : decode cX11_goesTo 33 = .ok (.invokevirtual 242, 3) := by decide +kernel
theorem dX11_goesTo_36 : decode cX11_goesTo 36 = .ok (.return_, 1) := by decide +kernel
theorem dX11_after_0 : decode cX11_after 0 = .ok (.aload_n 0, 1) := by decide +kernel
theorem dX11_after_1 : decode cX11_after 1 = .ok (.iload_n 1, 1) := by decide +kernel
theorem dX11_after_2 : decode cX11_after 2 = .ok (.iload_n 2, 1) := by decide +kernel
theorem dX11_after_3 : decode cX11_after 3 = .ok (.invokevirtual 318, 3) := by decide +kernel
theorem dX11_after_6 : decode cX11_after 6 = .ok (.aload_n 0, 1) := by decide +kernel
theorem dX11_after_7 : decode cX11_after 7 = .ok (.aload_n 0, 1) := by decide +kernel
theorem dX11_after_8 : decode cX11_after 8 = .ok (.invokevirtual 266, 3) := by decide +kernel
theorem dX11_after_11 : decode cX11_after 11 = .ok (.aload_n 0, 1) := by decide +kernel
theorem dX11_after_12 : decode cX11_after 12 = .ok (.invokevirtual 274, 3) := by decide +kernel
theorem dX11_after_15 : decode cX11_after 15 = .ok (.invokevirtual 321, 3) := by decide +kernel
theorem dX11_after_18 : decode cX11_after 18 = .ok (.ireturn, 1) := by decide +kernel
theorem dX11_explores_0 : decode cX11_explores 0 = .ok (.aload_n 0, 1) := by decide +kernel
theorem dX11_explores_1 : decode cX11_explores 1 = .ok (.invokevirtual 324, 3) := by decide +kernel
theorem dX11_explores_4 : decode cX11_explores 4 = .ok (.aload_n 0, 1) := by decide +kernel
theorem dX11_explores_5 : decode cX11_explores 5 = .ok (.aload_n 0, 1) := by decide +kernel
theorem dX11_explores_6 : decode cX11_explores 6 = .ok (.getfield 270, 3) := by decide +kernel
theorem dX11_explores_9 : decode cX11_explores 9 = .ok (.aload_n 0, 1) := by decide +kernel
theorem dX11_explores_10 : decode cX11_explores 10 = .ok (.getfield 277, 3) := by decide +kernel
theorem dX11_explores_13 : decode cX11_explores 13 = .ok (.invokevirtual 321, 3) := by decide +kernel
theorem dX11_explores_16 : decode cX11_explores 16 = .ok (.istore_n 3, 1) := by decide +kernel
theorem dX11_explores_17 : decode cX11_explores 17 = .ok (.aload_n 0, 1) := by decide +kernel
theorem dX11_explores_18 : decode cX11_explores 18 = .ok (.getfield 327, 3) := by decide +kernel
theorem dX11_explores_21 : decode cX11_explores 21 = .ok (.iload_n 3, 1) := by decide +kernel
theorem dX11_explores_22 : decode cX11_explores 22 = .ok (.iconst 0, 1) := by decide +kernel
theorem dX11_explores_23 : decode cX11_explores 23 = .ok (.iastore, 1) := by decide +kernel
theorem dX11_explores_24 : decode cX11_explores 24 = .ok (.aload_n 0, 1) := by decide +kernel
theorem dX11_explores_25 : decode cX11_explores 25 = .ok (.getfield 330, 3) := by decide +kernel
theorem dX11_explores_28 : decode cX11_explores 28 = .ok (.iload_n 3, 1) := by decide +kernel
theorem dX11_explores_29 : decode cX11_explores 29 = .ok (.iconst (-1), 1) := by decide +kernel
theorem dX11_explores_30 : decode cX11_explores 30 = .ok (.iastore, 1) := by decide +kernel
theorem dX11_explores_31 : decode cX11_explores 31 = .ok (.iconst 0, 1) := by decide +kernel
theorem dX11_explores_32 : decode cX11_explores 32 = .ok (.istore 4, 2) := by decide +kernel
theorem dX11_explores_34 : decode cX11_explores 34 = .ok (.iload 4, 2) := by decide +kernel
theorem dX11_explores_36 : decode cX11_explores 36 = .ok (.aload_n 0, 1) := by decide +kernel
theorem dX11_explores_37 : decode cX11_explores 37 = .ok (.getfield 296, 3) := by decide +kernel
theorem dX11_explores_40 : decode cX11_explores 40 = .ok (.if_icmp .ge 105, 3) := by decide +kernel
theorem dX11_explores_43 : decode cX11_explores 43 = .ok (.iconst 0, 1) := by decide +kernel
theorem dX11_explores_44 : decode cX11_explores 44 = .ok (.istore 5, 2) := by decide +kernel
theorem dX11_explores_46 : decode cX11_explores 46 = .ok (.iload 5, 2) := by decide +kernel
theorem dX11_explores_48 : decode cX11_explores 48 = .ok (.aload_n 0, 1) := by decide +kernel
theorem dX11_explores_49 : decode cX11_explores 49 = .ok (.invokevirtual 251, 3) := by decide +kernel
theorem dX11_explores_52 : decode cX11_explores 52 = .ok (.if_icmp .ge 87, 3) := by decide +kernel
theorem dX11_explores_55 : decode cX11_explores 55 = .ok (.aload_n 0, 1) := by decide +kernel
theorem dX11_explores_56 : decode cX11_explores 56 = .ok (.getfield 327, 3) := by decide +kernel
theorem dX11_explores_59 : decode cX11_explores 59 = .ok (.iload 4, 2) := by decide +kernel
theorem dX11_explores_61 : decode cX11_explores 61 = .ok (.iaload, 1) := by decide +kernel
theorem dX11_explores_62 : decode cX11_explores 62 = .ok (.iload_n 1, 1) := by decide +kernel
theorem dX11_explores_63 : decode cX11_explores 63 = .ok (.if_icmp .ge 76, 3) := by decide +kernel
theorem dX11_explores_66 : decode cX11_explores 66 = .ok (.aload_n 0, 1) := by decide +kernel
theorem dX11_explores_67 : decode cX11_explores 67 = .ok (.getfield 296, 3) := by decide +kernel
theorem dX11_explores_70 : decode cX11_explores 70 = .ok (.istore 6, 2) := by decide +kernel
theorem dX11_explores_72 : decode cX11_explores 72 = .ok (.aload_n 0, 1) := by decide +kernel
theorem dX11_explores_73 : decode cX11_explores 73 = .ok (.iload 4, 2) := by decide +kernel
theorem dX11_explores_75 : decode cX11_explores 75 = .ok (.iload 5, 2) := by decide +kernel
theorem dX11_explores_77 : decode cX11_explores 77 = .ok (.invokevirtual 333, 3) := by decide +kernel
theorem dX11_explores_80 : decode cX11_explores 80 = .ok (.istore 7, 2) := by decide +kernel
theorem dX11_explores_82 : decode cX11_explores 82 = .ok (.iload 7, 2) := by decide +kernel
theorem dX11_explores_84 : decode cX11_explores 84 = .ok (.iload 6, 2) := by decide +kernel
theorem dX11_explores_86 : decode cX11_explores 86 = .ok (.if_icmp .ne 37, 3) := by decide +kernel
theorem dX11_explores_89 : decode cX11_explores 89 = .ok (.aload_n 0, 1) := by decide +kernel
theorem dX11_explores_90 : decode cX11_explores 90 = .ok (.getfield 327, 3) := by decide +kernel
theorem dX11_explores_93 : decode cX11_explores 93 = .ok (.iload 7, 2) := by decide +kernel
theorem dX11_explores_95 : decode cX11_explores 95 = .ok (.aload_n 0, 1) := by decide +kernel
theorem dX11_explores_96 : decode cX11_explores 96 = .ok (.getfield 327, 3) := by decide +kernel
theorem dX11_explores_99 : decode cX11_explores 99 = .ok (.iload 4, 2) := by decide +kernel
theorem dX11_explores_101 : decode cX11_explores 101 = .ok (.iaload, 1) := by decide +kernel
theorem dX11_explores_102 : decode cX11_explores 102 = .ok (.iconst 1, 1) := by decide +kernel
theorem dX11_explores_103 : decode cX11_explores 103 = .ok (.iadd, 1) := by decide +kernel
theorem dX11_explores_104 : decode cX11_explores 104 = .ok (.iastore, 1) := by decide +kernel
theorem dX11_explores_105 : decode cX11_explores 105 = .ok (.aload_n 0, 1) := by decide +kernel
theorem dX11_explores_106 : decode cX11_explores 106 = .ok (.getfield 330, 3) := by decide +kernel
theorem dX11_explores_109 : decode cX11_explores 109 = .ok (.iload 7, 2) := by decide +kernel
theorem dX11_explores_111 : decode cX11_explores 111 = .ok (.iload 4, 2) := by decide +kernel
theorem dX11_explores_113 : decode cX11_explores 113 = .ok (.iastore, 1) := by decide +kernel
theorem dX11_explores_114 : decode cX11_explores 114 = .ok (.aload_n 0, 1) := by decide +kernel
theorem dX11_explores_115 : decode cX11_explores 115 = .ok (.getfield 336, 3) := by decide +kernel
theorem dX11_explores_118 : decode cX11_explores 118 = .ok (.iload 7, 2) := by decide +kernel
theorem dX11_explores_120 : decode cX11_explores 120 = .ok (.iload 5, 2) := by decide +kernel
theorem dX11_explores_122 : decode cX11_explores 122 = .ok (.iastore, 1) := by decide +kernel
theorem dX11_explores_123 : decode cX11_explores 123 = .ok (.aload_n 0, 1) := by decide +kernel
theorem dX11_explores_124 : decode cX11_explores 124 = .ok (.getfield 296, 3) := by decide +kernel
theorem dX11_explores_127 : decode cX11_explores 127 = .ok (.iload_n 2, 1) := by decide +kernel
theorem dX11_explores_128 : decode cX11_explores 128 = .ok (.if_icmp .le 5, 3) := by decide +kernel
theorem dX11_explores_131 : decode cX11_explores 131 = .ok (.iconst 0, 1) := by decide +kernel
theorem dX11_explores_132 : decode cX11_explores 132 = .ok (.ireturn, 1) := by decide +kernel
theorem dX11_explores_133 : decode cX11_explores 133 = .ok (.iinc 5 1, 3) := by decide +kernel
theorem dX11_explores_136 : decode cX11_explores 136 = .ok (.goto (-90), 3) := by decide +kernel
theorem dX11_explores_139 : decode cX11_explores 139 = .ok (.iinc 4 1, 3) := by decide +kernel
theorem dX11_explores_142 : decode cX11_explores 142 = .ok (.goto (-108), 3) := by decide +kernel
theorem dX11_explores_145 : decode cX11_explores 145 = .ok (.iconst 1, 1) := by decide +kernel
theorem dX11_explores_146 : decode cX11_explores 146 = .ok (.ireturn, 1) := by decide +kernel
theorem dX11_isRun_0 : decode cX11_isRun 0 = .ok (.iload_n 1, 1) := by decide +kernel
theorem dX11_isRun_1 : decode cX11_isRun 1 = .ok (.i2l, 1) := by decide +kernel
theorem dX11_isRun_2 : decode cX11_isRun 2 = .ok (.lconst 0, 1) := by decide +kernel
theorem dX11_isRun_3 : decode cX11_isRun 3 = .ok (.ldc2_w 339, 3) := by decide +kernel
theorem dX11_isRun_6 : decode cX11_isRun 6 = .ok (.invokestatic 21, 3) := by decide +kernel
theorem dX11_isRun_9 : decode cX11_isRun 9 = .ok (.ifCond .eq 14, 3) := by decide +kernel
theorem dX11_isRun_12 : decode cX11_isRun 12 = .ok (.aload_n 0, 1) := by decide +kernel
theorem dX11_isRun_13 : decode cX11_isRun 13 = .ok (.getfield 121, 3) := by decide +kernel
theorem dX11_isRun_16 : decode cX11_isRun 16 = .ok (.ifCond .le 7, 3) := by decide +kernel
theorem dX11_isRun_19 : decode cX11_isRun 19 = .ok (.iconst 1, 1) := by decide +kernel
theorem dX11_isRun_20 : decode cX11_isRun 20 = .ok (.goto 4, 3) := by decide +kernel
theorem dX11_isRun_23 : decode cX11_isRun 23 = .ok (.iconst 0, 1) := by decide +kernel
theorem dX11_isRun_24 : decode cX11_isRun 24 = .ok (.ireturn, 1) := by decide +kernel
theorem dX11_tellsWay_0 : decode cX11_tellsWay 0 = .ok (.aload_n 0, 1) := by decide +kernel
theorem dX11_tellsWay_1 : decode cX11_tellsWay 1 = .ok (.iconst 0, 1) := by decide +kernel
theorem dX11_tellsWay_2 : decode cX11_tellsWay 2 = .ok (.putfield 11, 3) := by decide +kernel
theorem dX11_tellsWay_5 : decode cX11_tellsWay 5 = .ok (.aload_n 0, 1) := by decide +kernel
theorem dX11_tellsWay_6 : decode cX11_tellsWay 6 = .ok (.getfield 327, 3) := by decide +kernel
theorem dX11_tellsWay_9 : decode cX11_tellsWay 9 = .ok (.iload_n 1, 1) := by decide +kernel
theorem dX11_tellsWay_10 : decode cX11_tellsWay 10 = .ok (.iaload, 1) := by decide +kernel
theorem dX11_tellsWay_11 : decode cX11_tellsWay 11 = .ok (.istore_n 3, 1) := by decide +kernel
theorem dX11_tellsWay_12 : decode cX11_tellsWay 12 = .ok (.iload_n 1, 1) := by decide +kernel
theorem dX11_tellsWay_13 : decode cX11_tellsWay 13 = .ok (.istore 4, 2) := by decide +kernel
theorem dX11_tellsWay_15 : decode cX11_tellsWay 15 = .ok (.iload_n 3, 1) := by decide +kernel
theorem dX11_tellsWay_16 : decode cX11_tellsWay 16 = .ok (.iconst 1, 1) := by decide +kernel
theorem dX11_tellsWay_17 : decode cX11_tellsWay 17 = .ok (.isub, 1) := by decide +kernel
theorem dX11_tellsWay_18 : decode cX11_tellsWay 18 = .ok (.istore 5, 2) := by decide +kernel
theorem dX11_tellsWay_20 : decode cX11_tellsWay 20 = .ok (.iload 5, 2) := by decide +kernel
theorem dX11_tellsWay_22 : decode cX11_tellsWay 22 = .ok (.ifCond .lt 33, 3) := by decide +kernel
theorem dX11_tellsWay_25 : decode cX11_tellsWay 25 = .ok (.aload_n 0, 1) := by decide +kernel
theorem dX11_tellsWay_26 : decode cX11_tellsWay 26 = .ok (.getfield 7, 3) := by decide +kernel
theorem dX11_tellsWay_29 : decode cX11_tellsWay 29 = .ok (.iload 5, 2) := by decide +kernel
theorem dX11_tellsWay_31 : decode cX11_tellsWay 31 = .ok (.aload_n 0, 1) := by decide +kernel
theorem dX11_tellsWay_32 : decode cX11_tellsWay 32 = .ok (.getfield 336, 3) := by decide +kernel
theorem dX11_tellsWay_35 : decode cX11_tellsWay 35 = .ok (.iload 4, 2) := by decide +kernel
theorem dX11_tellsWay_37 : decode cX11_tellsWay 37 = .ok (.iaload, 1) := by decide +kernel
theorem dX11_tellsWay_38 : decode cX11_tellsWay 38 = .ok (.i2l, 1) := by decide +kernel
theorem dX11_tellsWay_39 : decode cX11_tellsWay 39 = .ok (.lastore, 1) := by decide +kernel
theorem dX11_tellsWay_40 : decode cX11_tellsWay 40 = .ok (.aload_n 0, 1) := by decide +kernel
theorem dX11_tellsWay_41 : decode cX11_tellsWay 41 = .ok (.getfield 330, 3) := by decide +kernel
theorem dX11_tellsWay_44 : decode cX11_tellsWay 44 = .ok (.iload 4, 2) := by decide +kernel
theorem dX11_tellsWay_46 : decode cX11_tellsWay 46 = .ok (.iaload, 1) := by decide +kernel
theorem dX11_tellsWay_47 : decode cX11_tellsWay 47 = .ok (.istore 4, 2) := by decide +kernel
theorem dX11_tellsWay_49 : decode cX11_tellsWay 49 = .ok (.iinc 5 (-1), 3) := by decide +kernel
theorem dX11_tellsWay_52 : decode cX11_tellsWay 52 = .ok (.goto (-32), 3) := by decide +kernel
theorem dX11_tellsWay_55 : decode cX11_tellsWay 55 = .ok (.aload_n 0, 1) := by decide +kernel
theorem dX11_tellsWay_56 : decode cX11_tellsWay 56 = .ok (.iload_n 3, 1) := by decide +kernel
theorem dX11_tellsWay_57 : decode cX11_tellsWay 57 = .ok (.putfield 11, 3) := by decide +kernel
theorem dX11_tellsWay_60 : decode cX11_tellsWay 60 = .ok (.iload_n 2, 1) := by decide +kernel
theorem dX11_tellsWay_61 : decode cX11_tellsWay 61 = .ok (.ifCond .lt 9, 3) := by decide +kernel
theorem dX11_tellsWay_64 : decode cX11_tellsWay 64 = .ok (.aload_n 0, 1) := by decide +kernel
theorem dX11_tellsWay_65 : decode cX11_tellsWay 65 = .ok (.iload_n 2, 1) := by decide +kernel
theorem dX11_tellsWay_66 : decode cX11_tellsWay 66 = .ok (.i2l, 1) := by decide +kernel
theorem dX11_tellsWay_67 : decode cX11_tellsWay 67 = .ok (.invokevirtual 262, 3) := by decide +kernel
theorem dX11_tellsWay_70 : decode cX11_tellsWay 70 = .ok (.return_, 1) := by decide +kernel
theorem dX11_all_0 : decode cX11_all 0 = .ok (.aload_n 0, 1) := by decide +kernel
theorem dX11_all_1 : decode cX11_all 1 = .ok (.iconst 0, 1) := by decide +kernel
theorem dX11_all_2 : decode cX11_all 2 = .ok (.putfield 3, 3) := by decide +kernel
theorem dX11_all_5 : decode cX11_all 5 = .ok (.aload_n 0, 1) := by decide +kernel
theorem dX11_all_6 : decode cX11_all 6 = .ok (.iload_n 1, 1) := by decide +kernel
theorem dX11_all_7 : decode cX11_all 7 = .ok (.invokevirtual 341, 3) := by decide +kernel
theorem dX11_all_10 : decode cX11_all 10 = .ok (.ifCond .ne 5, 3) := by decide +kernel
theorem dX11_all_13 : decode cX11_all 13 = .ok (.iconst (-1), 1) := by decide +kernel
theorem dX11_all_14 : decode cX11_all 14 = .ok (.ireturn, 1) := by decide +kernel
theorem dX11_all_15 : decode cX11_all 15 = .ok (.aload_n 0, 1) := by decide +kernel
theorem dX11_all_16 : decode cX11_all 16 = .ok (.invokevirtual 344, 3) := by decide +kernel
theorem dX11_all_19 : decode cX11_all 19 = .ok (.aload_n 0, 1) := by decide +kernel
theorem dX11_all_20 : decode cX11_all 20 = .ok (.iload_n 1, 1) := by decide +kernel
theorem dX11_all_21 : decode cX11_all 21 = .ok (.sipush 4000, 3) := by decide +kernel
theorem dX11_all_24 : decode cX11_all 24 = .ok (.invokevirtual 347, 3) := by decide +kernel
theorem dX11_all_27 : decode cX11_all 27 = .ok (.istore_n 2, 1) := by decide +kernel
theorem dX11_all_28 : decode cX11_all 28 = .ok (.aload_n 0, 1) := by decide +kernel
theorem dX11_all_29 : decode cX11_all 29 = .ok (.invokevirtual 350, 3) := by decide +kernel
theorem dX11_all_32 : decode cX11_all 32 = .ok (.iload_n 2, 1) := by decide +kernel
theorem dX11_all_33 : decode cX11_all 33 = .ok (.ifCond .eq 10, 3) := by decide +kernel
theorem dX11_all_36 : decode cX11_all 36 = .ok (.aload_n 0, 1) := by decide +kernel
theorem dX11_all_37 : decode cX11_all 37 = .ok (.getfield 296, 3) := by decide +kernel
theorem dX11_all_40 : decode cX11_all 40 = .ok (.goto 5, 3) := by decide +kernel
theorem dX11_all_43 : decode cX11_all 43 = .ok (.bipush (-3), 2) := by decide +kernel
theorem dX11_all_45 : decode cX11_all 45 = .ok (.ireturn, 1) := by decide +kernel
theorem dX11_isFound_0 : decode cX11_isFound 0 = .ok (.aload_n 0, 1) := by decide +kernel
theorem dX11_isFound_1 : decode cX11_isFound 1 = .ok (.getfield 353, 3) := by decide +kernel
theorem dX11_isFound_4 : decode cX11_isFound 4 = .ok (.ifCond .ne 8, 3) := by decide +kernel
theorem dX11_isFound_7 : decode cX11_isFound 7 = .ok (.aload_n 0, 1) := by decide +kernel
theorem dX11_isFound_8 : decode cX11_isFound 8 = .ok (.invokevirtual 356, 3) := by decide +kernel
theorem dX11_isFound_11 : decode cX11_isFound 11 = .ok (.ireturn, 1) := by decide +kernel
theorem dX11_isFound_12 : decode cX11_isFound 12 = .ok (.aload_n 0, 1) := by decide +kernel
theorem dX11_isFound_13 : decode cX11_isFound 13 = .ok (.getfield 353, 3) := by decide +kernel
theorem dX11_isFound_16 : decode cX11_isFound 16 = .ok (.iconst 1, 1) := by decide +kernel
theorem dX11_isFound_17 : decode cX11_isFound 17 = .ok (.if_icmp .ne 18, 3) := by decide +kernel
theorem dX11_isFound_20 : decode cX11_isFound 20 = .ok (.aload_n 0, 1) := by decide +kernel
theorem dX11_isFound_21 : decode cX11_isFound 21 = .ok (.bipush 73, 2) := by decide +kernel
theorem dX11_isFound_23 : decode cX11_isFound 23 = .ok (.invokevirtual 195, 3) := by decide +kernel
theorem dX11_isFound_26 : decode cX11_isFound 26 = .ok (.ifCond .eq 7, 3) := by decide +kernel
theorem dX11_isFound_29 : decode cX11_isFound 29 = .ok (.iconst 1, 1) := by decide +kernel
theorem dX11_isFound_30 : decode cX11_isFound 30 = .ok (.goto 4, 3) := by decide +kernel
theorem dX11_isFound_33 : decode cX11_isFound 33 = .ok (.iconst 0, 1) := by decide +kernel
theorem dX11_isFound_34 : decode cX11_isFound 34 = .ok (.ireturn, 1) := by decide +kernel
theorem dX11_isFound_35 : decode cX11_isFound 35 = .ok (.aload_n 0, 1) := by decide +kernel
theorem dX11_isFound_36 : decode cX11_isFound 36 = .ok (.getfield 176, 3) := by decide +kernel
theorem dX11_isFound_39 : decode cX11_isFound 39 = .ok (.ifCond .eq 16, 3) := by decide +kernel
theorem dX11_isFound_42 : decode cX11_isFound 42 = .ok (.aload_n 0, 1) := by decide +kernel
theorem dX11_isFound_43 : decode cX11_isFound 43 = .ok (.getfield 214, 3) := by decide +kernel
theorem dX11_isFound_46 : decode cX11_isFound 46 = .ok (.iconst 1, 1) := by decide +kernel
theorem dX11_isFound_47 : decode cX11_isFound 47 = .ok (.aload_n 0, 1) := by decide +kernel
theorem dX11_isFound_48 : decode cX11_isFound 48 = .ok (.getfield 359, 3) := by decide +kernel
theorem dX11_isFound_51 : decode cX11_isFound 51 = .ok (.ishl, 1) := by decide +kernel
theorem dX11_isFound_52 : decode cX11_isFound 52 = .ok (.if_icmp .eq 5, 3) := by decide +kernel
theorem dX11_isFound_55 : decode cX11_isFound 55 = .ok (.iconst 0, 1) := by decide +kernel
theorem dX11_isFound_56 : decode cX11_isFound 56 = .ok (.ireturn, 1) := by decide +kernel
theorem dX11_isFound_57 : decode cX11_isFound 57 = .ok (.aload_n 0, 1) := by decide +kernel
theorem dX11_isFound_58 : decode cX11_isFound 58 = .ok (.iconst 1, 1) := by decide +kernel
theorem dX11_isFound_59 : decode cX11_isFound 59 = .ok (.putfield 173, 3) := by decide +kernel
theorem dX11_isFound_62 : decode cX11_isFound 62 = .ok (.aload_n 0, 1) := by decide +kernel
theorem dX11_isFound_63 : decode cX11_isFound 63 = .ok (.iconst 0, 1) := by decide +kernel
theorem dX11_isFound_64 : decode cX11_isFound 64 = .ok (.putfield 176, 3) := by decide +kernel
theorem dX11_isFound_67 : decode cX11_isFound 67 = .ok (.aload_n 0, 1) := by decide +kernel
theorem dX11_isFound_68 : decode cX11_isFound 68 = .ok (.invokevirtual 356, 3) := by decide +kernel
theorem dX11_isFound_71 : decode cX11_isFound 71 = .ok (.ireturn, 1) := by decide +kernel
theorem dX11_finds_0 : decode cX11_finds 0 = .ok (.aload_n 0, 1) := by decide +kernel
theorem dX11_finds_1 : decode cX11_finds 1 = .ok (.iload_n 1, 1) := by decide +kernel
theorem dX11_finds_2 : decode cX11_finds 2 = .ok (.sipush 4000, 3) := by decide +kernel
theorem dX11_finds_5 : decode cX11_finds 5 = .ok (.invokevirtual 347, 3) := by decide +kernel
theorem dX11_finds_8 : decode cX11_finds 8 = .ok (.ifCond .ne 6, 3) := by decide +kernel
theorem dX11_finds_11 : decode cX11_finds 11 = .ok (.bipush (-3), 2) := by decide +kernel
theorem dX11_finds_13 : decode cX11_finds 13 = .ok (.ireturn, 1) := by decide +kernel
theorem dX11_finds_14 : decode cX11_finds 14 = .ok (.aload_n 0, 1) := by decide +kernel
theorem dX11_finds_15 : decode cX11_finds 15 = .ok (.getfield 296, 3) := by decide +kernel
theorem dX11_finds_18 : decode cX11_finds 18 = .ok (.istore_n 2, 1) := by decide +kernel
theorem dX11_finds_19 : decode cX11_finds 19 = .ok (.iconst 0, 1) := by decide +kernel
theorem dX11_finds_20 : decode cX11_finds 20 = .ok (.istore_n 3, 1) := by decide +kernel
theorem dX11_finds_21 : decode cX11_finds 21 = .ok (.iload_n 3, 1) := by decide +kernel
theorem dX11_finds_22 : decode cX11_finds 22 = .ok (.iload_n 2, 1) := by decide +kernel
theorem dX11_finds_23 : decode cX11_finds 23 = .ok (.if_icmp .ge 67, 3) := by decide +kernel
theorem dX11_finds_26 : decode cX11_finds 26 = .ok (.iconst 0, 1) := by decide +kernel
theorem dX11_finds_27 : decode cX11_finds 27 = .ok (.istore 4, 2) := by decide +kernel
theorem dX11_finds_29 : decode cX11_finds 29 = .ok (.iload 4, 2) := by decide +kernel
theorem dX11_finds_31 : decode cX11_finds 31 = .ok (.aload_n 0, 1) := by decide +kernel
theorem dX11_finds_32 : decode cX11_finds 32 = .ok (.invokevirtual 251, 3) := by decide +kernel
theorem dX11_finds_35 : decode cX11_finds 35 = .ok (.if_icmp .ge 49, 3) := by decide +kernel
theorem dX11_finds_38 : decode cX11_finds 38 = .ok (.aload_n 0, 1) := by decide +kernel
theorem dX11_finds_39 : decode cX11_finds 39 = .ok (.getfield 327, 3) := by decide +kernel
theorem dX11_finds_42 : decode cX11_finds 42 = .ok (.iload_n 3, 1) := by decide +kernel
theorem dX11_finds_43 : decode cX11_finds 43 = .ok (.iaload, 1) := by decide +kernel
theorem dX11_finds_44 : decode cX11_finds 44 = .ok (.iload_n 1, 1) := by decide +kernel
theorem dX11_finds_45 : decode cX11_finds 45 = .ok (.if_icmp .ge 39, 3) := by decide +kernel
theorem dX11_finds_48 : decode cX11_finds 48 = .ok (.aload_n 0, 1) := by decide +kernel
theorem dX11_finds_49 : decode cX11_finds 49 = .ok (.iload_n 3, 1) := by decide +kernel
theorem dX11_finds_50 : decode cX11_finds 50 = .ok (.iload 4, 2) := by decide +kernel
theorem dX11_finds_52 : decode cX11_finds 52 = .ok (.invokevirtual 318, 3) := by decide +kernel
theorem dX11_finds_55 : decode cX11_finds 55 = .ok (.aload_n 0, 1) := by decide +kernel
theorem dX11_finds_56 : decode cX11_finds 56 = .ok (.invokevirtual 362, 3) := by decide +kernel
theorem dX11_finds_59 : decode cX11_finds 59 = .ok (.ifCond .eq 19, 3) := by decide +kernel
theorem dX11_finds_62 : decode cX11_finds 62 = .ok (.aload_n 0, 1) := by decide +kernel
theorem dX11_finds_63 : decode cX11_finds 63 = .ok (.iload_n 3, 1) := by decide +kernel
theorem dX11_finds_64 : decode cX11_finds 64 = .ok (.iload 4, 2) := by decide +kernel
theorem dX11_finds_66 : decode cX11_finds 66 = .ok (.invokevirtual 365, 3) := by decide +kernel
theorem dX11_finds_69 : decode cX11_finds 69 = .ok (.aload_n 0, 1) := by decide +kernel
theorem dX11_finds_70 : decode cX11_finds 70 = .ok (.getfield 327, 3) := by decide +kernel
theorem dX11_finds_73 : decode cX11_finds 73 = .ok (.iload_n 3, 1) := by decide +kernel
theorem dX11_finds_74 : decode cX11_finds 74 = .ok (.iaload, 1) := by decide +kernel
theorem dX11_finds_75 : decode cX11_finds 75 = .ok (.iconst 1, 1) := by decide +kernel
theorem dX11_finds_76 : decode cX11_finds 76 = .ok (.iadd, 1) := by decide +kernel
theorem dX11_finds_77 : decode cX11_finds 77 = .ok (.ireturn, 1) := by decide +kernel
theorem dX11_finds_78 : decode cX11_finds 78 = .ok (.iinc 4 1, 3) := by decide +kernel
theorem dX11_finds_81 : decode cX11_finds 81 = .ok (.goto (-52), 3) := by decide +kernel
theorem dX11_finds_84 : decode cX11_finds 84 = .ok (.iinc 3 1, 3) := by decide +kernel
theorem dX11_finds_87 : decode cX11_finds 87 = .ok (.goto (-66), 3) := by decide +kernel
theorem dX11_finds_90 : decode cX11_finds 90 = .ok (.bipush (-2), 2) := by decide +kernel
theorem dX11_finds_92 : decode cX11_finds 92 = .ok (.ireturn, 1) := by decide +kernel
theorem dX11_never_0 : decode cX11_never 0 = .ok (.aload_n 0, 1) := by decide +kernel
theorem dX11_never_1 : decode cX11_never 1 = .ok (.iconst 0, 1) := by decide +kernel
theorem dX11_never_2 : decode cX11_never 2 = .ok (.putfield 3, 3) := by decide +kernel
theorem dX11_never_5 : decode cX11_never 5 = .ok (.aload_n 0, 1) := by decide +kernel
theorem dX11_never_6 : decode cX11_never 6 = .ok (.iload_n 1, 1) := by decide +kernel
theorem dX11_never_7 : decode cX11_never 7 = .ok (.invokevirtual 341, 3) := by decide +kernel
theorem dX11_never_10 : decode cX11_never 10 = .ok (.ifCond .ne 5, 3) := by decide +kernel
theorem dX11_never_13 : decode cX11_never 13 = .ok (.iconst (-1), 1) := by decide +kernel
theorem dX11_never_14 : decode cX11_never 14 = .ok (.ireturn, 1) := by decide +kernel
theorem dX11_never_15 : decode cX11_never 15 = .ok (.aload_n 0, 1) := by decide +kernel
theorem dX11_never_16 : decode cX11_never 16 = .ok (.invokevirtual 344, 3) := by decide +kernel
theorem dX11_never_19 : decode cX11_never 19 = .ok (.aload_n 0, 1) := by decide +kernel
theorem dX11_never_20 : decode cX11_never 20 = .ok (.iconst 0, 1) := by decide +kernel
theorem dX11_never_21 : decode cX11_never 21 = .ok (.putfield 353, 3) := by decide +kernel
theorem dX11_never_24 : decode cX11_never 24 = .ok (.aload_n 0, 1) := by decide +kernel
theorem dX11_never_25 : decode cX11_never 25 = .ok (.iload_n 1, 1) := by decide +kernel
theorem dX11_never_26 : decode cX11_never 26 = .ok (.invokevirtual 368, 3) := by decide +kernel
theorem dX11_never_29 : decode cX11_never 29 = .ok (.istore_n 2, 1) := by decide +kernel
theorem dX11_never_30 : decode cX11_never 30 = .ok (.aload_n 0, 1) := by decide +kernel
theorem dX11_never_31 : decode cX11_never 31 = .ok (.invokevirtual 350, 3) := by decide +kernel
theorem dX11_never_34 : decode cX11_never 34 = .ok (.iload_n 2, 1) := by decide +kernel
theorem dX11_never_35 : decode cX11_never 35 = .ok (.ireturn, 1) := by decide +kernel
theorem dX11_reach_0 : decode cX11_reach 0 = .ok (.aload_n 0, 1) := by decide +kernel
theorem dX11_reach_1 : decode cX11_reach 1 = .ok (.iconst 0, 1) := by decide +kernel
theorem dX11_reach_2 : decode cX11_reach 2 = .ok (.putfield 3, 3) := by decide +kernel
theorem dX11_reach_5 : decode cX11_reach 5 = .ok (.aload_n 0, 1) := by decide +kernel
theorem dX11_reach_6 : decode cX11_reach 6 = .ok (.invokevirtual 259, 3) := by decide +kernel
theorem dX11_reach_9 : decode cX11_reach 9 = .ok (.istore_n 2, 1) := by decide +kernel
theorem dX11_reach_10 : decode cX11_reach 10 = .ok (.aload_n 0, 1) := by decide +kernel
theorem dX11_reach_11 : decode cX11_reach 11 = .ok (.iload_n 1, 1) := by decide +kernel
theorem dX11_reach_12 : decode cX11_reach 12 = .ok (.invokevirtual 341, 3) := by decide +kernel
theorem dX11_reach_15 : decode cX11_reach 15 = .ok (.ifCond .ne 5, 3) := by decide +kernel
theorem dX11_reach_18 : decode cX11_reach 18 = .ok (.iconst (-1), 1) := by decide +kernel
theorem dX11_reach_19 : decode cX11_reach 19 = .ok (.ireturn, 1) := by decide +kernel
theorem dX11_reach_20 : decode cX11_reach 20 = .ok (.iload_n 2, 1) := by decide +kernel
theorem dX11_reach_21 : decode cX11_reach 21 = .ok (.ifCond .ge 8, 3) := by decide +kernel
theorem dX11_reach_24 : decode cX11_reach 24 = .ok (.bipush (-99), 2) := by decide +kernel
theorem dX11_reach_26 : decode cX11_reach 26 = .ok (.iload_n 2, 1) := by decide +kernel
theorem dX11_reach_27 : decode cX11_reach 27 = .ok (.iadd, 1) := by decide +kernel
theorem dX11_reach_28 : decode cX11_reach 28 = .ok (.ireturn, 1) := by decide +kernel
theorem dX11_reach_29 : decode cX11_reach 29 = .ok (.aload_n 0, 1) := by decide +kernel
theorem dX11_reach_30 : decode cX11_reach 30 = .ok (.invokevirtual 344, 3) := by decide +kernel
theorem dX11_reach_33 : decode cX11_reach 33 = .ok (.aload_n 0, 1) := by decide +kernel
theorem dX11_reach_34 : decode cX11_reach 34 = .ok (.iload_n 1, 1) := by decide +kernel
theorem dX11_reach_35 : decode cX11_reach 35 = .ok (.sipush 4000, 3) := by decide +kernel
theorem dX11_reach_38 : decode cX11_reach 38 = .ok (.invokevirtual 347, 3) := by decide +kernel
theorem dX11_reach_41 : decode cX11_reach 41 = .ok (.istore_n 3, 1) := by decide +kernel
theorem dX11_reach_42 : decode cX11_reach 42 = .ok (.aload_n 0, 1) := by decide +kernel
theorem dX11_reach_43 : decode cX11_reach 43 = .ok (.invokevirtual 350, 3) := by decide +kernel
theorem dX11_reach_46 : decode cX11_reach 46 = .ok (.iload_n 3, 1) := by decide +kernel
theorem dX11_reach_47 : decode cX11_reach 47 = .ok (.ifCond .ne 6, 3) := by decide +kernel
theorem dX11_reach_50 : decode cX11_reach 50 = .ok (.bipush (-3), 2) := by decide +kernel
theorem dX11_reach_52 : decode cX11_reach 52 = .ok (.ireturn, 1) := by decide +kernel
theorem dX11_reach_53 : decode cX11_reach 53 = .ok (.aload_n 0, 1) := by decide +kernel
theorem dX11_reach_54 : decode cX11_reach 54 = .ok (.bipush 73, 2) := by decide +kernel
theorem dX11_reach_56 : decode cX11_reach 56 = .ok (.invokevirtual 195, 3) := by decide +kernel
theorem dX11_reach_59 : decode cX11_reach 59 = .ok (.ifCond .eq 10, 3) := by decide +kernel
theorem dX11_reach_62 : decode cX11_reach 62 = .ok (.aload_n 0, 1) := by decide +kernel
theorem dX11_reach_63 : decode cX11_reach 63 = .ok (.iconst 0, 1) := by decide +kernel
theorem dX11_reach_64 : decode cX11_reach 64 = .ok (.putfield 11, 3) := by decide +kernel
theorem dX11_reach_67 : decode cX11_reach 67 = .ok (.iconst 0, 1) := by decide +kernel
theorem dX11_reach_68 : decode cX11_reach 68 = .ok (.ireturn, 1) := by decide +kernel
theorem dX11_reach_69 : decode cX11_reach 69 = .ok (.aload_n 0, 1) := by decide +kernel
theorem dX11_reach_70 : decode cX11_reach 70 = .ok (.iconst 1, 1) := by decide +kernel
theorem dX11_reach_71 : decode cX11_reach 71 = .ok (.putfield 353, 3) := by decide +kernel
theorem dX11_reach_74 : decode cX11_reach 74 = .ok (.aload_n 0, 1) := by decide +kernel
theorem dX11_reach_75 : decode cX11_reach 75 = .ok (.iload_n 1, 1) := by decide +kernel
theorem dX11_reach_76 : decode cX11_reach 76 = .ok (.invokevirtual 368, 3) := by decide +kernel
theorem dX11_reach_79 : decode cX11_reach 79 = .ok (.istore_n 2, 1) := by decide +kernel
theorem dX11_reach_80 : decode cX11_reach 80 = .ok (.aload_n 0, 1) := by decide +kernel
theorem dX11_reach_81 : decode cX11_reach 81 = .ok (.invokevirtual 350, 3) := by decide +kernel
theorem dX11_reach_84 : decode cX11_reach 84 = .ok (.iload_n 2, 1) := by decide +kernel
theorem dX11_reach_85 : decode cX11_reach 85 = .ok (.ireturn, 1) := by decide +kernel
theorem dX11_stuck_0 : decode cX11_stuck 0 = .ok (.aload_n 0, 1) := by decide +kernel
theorem dX11_stuck_1 : decode cX11_stuck 1 = .ok (.iconst 0, 1) := by decide +kernel
theorem dX11_stuck_2 : decode cX11_stuck 2 = .ok (.putfield 3, 3) := by decide +kernel
theorem dX11_stuck_5 : decode cX11_stuck 5 = .ok (.aload_n 0, 1) := by decide +kernel
theorem dX11_stuck_6 : decode cX11_stuck 6 = .ok (.iload_n 1, 1) := by decide +kernel
theorem dX11_stuck_7 : decode cX11_stuck 7 = .ok (.invokevirtual 341, 3) := by decide +kernel
theorem dX11_stuck_10 : decode cX11_stuck 10 = .ok (.ifCond .ne 5, 3) := by decide +kernel
theorem dX11_stuck_13 : decode cX11_stuck 13 = .ok (.iconst (-1), 1) := by decide +kernel
theorem dX11_stuck_14 : decode cX11_stuck 14 = .ok (.ireturn, 1) := by decide +kernel
theorem dX11_stuck_15 : decode cX11_stuck 15 = .ok (.aload_n 0, 1) := by decide +kernel
theorem dX11_stuck_16 : decode cX11_stuck 16 = .ok (.invokevirtual 344, 3) := by decide +kernel
theorem dX11_stuck_19 : decode cX11_stuck 19 = .ok (.aload_n 0, 1) := by decide +kernel
theorem dX11_stuck_20 : decode cX11_stuck 20 = .ok (.iload_n 1, 1) := by decide +kernel
theorem dX11_stuck_21 : decode cX11_stuck 21 = .ok (.sipush 4000, 3) := by decide +kernel
theorem dX11_stuck_24 : decode cX11_stuck 24 = .ok (.invokevirtual 347, 3) := by decide +kernel
theorem dX11_stuck_27 : decode cX11_stuck 27 = .ok (.ifCond .eq 8, 3) := by decide +kernel
theorem dX11_stuck_30 : decode cX11_stuck 30 = .ok (.bipush (-2), 2) := by decide +kernel
theorem dX11_stuck_32 : decode cX11_stuck 32 = .ok (.goto 5, 3) := by decide +kernel
theorem dX11_stuck_35 : decode cX11_stuck 35 = .ok (.bipush (-3), 2) := by decide +kernel
theorem dX11_stuck_37 : decode cX11_stuck 37 = .ok (.istore_n 2, 1) := by decide +kernel
theorem dX11_stuck_38 : decode cX11_stuck 38 = .ok (.aload_n 0, 1) := by decide +kernel
theorem dX11_stuck_39 : decode cX11_stuck 39 = .ok (.getfield 296, 3) := by decide +kernel
theorem dX11_stuck_42 : decode cX11_stuck 42 = .ok (.istore_n 3, 1) := by decide +kernel
theorem dX11_stuck_43 : decode cX11_stuck 43 = .ok (.iconst 0, 1) := by decide +kernel
theorem dX11_stuck_44 : decode cX11_stuck 44 = .ok (.istore 4, 2) := by decide +kernel
theorem dX11_stuck_46 : decode cX11_stuck 46 = .ok (.iload 4, 2) := by decide +kernel
theorem dX11_stuck_48 : decode cX11_stuck 48 = .ok (.iload_n 3, 1) := by decide +kernel
theorem dX11_stuck_49 : decode cX11_stuck 49 = .ok (.if_icmp .ge 121, 3) := by decide +kernel
theorem dX11_stuck_52 : decode cX11_stuck 52 = .ok (.iload_n 2, 1) := by decide +kernel
theorem dX11_stuck_53 : decode cX11_stuck 53 = .ok (.bipush (-2), 2) := by decide +kernel
theorem dX11_stuck_55 : decode cX11_stuck 55 = .ok (.if_icmp .ne 115, 3) := by decide +kernel
theorem dX11_stuck_58 : decode cX11_stuck 58 = .ok (.aload_n 0, 1) := by decide +kernel
theorem dX11_stuck_59 : decode cX11_stuck 59 = .ok (.getfield 327, 3) := by decide +kernel
theorem dX11_stuck_62 : decode cX11_stuck 62 = .ok (.iload 4, 2) := by decide +kernel
theorem dX11_stuck_64 : decode cX11_stuck 64 = .ok (.iaload, 1) := by decide +kernel
theorem dX11_stuck_65 : decode cX11_stuck 65 = .ok (.iload_n 1, 1) := by decide +kernel
theorem dX11_stuck_66 : decode cX11_stuck 66 = .ok (.if_icmp .ge 7, 3) := by decide +kernel
theorem dX11_stuck_69 : decode cX11_stuck 69 = .ok (.iconst 1, 1) := by decide +kernel
theorem dX11_stuck_70 : decode cX11_stuck 70 = .ok (.goto 4, 3) := by decide +kernel
theorem dX11_stuck_73 : decode cX11_stuck 73 = .ok (.iconst 0, 1) := by decide +kernel
theorem dX11_stuck_74 : decode cX11_stuck 74 = .ok (.istore 5, 2) := by decide +kernel
theorem dX11_stuck_76 : decode cX11_stuck 76 = .ok (.iconst 0, 1) := by decide +kernel
theorem dX11_stuck_77 : decode cX11_stuck 77 = .ok (.istore 6, 2) := by decide +kernel
theorem dX11_stuck_79 : decode cX11_stuck 79 = .ok (.iload 6, 2) := by decide +kernel
theorem dX11_stuck_81 : decode cX11_stuck 81 = .ok (.aload_n 0, 1) := by decide +kernel
theorem dX11_stuck_82 : decode cX11_stuck 82 = .ok (.invokevirtual 251, 3) := by decide +kernel
theorem dX11_stuck_85 : decode cX11_stuck 85 = .ok (.if_icmp .ge 59, 3) := by decide +kernel
theorem dX11_stuck_88 : decode cX11_stuck 88 = .ok (.iload 5, 2) := by decide +kernel
theorem dX11_stuck_90 : decode cX11_stuck 90 = .ok (.ifCond .eq 54, 3) := by decide +kernel
theorem dX11_stuck_93 : decode cX11_stuck 93 = .ok (.aload_n 0, 1) := by decide +kernel
theorem dX11_stuck_94 : decode cX11_stuck 94 = .ok (.iload 4, 2) := by decide +kernel
theorem dX11_stuck_96 : decode cX11_stuck 96 = .ok (.iload 6, 2) := by decide +kernel
theorem dX11_stuck_98 : decode cX11_stuck 98 = .ok (.invokevirtual 318, 3) := by decide +kernel
theorem dX11_stuck_101 : decode cX11_stuck 101 = .ok (.aload_n 0, 1) := by decide +kernel
theorem dX11_stuck_102 : decode cX11_stuck 102 = .ok (.invokevirtual 266, 3) := by decide +kernel
theorem dX11_stuck_105 : decode cX11_stuck 105 = .ok (.aload_n 0, 1) := by decide +kernel
theorem dX11_stuck_106 : decode cX11_stuck 106 = .ok (.getfield 312, 3) := by decide +kernel
theorem dX11_stuck_109 : decode cX11_stuck 109 = .ok (.iload 4, 2) := by decide +kernel
theorem dX11_stuck_111 : decode cX11_stuck 111 = .ok (.laload, 1) := by decide +kernel
theorem dX11_stuck_112 : decode cX11_stuck 112 = .ok (.lcmp, 1) := by decide +kernel
theorem dX11_stuck_113 : decode cX11_stuck 113 = .ok (.ifCond .ne 22, 3) := by decide +kernel
theorem dX11_stuck_116 : decode cX11_stuck 116 = .ok (.aload_n 0, 1) := by decide +kernel
theorem dX11_stuck_117 : decode cX11_stuck 117 = .ok (.invokevirtual 274, 3) := by decide +kernel
theorem dX11_stuck_120 : decode cX11_stuck 120 = .ok (.aload_n 0, 1) := by decide +kernel
theorem dX11_stuck_121 : decode cX11_stuck 121 = .ok (.getfield 315, 3) := by decide +kernel
theorem dX11_stuck_124 : decode cX11_stuck 124 = .ok (.iload 4, 2) := by decide +kernel
theorem dX11_stuck_126 : decode cX11_stuck 126 = .ok (.laload, 1) := by decide +kernel
theorem dX11_stuck_127 : decode cX11_stuck 127 = .ok (.lcmp, 1) := by decide +kernel
theorem dX11_stuck_128 : decode cX11_stuck 128 = .ok (.ifCond .ne 7, 3) := by decide +kernel
theorem dX11_stuck_131 : decode cX11_stuck 131 = .ok (.iconst 1, 1) := by decide +kernel
theorem dX11_stuck_132 : decode cX11_stuck 132 = .ok (.goto 4, 3) := by decide +kernel
theorem dX11_stuck_135 : decode cX11_stuck 135 = .ok (.iconst 0, 1) := by decide +kernel
theorem dX11_stuck_136 : decode cX11_stuck 136 = .ok (.istore 5, 2) := by decide +kernel
theorem dX11_stuck_138 : decode cX11_stuck 138 = .ok (.iinc 6 1, 3) := by decide +kernel
theorem dX11_stuck_141 : decode cX11_stuck 141 = .ok (.goto (-62), 3) := by decide +kernel
theorem dX11_stuck_144 : decode cX11_stuck 144 = .ok (.iload 5, 2) := by decide +kernel
theorem dX11_stuck_146 : decode cX11_stuck 146 = .ok (.ifCond .eq 18, 3) := by decide +kernel
theorem dX11_stuck_149 : decode cX11_stuck 149 = .ok (.aload_n 0, 1) := by decide +kernel
theorem dX11_stuck_150 : decode cX11_stuck 150 = .ok (.iload 4, 2) := by decide +kernel
theorem dX11_stuck_152 : decode cX11_stuck 152 = .ok (.iconst (-1), 1) := by decide +kernel
theorem dX11_stuck_153 : decode cX11_stuck 153 = .ok (.invokevirtual 365, 3) := by decide +kernel
theorem dX11_stuck_156 : decode cX11_stuck 156 = .ok (.aload_n 0, 1) := by decide +kernel
theorem dX11_stuck_157 : decode cX11_stuck 157 = .ok (.getfield 327, 3) := by decide +kernel
theorem dX11_stuck_160 : decode cX11_stuck 160 = .ok (.iload 4, 2) := by decide +kernel
theorem dX11_stuck_162 : decode cX11_stuck 162 = .ok (.iaload, 1) := by decide +kernel
theorem dX11_stuck_163 : decode cX11_stuck 163 = .ok (.istore_n 2, 1) := by decide +kernel
theorem dX11_stuck_164 : decode cX11_stuck 164 = .ok (.iinc 4 1, 3) := by decide +kernel
theorem dX11_stuck_167 : decode cX11_stuck 167 = .ok (.goto (-121), 3) := by decide +kernel
theorem dX11_stuck_170 : decode cX11_stuck 170 = .ok (.aload_n 0, 1) := by decide +kernel
theorem dX11_stuck_171 : decode cX11_stuck 171 = .ok (.invokevirtual 350, 3) := by decide +kernel
theorem dX11_stuck_174 : decode cX11_stuck 174 = .ok (.iload_n 2, 1) := by decide +kernel
theorem dX11_stuck_175 : decode cX11_stuck 175 = .ok (.ireturn, 1) := by decide +kernel
theorem dX11_weighs_0 : decode cX11_weighs 0 = .ok (.aload_n 0, 1) := by decide +kernel
theorem dX11_weighs_1 : decode cX11_weighs 1 = .ok (.getfield 296, 3) := by decide +kernel
theorem dX11_weighs_4 : decode cX11_weighs 4 = .ok (.istore 4, 2) := by decide +kernel
theorem dX11_weighs_6 : decode cX11_weighs 6 = .ok (.aload_n 0, 1) := by decide +kernel
theorem dX11_weighs_7 : decode cX11_weighs 7 = .ok (.invokevirtual 251, 3) := by decide +kernel
theorem dX11_weighs_10 : decode cX11_weighs 10 = .ok (.istore 5, 2) := by decide +kernel
theorem dX11_weighs_12 : decode cX11_weighs 12 = .ok (.iconst 0, 1) := by decide +kernel
theorem dX11_weighs_13 : decode cX11_weighs 13 = .ok (.istore 6, 2) := by decide +kernel
theorem dX11_weighs_15 : decode cX11_weighs 15 = .ok (.iload 6, 2) := by decide +kernel
theorem dX11_weighs_17 : decode cX11_weighs 17 = .ok (.iload 4, 2) := by decide +kernel
theorem dX11_weighs_19 : decode cX11_weighs 19 = .ok (.if_icmp .ge 91, 3) := by decide +kernel
theorem dX11_weighs_22 : decode cX11_weighs 22 = .ok (.iconst 0, 1) := by decide +kernel
theorem dX11_weighs_23 : decode cX11_weighs 23 = .ok (.istore 7, 2) := by decide +kernel
theorem dX11_weighs_25 : decode cX11_weighs 25 = .ok (.iload 7, 2) := by decide +kernel
theorem dX11_weighs_27 : decode cX11_weighs 27 = .ok (.iload 5, 2) := by decide +kernel
theorem dX11_weighs_29 : decode cX11_weighs 29 = .ok (.if_icmp .ge 75, 3) := by decide +kernel
theorem dX11_weighs_32 : decode cX11_weighs 32 = .ok (.aload_n 0, 1) := by decide +kernel
