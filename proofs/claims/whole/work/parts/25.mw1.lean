theorem dM_four_0 : decode cM_four 0 = .ok (.bipush 24, 2) := by decide +kernel
theorem dM_four_2 : decode cM_four 2 = .ok (.istore_n 2, 1) := by decide +kernel
theorem dM_four_3 : decode cM_four 3 = .ok (.iload_n 2, 1) := by decide +kernel
theorem dM_four_4 : decode cM_four 4 = .ok (.ifCond .lt 35, 3) := by decide +kernel
theorem dM_four_7 : decode cM_four 7 = .ok (.aload_n 0, 1) := by decide +kernel
theorem dM_four_8 : decode cM_four 8 = .ok (.getfield 7, 3) := by decide +kernel
theorem dM_four_11 : decode cM_four 11 = .ok (.aload_n 0, 1) := by decide +kernel
theorem dM_four_12 : decode cM_four 12 = .ok (.getfield 41, 3) := by decide +kernel
theorem dM_four_15 : decode cM_four 15 = .ok (.iload_n 1, 1) := by decide +kernel
theorem dM_four_16 : decode cM_four 16 = .ok (.iload_n 2, 1) := by decide +kernel
theorem dM_four_17 : decode cM_four 17 = .ok (.ishr, 1) := by decide +kernel
theorem dM_four_18 : decode cM_four 18 = .ok (.sipush 255, 3) := by decide +kernel
theorem dM_four_21 : decode cM_four 21 = .ok (.iand, 1) := by decide +kernel
theorem dM_four_22 : decode cM_four 22 = .ok (.iastore, 1) := by decide +kernel
theorem dM_four_23 : decode cM_four 23 = .ok (.aload_n 0, 1) := by decide +kernel
theorem dM_four_24 : decode cM_four 24 = .ok (.dup, 1) := by decide +kernel
theorem dM_four_25 : decode cM_four 25 = .ok (.getfield 41, 3) := by decide +kernel
theorem dM_four_28 : decode cM_four 28 = .ok (.iconst 1, 1) := by decide +kernel
theorem dM_four_29 : decode cM_four 29 = .ok (.iadd, 1) := by decide +kernel
theorem dM_four_30 : decode cM_four 30 = .ok (.putfield 41, 3) := by decide +kernel
theorem dM_four_33 : decode cM_four 33 = .ok (.iinc 2 (-8), 3) := by decide +kernel
theorem dM_four_36 : decode cM_four 36 = .ok (.goto (-33), 3) := by decide +kernel
theorem dM_four_39 : decode cM_four 39 = .ok (.return_, 1) := by decide +kernel
theorem dM_feed_0 : decode cM_feed 0 = .ok (.aload_n 0, 1) := by decide +kernel
theorem dM_feed_1 : decode cM_feed 1 = .ok (.getfield 41, 3) := by decide +kernel
theorem dM_feed_4 : decode cM_feed 4 = .ok (.bipush 20, 2) := by decide +kernel
theorem dM_feed_6 : decode cM_feed 6 = .ok (.iadd, 1) := by decide +kernel
theorem dM_feed_7 : decode cM_feed 7 = .ok (.sipush 240, 3) := by decide +kernel
theorem dM_feed_10 : decode cM_feed 10 = .ok (.if_icmp .le 5, 3) := by decide +kernel
theorem dM_feed_13 : decode cM_feed 13 = .ok (.iconst (-1), 1) := by decide +kernel
theorem dM_feed_14 : decode cM_feed 14 = .ok (.ireturn, 1) := by decide +kernel
theorem dM_feed_15 : decode cM_feed 15 = .ok (.aload_n 0, 1) := by decide +kernel
theorem dM_feed_16 : decode cM_feed 16 = .ok (.iload_n 1, 1) := by decide +kernel
theorem dM_feed_17 : decode cM_feed 17 = .ok (.invokevirtual 44, 3) := by decide +kernel
theorem dM_feed_20 : decode cM_feed 20 = .ok (.aload_n 0, 1) := by decide +kernel
theorem dM_feed_21 : decode cM_feed 21 = .ok (.iload_n 2, 1) := by decide +kernel
theorem dM_feed_22 : decode cM_feed 22 = .ok (.invokevirtual 44, 3) := by decide +kernel
theorem dM_feed_25 : decode cM_feed 25 = .ok (.aload_n 0, 1) := by decide +kernel
theorem dM_feed_26 : decode cM_feed 26 = .ok (.iload_n 3, 1) := by decide +kernel
theorem dM_feed_27 : decode cM_feed 27 = .ok (.invokevirtual 44, 3) := by decide +kernel
theorem dM_feed_30 : decode cM_feed 30 = .ok (.aload_n 0, 1) := by decide +kernel
theorem dM_feed_31 : decode cM_feed 31 = .ok (.iload 4, 2) := by decide +kernel
theorem dM_feed_33 : decode cM_feed 33 = .ok (.invokevirtual 44, 3) := by decide +kernel
theorem dM_feed_36 : decode cM_feed 36 = .ok (.aload_n 0, 1) := by decide +kernel
theorem dM_feed_37 : decode cM_feed 37 = .ok (.iload 5, 2) := by decide +kernel
theorem dM_feed_39 : decode cM_feed 39 = .ok (.invokevirtual 44, 3) := by decide +kernel
theorem dM_feed_42 : decode cM_feed 42 = .ok (.aload_n 0, 1) := by decide +kernel
theorem dM_feed_43 : decode cM_feed 43 = .ok (.getfield 41, 3) := by decide +kernel
theorem dM_feed_46 : decode cM_feed 46 = .ok (.ireturn, 1) := by decide +kernel
theorem dM_end_0 : decode cM_end 0 = .ok (.iload_n 1, 1) := by decide +kernel
theorem dM_end_1 : decode cM_end 1 = .ok (.ifCond .lt 11, 3) := by decide +kernel
theorem dM_end_4 : decode cM_end 4 = .ok (.iload_n 1, 1) := by decide +kernel
theorem dM_end_5 : decode cM_end 5 = .ok (.aload_n 0, 1) := by decide +kernel
theorem dM_end_6 : decode cM_end 6 = .ok (.getfield 41, 3) := by decide +kernel
theorem dM_end_9 : decode cM_end 9 = .ok (.if_icmp .le 5, 3) := by decide +kernel
theorem dM_end_12 : decode cM_end 12 = .ok (.iconst (-1), 1) := by decide +kernel
theorem dM_end_13 : decode cM_end 13 = .ok (.ireturn, 1) := by decide +kernel
theorem dM_end_14 : decode cM_end 14 = .ok (.aload_n 0, 1) := by decide +kernel
theorem dM_end_15 : decode cM_end 15 = .ok (.iload_n 1, 1) := by decide +kernel
theorem dM_end_16 : decode cM_end 16 = .ok (.putfield 41, 3) := by decide +kernel
theorem dM_end_19 : decode cM_end 19 = .ok (.iload_n 1, 1) := by decide +kernel
theorem dM_end_20 : decode cM_end 20 = .ok (.ireturn, 1) := by decide +kernel
theorem dM_isRegister_0 : decode cM_isRegister 0 = .ok (.iload_n 0, 1) := by decide +kernel
theorem dM_isRegister_1 : decode cM_isRegister 1 = .ok (.ifCond .lt 13, 3) := by decide +kernel
theorem dM_isRegister_4 : decode cM_isRegister 4 = .ok (.iload_n 0, 1) := by decide +kernel
theorem dM_isRegister_5 : decode cM_isRegister 5 = .ok (.bipush 10, 2) := by decide +kernel
theorem dM_isRegister_7 : decode cM_isRegister 7 = .ok (.if_icmp .ge 7, 3) := by decide +kernel
theorem dM_isRegister_10 : decode cM_isRegister 10 = .ok (.iconst 1, 1) := by decide +kernel
theorem dM_isRegister_11 : decode cM_isRegister 11 = .ok (.goto 4, 3) := by decide +kernel
theorem dM_isRegister_14 : decode cM_isRegister 14 = .ok (.iconst 0, 1) := by decide +kernel
theorem dM_isRegister_15 : decode cM_isRegister 15 = .ok (.ireturn, 1) := by decide +kernel
theorem dM_put_0 : decode cM_put 0 = .ok (.iload_n 1, 1) := by decide +kernel
theorem dM_put_1 : decode cM_put 1 = .ok (.invokestatic 48, 3) := by decide +kernel
theorem dM_put_4 : decode cM_put 4 = .ok (.ifCond .eq 13, 3) := by decide +kernel
theorem dM_put_7 : decode cM_put 7 = .ok (.aload_n 0, 1) := by decide +kernel
theorem dM_put_8 : decode cM_put 8 = .ok (.getfield 41, 3) := by decide +kernel
theorem dM_put_11 : decode cM_put 11 = .ok (.sipush 200, 3) := by decide +kernel
theorem dM_put_14 : decode cM_put 14 = .ok (.if_icmp .le 5, 3) := by decide +kernel
theorem dM_put_17 : decode cM_put 17 = .ok (.iconst (-1), 1) := by decide +kernel
theorem dM_put_18 : decode cM_put 18 = .ok (.ireturn, 1) := by decide +kernel
theorem dM_put_19 : decode cM_put 19 = .ok (.iconst 0, 1) := by decide +kernel
theorem dM_put_20 : decode cM_put 20 = .ok (.istore_n 2, 1) := by decide +kernel
theorem dM_put_21 : decode cM_put 21 = .ok (.iload_n 2, 1) := by decide +kernel
theorem dM_put_22 : decode cM_put 22 = .ok (.aload_n 0, 1) := by decide +kernel
theorem dM_put_23 : decode cM_put 23 = .ok (.getfield 41, 3) := by decide +kernel
theorem dM_put_26 : decode cM_put 26 = .ok (.if_icmp .ge 27, 3) := by decide +kernel
theorem dM_put_29 : decode cM_put 29 = .ok (.aload_n 0, 1) := by decide +kernel
theorem dM_put_30 : decode cM_put 30 = .ok (.getfield 13, 3) := by decide +kernel
theorem dM_put_33 : decode cM_put 33 = .ok (.sipush 200, 3) := by decide +kernel
theorem dM_put_36 : decode cM_put 36 = .ok (.iload_n 1, 1) := by decide +kernel
theorem dM_put_37 : decode cM_put 37 = .ok (.imul, 1) := by decide +kernel
theorem dM_put_38 : decode cM_put 38 = .ok (.iload_n 2, 1) := by decide +kernel
theorem dM_put_39 : decode cM_put 39 = .ok (.iadd, 1) := by decide +kernel
theorem dM_put_40 : decode cM_put 40 = .ok (.aload_n 0, 1) := by decide +kernel
theorem dM_put_41 : decode cM_put 41 = .ok (.getfield 7, 3) := by decide +kernel
theorem dM_put_44 : decode cM_put 44 = .ok (.iload_n 2, 1) := by decide +kernel
theorem dM_put_45 : decode cM_put 45 = .ok (.iaload, 1) := by decide +kernel
theorem dM_put_46 : decode cM_put 46 = .ok (.iastore, 1) := by decide +kernel
theorem dM_put_47 : decode cM_put 47 = .ok (.iinc 2 1, 3) := by decide +kernel
theorem dM_put_50 : decode cM_put 50 = .ok (.goto (-29), 3) := by decide +kernel
theorem dM_put_53 : decode cM_put 53 = .ok (.aload_n 0, 1) := by decide +kernel
theorem dM_put_54 : decode cM_put 54 = .ok (.getfield 16, 3) := by decide +kernel
theorem dM_put_57 : decode cM_put 57 = .ok (.iload_n 1, 1) := by decide +kernel
theorem dM_put_58 : decode cM_put 58 = .ok (.aload_n 0, 1) := by decide +kernel
theorem dM_put_59 : decode cM_put 59 = .ok (.getfield 41, 3) := by decide +kernel
theorem dM_put_62 : decode cM_put 62 = .ok (.iastore, 1) := by decide +kernel
theorem dM_put_63 : decode cM_put 63 = .ok (.aload_n 0, 1) := by decide +kernel
theorem dM_put_64 : decode cM_put 64 = .ok (.iconst 0, 1) := by decide +kernel
theorem dM_put_65 : decode cM_put 65 = .ok (.putfield 41, 3) := by decide +kernel
theorem dM_put_68 : decode cM_put 68 = .ok (.aload_n 0, 1) := by decide +kernel
theorem dM_put_69 : decode cM_put 69 = .ok (.getfield 16, 3) := by decide +kernel
theorem dM_put_72 : decode cM_put 72 = .ok (.iload_n 1, 1) := by decide +kernel
theorem dM_put_73 : decode cM_put 73 = .ok (.iaload, 1) := by decide +kernel
theorem dM_put_74 : decode cM_put 74 = .ok (.ireturn, 1) := by decide +kernel
theorem dM_size_0 : decode cM_size 0 = .ok (.iload_n 1, 1) := by decide +kernel
theorem dM_size_1 : decode cM_size 1 = .ok (.invokestatic 48, 3) := by decide +kernel
theorem dM_size_4 : decode cM_size 4 = .ok (.ifCond .eq 12, 3) := by decide +kernel
theorem dM_size_7 : decode cM_size 7 = .ok (.aload_n 0, 1) := by decide +kernel
theorem dM_size_8 : decode cM_size 8 = .ok (.getfield 16, 3) := by decide +kernel
theorem dM_size_11 : decode cM_size 11 = .ok (.iload_n 1, 1) := by decide +kernel
theorem dM_size_12 : decode cM_size 12 = .ok (.iaload, 1) := by decide +kernel
theorem dM_size_13 : decode cM_size 13 = .ok (.goto 4, 3) := by decide +kernel
theorem dM_size_16 : decode cM_size 16 = .ok (.iconst (-1), 1) := by decide +kernel
theorem dM_size_17 : decode cM_size 17 = .ok (.ireturn, 1) := by decide +kernel
theorem dM_at_0 : decode cM_at 0 = .ok (.iload_n 1, 1) := by decide +kernel
theorem dM_at_1 : decode cM_at 1 = .ok (.invokestatic 48, 3) := by decide +kernel
theorem dM_at_4 : decode cM_at 4 = .ok (.ifCond .eq 32, 3) := by decide +kernel
theorem dM_at_7 : decode cM_at 7 = .ok (.iload_n 2, 1) := by decide +kernel
theorem dM_at_8 : decode cM_at 8 = .ok (.ifCond .lt 28, 3) := by decide +kernel
theorem dM_at_11 : decode cM_at 11 = .ok (.iload_n 2, 1) := by decide +kernel
theorem dM_at_12 : decode cM_at 12 = .ok (.aload_n 0, 1) := by decide +kernel
theorem dM_at_13 : decode cM_at 13 = .ok (.getfield 16, 3) := by decide +kernel
theorem dM_at_16 : decode cM_at 16 = .ok (.iload_n 1, 1) := by decide +kernel
theorem dM_at_17 : decode cM_at 17 = .ok (.iaload, 1) := by decide +kernel
theorem dM_at_18 : decode cM_at 18 = .ok (.if_icmp .ge 18, 3) := by decide +kernel
theorem dM_at_21 : decode cM_at 21 = .ok (.aload_n 0, 1) := by decide +kernel
theorem dM_at_22 : decode cM_at 22 = .ok (.getfield 13, 3) := by decide +kernel
theorem dM_at_25 : decode cM_at 25 = .ok (.sipush 200, 3) := by decide +kernel
theorem dM_at_28 : decode cM_at 28 = .ok (.iload_n 1, 1) := by decide +kernel
theorem dM_at_29 : decode cM_at 29 = .ok (.imul, 1) := by decide +kernel
theorem dM_at_30 : decode cM_at 30 = .ok (.iload_n 2, 1) := by decide +kernel
theorem dM_at_31 : decode cM_at 31 = .ok (.iadd, 1) := by decide +kernel
theorem dM_at_32 : decode cM_at 32 = .ok (.iaload, 1) := by decide +kernel
theorem dM_at_33 : decode cM_at 33 = .ok (.goto 4, 3) := by decide +kernel
theorem dM_at_36 : decode cM_at 36 = .ok (.iconst (-1), 1) := by decide +kernel
theorem dM_at_37 : decode cM_at 37 = .ok (.ireturn, 1) := by decide +kernel
theorem dM_digits_0 : decode cM_digits 0 = .ok (.iload_n 1, 1) := by decide +kernel
theorem dM_digits_1 : decode cM_digits 1 = .ok (.iconst 1, 1) := by decide +kernel
theorem dM_digits_2 : decode cM_digits 2 = .ok (.if_icmp .lt 17, 3) := by decide +kernel
theorem dM_digits_5 : decode cM_digits 5 = .ok (.iload_n 1, 1) := by decide +kernel
theorem dM_digits_6 : decode cM_digits 6 = .ok (.bipush 20, 2) := by decide +kernel
theorem dM_digits_8 : decode cM_digits 8 = .ok (.if_icmp .gt 11, 3) := by decide +kernel
theorem dM_digits_11 : decode cM_digits 11 = .ok (.iload_n 1, 1) := by decide +kernel
theorem dM_digits_12 : decode cM_digits 12 = .ok (.aload_n 0, 1) := by decide +kernel
theorem dM_digits_13 : decode cM_digits 13 = .ok (.getfield 52, 3) := by decide +kernel
theorem dM_digits_16 : decode cM_digits 16 = .ok (.if_icmp .gt 5, 3) := by decide +kernel
theorem dM_digits_19 : decode cM_digits 19 = .ok (.iconst (-1), 1) := by decide +kernel
theorem dM_digits_20 : decode cM_digits 20 = .ok (.ireturn, 1) := by decide +kernel
theorem dM_digits_21 : decode cM_digits 21 = .ok (.aload_n 0, 1) := by decide +kernel
theorem dM_digits_22 : decode cM_digits 22 = .ok (.iload_n 1, 1) := by decide +kernel
theorem dM_digits_23 : decode cM_digits 23 = .ok (.putfield 19, 3) := by decide +kernel
theorem dM_digits_26 : decode cM_digits 26 = .ok (.iconst 1, 1) := by decide +kernel
theorem dM_digits_27 : decode cM_digits 27 = .ok (.ireturn, 1) := by decide +kernel
theorem dM_fuzz_0 : decode cM_fuzz 0 = .ok (.iload_n 1, 1) := by decide +kernel
theorem dM_fuzz_1 : decode cM_fuzz 1 = .ok (.ifCond .lt 11, 3) := by decide +kernel
theorem dM_fuzz_4 : decode cM_fuzz 4 = .ok (.iload_n 1, 1) := by decide +kernel
theorem dM_fuzz_5 : decode cM_fuzz 5 = .ok (.aload_n 0, 1) := by decide +kernel
theorem dM_fuzz_6 : decode cM_fuzz 6 = .ok (.getfield 19, 3) := by decide +kernel
theorem dM_fuzz_9 : decode cM_fuzz 9 = .ok (.if_icmp .lt 5, 3) := by decide +kernel
theorem dM_fuzz_12 : decode cM_fuzz 12 = .ok (.iconst (-1), 1) := by decide +kernel
theorem dM_fuzz_13 : decode cM_fuzz 13 = .ok (.ireturn, 1) := by decide +kernel
theorem dM_fuzz_14 : decode cM_fuzz 14 = .ok (.aload_n 0, 1) := by decide +kernel
theorem dM_fuzz_15 : decode cM_fuzz 15 = .ok (.iload_n 1, 1) := by decide +kernel
theorem dM_fuzz_16 : decode cM_fuzz 16 = .ok (.putfield 52, 3) := by decide +kernel
theorem dM_fuzz_19 : decode cM_fuzz 19 = .ok (.iconst 1, 1) := by decide +kernel
theorem dM_fuzz_20 : decode cM_fuzz 20 = .ok (.ireturn, 1) := by decide +kernel
theorem dM_form_0 : decode cM_form 0 = .ok (.iload_n 1, 1) := by decide +kernel
theorem dM_form_1 : decode cM_form 1 = .ok (.ifCond .eq 10, 3) := by decide +kernel
theorem dM_form_4 : decode cM_form 4 = .ok (.iload_n 1, 1) := by decide +kernel
theorem dM_form_5 : decode cM_form 5 = .ok (.iconst 1, 1) := by decide +kernel
theorem dM_form_6 : decode cM_form 6 = .ok (.if_icmp .eq 5, 3) := by decide +kernel
theorem dM_form_9 : decode cM_form 9 = .ok (.iconst (-1), 1) := by decide +kernel
theorem dM_form_10 : decode cM_form 10 = .ok (.ireturn, 1) := by decide +kernel
theorem dM_form_11 : decode cM_form 11 = .ok (.aload_n 0, 1) := by decide +kernel
theorem dM_form_12 : decode cM_form 12 = .ok (.iload_n 1, 1) := by decide +kernel
theorem dM_form_13 : decode cM_form 13 = .ok (.putfield 55, 3) := by decide +kernel
theorem dM_form_16 : decode cM_form 16 = .ok (.iconst 1, 1) := by decide +kernel
theorem dM_form_17 : decode cM_form 17 = .ok (.ireturn, 1) := by decide +kernel
theorem dM_zero_0 : decode cM_zero 0 = .ok (.aload_n 0, 1) := by decide +kernel
theorem dM_zero_1 : decode cM_zero 1 = .ok (.getfield 32, 3) := by decide +kernel
theorem dM_zero_4 : decode cM_zero 4 = .ok (.iload_n 1, 1) := by decide +kernel
theorem dM_zero_5 : decode cM_zero 5 = .ok (.iconst 0, 1) := by decide +kernel
theorem dM_zero_6 : decode cM_zero 6 = .ok (.iastore, 1) := by decide +kernel
theorem dM_zero_7 : decode cM_zero 7 = .ok (.aload_n 0, 1) := by decide +kernel
theorem dM_zero_8 : decode cM_zero 8 = .ok (.getfield 26, 3) := by decide +kernel
theorem dM_zero_11 : decode cM_zero 11 = .ok (.iload_n 1, 1) := by decide +kernel
theorem dM_zero_12 : decode cM_zero 12 = .ok (.iconst 1, 1) := by decide +kernel
theorem dM_zero_13 : decode cM_zero 13 = .ok (.iastore, 1) := by decide +kernel
theorem dM_zero_14 : decode cM_zero 14 = .ok (.aload_n 0, 1) := by decide +kernel
theorem dM_zero_15 : decode cM_zero 15 = .ok (.getfield 29, 3) := by decide +kernel
theorem dM_zero_18 : decode cM_zero 18 = .ok (.iload_n 1, 1) := by decide +kernel
theorem dM_zero_19 : decode cM_zero 19 = .ok (.iconst 0, 1) := by decide +kernel
theorem dM_zero_20 : decode cM_zero 20 = .ok (.iastore, 1) := by decide +kernel
theorem dM_zero_21 : decode cM_zero 21 = .ok (.aload_n 0, 1) := by decide +kernel
theorem dM_zero_22 : decode cM_zero 22 = .ok (.getfield 23, 3) := by decide +kernel
theorem dM_zero_25 : decode cM_zero 25 = .ok (.sipush 2600, 3) := by decide +kernel
theorem dM_zero_28 : decode cM_zero 28 = .ok (.iload_n 1, 1) := by decide +kernel
theorem dM_zero_29 : decode cM_zero 29 = .ok (.imul, 1) := by decide +kernel
theorem dM_zero_30 : decode cM_zero 30 = .ok (.iconst 0, 1) := by decide +kernel
theorem dM_zero_31 : decode cM_zero 31 = .ok (.iastore, 1) := by decide +kernel
theorem dM_zero_32 : decode cM_zero 32 = .ok (.return_, 1) := by decide +kernel
theorem dM_copy_0 : decode cM_copy 0 = .ok (.aload_n 0, 1) := by decide +kernel
theorem dM_copy_1 : decode cM_copy 1 = .ok (.getfield 32, 3) := by decide +kernel
theorem dM_copy_4 : decode cM_copy 4 = .ok (.iload_n 2, 1) := by decide +kernel
theorem dM_copy_5 : decode cM_copy 5 = .ok (.aload_n 0, 1) := by decide +kernel
theorem dM_copy_6 : decode cM_copy 6 = .ok (.getfield 32, 3) := by decide +kernel
theorem dM_copy_9 : decode cM_copy 9 = .ok (.iload_n 1, 1) := by decide +kernel
theorem dM_copy_10 : decode cM_copy 10 = .ok (.iaload, 1) := by decide +kernel
theorem dM_copy_11 : decode cM_copy 11 = .ok (.iastore, 1) := by decide +kernel
theorem dM_copy_12 : decode cM_copy 12 = .ok (.aload_n 0, 1) := by decide +kernel
theorem dM_copy_13 : decode cM_copy 13 = .ok (.getfield 26, 3) := by decide +kernel
theorem dM_copy_16 : decode cM_copy 16 = .ok (.iload_n 2, 1) := by decide +kernel
theorem dM_copy_17 : decode cM_copy 17 = .ok (.aload_n 0, 1) := by decide +kernel
theorem dM_copy_18 : decode cM_copy 18 = .ok (.getfield 26, 3) := by decide +kernel
theorem dM_copy_21 : decode cM_copy 21 = .ok (.iload_n 1, 1) := by decide +kernel
theorem dM_copy_22 : decode cM_copy 22 = .ok (.iaload, 1) := by decide +kernel
theorem dM_copy_23 : decode cM_copy 23 = .ok (.iastore, 1) := by decide +kernel
theorem dM_copy_24 : decode cM_copy 24 = .ok (.aload_n 0, 1) := by decide +kernel
theorem dM_copy_25 : decode cM_copy 25 = .ok (.getfield 29, 3) := by decide +kernel
theorem dM_copy_28 : decode cM_copy 28 = .ok (.iload_n 2, 1) := by decide +kernel
theorem dM_copy_29 : decode cM_copy 29 = .ok (.aload_n 0, 1) := by decide +kernel
theorem dM_copy_30 : decode cM_copy 30 = .ok (.getfield 29, 3) := by decide +kernel
theorem dM_copy_33 : decode cM_copy 33 = .ok (.iload_n 1, 1) := by decide +kernel
theorem dM_copy_34 : decode cM_copy 34 = .ok (.iaload, 1) := by decide +kernel
theorem dM_copy_35 : decode cM_copy 35 = .ok (.iastore, 1) := by decide +kernel
theorem dM_copy_36 : decode cM_copy 36 = .ok (.iconst 0, 1) := by decide +kernel
theorem dM_copy_37 : decode cM_copy 37 = .ok (.istore_n 3, 1) := by decide +kernel
theorem dM_copy_38 : decode cM_copy 38 = .ok (.iload_n 3, 1) := by decide +kernel
theorem dM_copy_39 : decode cM_copy 39 = .ok (.aload_n 0, 1) := by decide +kernel
theorem dM_copy_40 : decode cM_copy 40 = .ok (.getfield 26, 3) := by decide +kernel
theorem dM_copy_43 : decode cM_copy 43 = .ok (.iload_n 1, 1) := by decide +kernel
theorem dM_copy_44 : decode cM_copy 44 = .ok (.iaload, 1) := by decide +kernel
theorem dM_copy_45 : decode cM_copy 45 = .ok (.if_icmp .ge 33, 3) := by decide +kernel
theorem dM_copy_48 : decode cM_copy 48 = .ok (.aload_n 0, 1) := by decide +kernel
theorem dM_copy_49 : decode cM_copy 49 = .ok (.getfield 23, 3) := by decide +kernel
theorem dM_copy_52 : decode cM_copy 52 = .ok (.sipush 2600, 3) := by decide +kernel
theorem dM_copy_55 : decode cM_copy 55 = .ok (.iload_n 2, 1) := by decide +kernel
theorem dM_copy_56 : decode cM_copy 56 = .ok (.imul, 1) := by decide +kernel
theorem dM_copy_57 : decode cM_copy 57 = .ok (.iload_n 3, 1) := by decide +kernel
theorem dM_copy_58 : decode cM_copy 58 = .ok (.iadd, 1) := by decide +kernel
theorem dM_copy_59 : decode cM_copy 59 = .ok (.aload_n 0, 1) := by decide +kernel
theorem dM_copy_60 : decode cM_copy 60 = .ok (.getfield 23, 3) := by decide +kernel
theorem dM_copy_63 : decode cM_copy 63 = .ok (.sipush 2600, 3) := by decide +kernel
theorem dM_copy_66 : decode cM_copy 66 = .ok (.iload_n 1, 1) := by decide +kernel
theorem dM_copy_67 : decode cM_copy 67 = .ok (.imul, 1) := by decide +kernel
theorem dM_copy_68 : decode cM_copy 68 = .ok (.iload_n 3, 1) := by decide +kernel
theorem dM_copy_69 : decode cM_copy 69 = .ok (.iadd, 1) := by decide +kernel
theorem dM_copy_70 : decode cM_copy 70 = .ok (.iaload, 1) := by decide +kernel
theorem dM_copy_71 : decode cM_copy 71 = .ok (.iastore, 1) := by decide +kernel
theorem dM_copy_72 : decode cM_copy 72 = .ok (.iinc 3 1, 3) := by decide +kernel
theorem dM_copy_75 : decode cM_copy 75 = .ok (.goto (-37), 3) := by decide +kernel
theorem dM_copy_78 : decode cM_copy 78 = .ok (.return_, 1) := by decide +kernel
theorem dM_settle_0 : decode cM_settle 0 = .ok (.iconst 0, 1) := by decide +kernel
theorem dM_settle_1 : decode cM_settle 1 = .ok (.istore_n 2, 1) := by decide +kernel
theorem dM_settle_2 : decode cM_settle 2 = .ok (.iload_n 2, 1) := by decide +kernel
theorem dM_settle_3 : decode cM_settle 3 = .ok (.aload_n 0, 1) := by decide +kernel
theorem dM_settle_4 : decode cM_settle 4 = .ok (.getfield 26, 3) := by decide +kernel
theorem dM_settle_7 : decode cM_settle 7 = .ok (.iload_n 1, 1) := by decide +kernel
theorem dM_settle_8 : decode cM_settle 8 = .ok (.iaload, 1) := by decide +kernel
theorem dM_settle_9 : decode cM_settle 9 = .ok (.if_icmp .ge 24, 3) := by decide +kernel
theorem dM_settle_12 : decode cM_settle 12 = .ok (.aload_n 0, 1) := by decide +kernel
theorem dM_settle_13 : decode cM_settle 13 = .ok (.getfield 23, 3) := by decide +kernel
theorem dM_settle_16 : decode cM_settle 16 = .ok (.sipush 2600, 3) := by decide +kernel
theorem dM_settle_19 : decode cM_settle 19 = .ok (.iload_n 1, 1) := by decide +kernel
theorem dM_settle_20 : decode cM_settle 20 = .ok (.imul, 1) := by decide +kernel
theorem dM_settle_21 : decode cM_settle 21 = .ok (.iload_n 2, 1) := by decide +kernel
theorem dM_settle_22 : decode cM_settle 22 = .ok (.iadd, 1) := by decide +kernel
theorem dM_settle_23 : decode cM_settle 23 = .ok (.iaload, 1) := by decide +kernel
theorem dM_settle_24 : decode cM_settle 24 = .ok (.ifCond .ne 9, 3) := by decide +kernel
theorem dM_settle_27 : decode cM_settle 27 = .ok (.iinc 2 1, 3) := by decide +kernel
theorem dM_settle_30 : decode cM_settle 30 = .ok (.goto (-28), 3) := by decide +kernel
theorem dM_settle_33 : decode cM_settle 33 = .ok (.iload_n 2, 1) := by decide +kernel
theorem dM_settle_34 : decode cM_settle 34 = .ok (.aload_n 0, 1) := by decide +kernel
theorem dM_settle_35 : decode cM_settle 35 = .ok (.getfield 26, 3) := by decide +kernel
theorem dM_settle_38 : decode cM_settle 38 = .ok (.iload_n 1, 1) := by decide +kernel
theorem dM_settle_39 : decode cM_settle 39 = .ok (.iaload, 1) := by decide +kernel
theorem dM_settle_40 : decode cM_settle 40 = .ok (.if_icmp .ne 9, 3) := by decide +kernel
theorem dM_settle_43 : decode cM_settle 43 = .ok (.aload_n 0, 1) := by decide +kernel
theorem dM_settle_44 : decode cM_settle 44 = .ok (.iload_n 1, 1) := by decide +kernel
theorem dM_settle_45 : decode cM_settle 45 = .ok (.invokevirtual 58, 3) := by decide +kernel
theorem dM_settle_48 : decode cM_settle 48 = .ok (.return_, 1) := by decide +kernel
theorem dM_settle_49 : decode cM_settle 49 = .ok (.aload_n 0, 1) := by decide +kernel
theorem dM_settle_50 : decode cM_settle 50 = .ok (.getfield 26, 3) := by decide +kernel
theorem dM_settle_53 : decode cM_settle 53 = .ok (.iload_n 1, 1) := by decide +kernel
theorem dM_settle_54 : decode cM_settle 54 = .ok (.dup2, 1) := by decide +kernel
theorem dM_settle_55 : decode cM_settle 55 = .ok (.iaload, 1) := by decide +kernel
theorem dM_settle_56 : decode cM_settle 56 = .ok (.iload_n 2, 1) := by decide +kernel
theorem dM_settle_57 : decode cM_settle 57 = .ok (.isub, 1) := by decide +kernel
theorem dM_settle_58 : decode cM_settle 58 = .ok (.iastore, 1) := by decide +kernel
theorem dM_settle_59 : decode cM_settle 59 = .ok (.iconst 0, 1) := by decide +kernel
theorem dM_settle_60 : decode cM_settle 60 = .ok (.istore_n 3, 1) := by decide +kernel
theorem dM_settle_61 : decode cM_settle 61 = .ok (.iload_n 3, 1) := by decide +kernel
theorem dM_settle_62 : decode cM_settle 62 = .ok (.aload_n 0, 1) := by decide +kernel
theorem dM_settle_63 : decode cM_settle 63 = .ok (.getfield 26, 3) := by decide +kernel
theorem dM_settle_66 : decode cM_settle 66 = .ok (.iload_n 1, 1) := by decide +kernel
theorem dM_settle_67 : decode cM_settle 67 = .ok (.iaload, 1) := by decide +kernel
theorem dM_settle_68 : decode cM_settle 68 = .ok (.if_icmp .ge 39, 3) := by decide +kernel
theorem dM_settle_71 : decode cM_settle 71 = .ok (.iload_n 2, 1) := by decide +kernel
theorem dM_settle_72 : decode cM_settle 72 = .ok (.ifCond .le 35, 3) := by decide +kernel
theorem dM_settle_75 : decode cM_settle 75 = .ok (.aload_n 0, 1) := by decide +kernel
theorem dM_settle_76 : decode cM_settle 76 = .ok (.getfield 23, 3) := by decide +kernel
theorem dM_settle_79 : decode cM_settle 79 = .ok (.sipush 2600, 3) := by decide +kernel
theorem dM_settle_82 : decode cM_settle 82 = .ok (.iload_n 1, 1) := by decide +kernel
theorem dM_settle_83 : decode cM_settle 83 = .ok (.imul, 1) := by decide +kernel
theorem dM_settle_84 : decode cM_settle 84 = .ok (.iload_n 3, 1) := by decide +kernel
theorem dM_settle_85 : decode cM_settle 85 = .ok (.iadd, 1) := by decide +kernel
theorem dM_settle_86 : decode cM_settle 86 = .ok (.aload_n 0, 1) := by decide +kernel
theorem dM_settle_87 : decode cM_settle 87 = .ok (.getfield 23, 3) := by decide +kernel
theorem dM_settle_90 : decode cM_settle 90 = .ok (.sipush 2600, 3) := by decide +kernel
theorem dM_settle_93 : decode cM_settle 93 = .ok (.iload_n 1, 1) := by decide +kernel
theorem dM_settle_94 : decode cM_settle 94 = .ok (.imul, 1) := by decide +kernel
theorem dM_settle_95 : decode cM_settle 95 = .ok (.iload_n 3, 1) := by decide +kernel
theorem dM_settle_96 : decode cM_settle 96 = .ok (.iadd, 1) := by decide +kernel
theorem dM_settle_97 : decode cM_settle 97 = .ok (.iload_n 2, 1) := by decide +kernel
theorem dM_settle_98 : decode cM_settle 98 = .ok (.iadd, 1) := by decide +kernel
theorem dM_settle_99 : decode cM_settle 99 = .ok (.iaload, 1) := by decide +kernel
theorem dM_settle_100 : decode cM_settle 100 = .ok (.iastore, 1) := by decide +kernel
theorem dM_settle_101 : decode cM_settle 101 = .ok (.iinc 3 1, 3) := by decide +kernel
theorem dM_settle_104 : decode cM_settle 104 = .ok (.goto (-43), 3) := by decide +kernel
theorem dM_settle_107 : decode cM_settle 107 = .ok (.return_, 1) := by decide +kernel
theorem dM_isDigit_0 : decode cM_isDigit 0 = .ok (.iload_n 0, 1) := by decide +kernel
theorem dM_isDigit_1 : decode cM_isDigit 1 = .ok (.bipush 48, 2) := by decide +kernel
theorem dM_isDigit_3 : decode cM_isDigit 3 = .ok (.if_icmp .lt 13, 3) := by decide +kernel
theorem dM_isDigit_6 : decode cM_isDigit 6 = .ok (.iload_n 0, 1) := by decide +kernel
theorem dM_isDigit_7 : decode cM_isDigit 7 = .ok (.bipush 57, 2) := by decide +kernel
theorem dM_isDigit_9 : decode cM_isDigit 9 = .ok (.if_icmp .gt 7, 3) := by decide +kernel
theorem dM_isDigit_12 : decode cM_isDigit 12 = .ok (.iconst 1, 1) := by decide +kernel
theorem dM_isDigit_13 : decode cM_isDigit 13 = .ok (.goto 4, 3) := by decide +kernel
theorem dM_isDigit_16 : decode cM_isDigit 16 = .ok (.iconst 0, 1) := by decide +kernel
theorem dM_isDigit_17 : decode cM_isDigit 17 = .ok (.ireturn, 1) := by decide +kernel
theorem dM_read_0 : decode cM_read 0 = .ok (.sipush 200, 3) := by decide +kernel
theorem dM_read_3 : decode cM_read 3 = .ok (.iload_n 1, 1) := by decide +kernel
theorem dM_read_4 : decode cM_read 4 = .ok (.imul, 1) := by decide +kernel
theorem dM_read_5 : decode cM_read 5 = .ok (.istore_n 3, 1) := by decide +kernel
theorem dM_read_6 : decode cM_read 6 = .ok (.iload_n 3, 1) := by decide +kernel
theorem dM_read_7 : decode cM_read 7 = .ok (.aload_n 0, 1) := by decide +kernel
theorem dM_read_8 : decode cM_read 8 = .ok (.getfield 16, 3) := by decide +kernel
theorem dM_read_11 : decode cM_read 11 = .ok (.iload_n 1, 1) := by decide +kernel
theorem dM_read_12 : decode cM_read 12 = .ok (.iaload, 1) := by decide +kernel
theorem dM_read_13 : decode cM_read 13 = .ok (.iadd, 1) := by decide +kernel
theorem dM_read_14 : decode cM_read 14 = .ok (.istore 4, 2) := by decide +kernel
theorem dM_read_16 : decode cM_read 16 = .ok (.iload_n 3, 1) := by decide +kernel
theorem dM_read_17 : decode cM_read 17 = .ok (.iload 4, 2) := by decide +kernel
theorem dM_read_19 : decode cM_read 19 = .ok (.if_icmp .ge 20, 3) := by decide +kernel
theorem dM_read_22 : decode cM_read 22 = .ok (.aload_n 0, 1) := by decide +kernel
theorem dM_read_23 : decode cM_read 23 = .ok (.getfield 13, 3) := by decide +kernel
theorem dM_read_26 : decode cM_read 26 = .ok (.iload_n 3, 1) := by decide +kernel
theorem dM_read_27 : decode cM_read 27 = .ok (.iaload, 1) := by decide +kernel
theorem dM_read_28 : decode cM_read 28 = .ok (.bipush 32, 2) := by decide +kernel
theorem dM_read_30 : decode cM_read 30 = .ok (.if_icmp .ne 9, 3) := by decide +kernel
theorem dM_read_33 : decode cM_read 33 = .ok (.iinc 3 1, 3) := by decide +kernel
theorem dM_read_36 : decode cM_read 36 = .ok (.goto (-20), 3) := by decide +kernel
theorem dM_read_39 : decode cM_read 39 = .ok (.iload 4, 2) := by decide +kernel
theorem dM_read_41 : decode cM_read 41 = .ok (.iload_n 3, 1) := by decide +kernel
theorem dM_read_42 : decode cM_read 42 = .ok (.if_icmp .le 23, 3) := by decide +kernel
theorem dM_read_45 : decode cM_read 45 = .ok (.aload_n 0, 1) := by decide +kernel
theorem dM_read_46 : decode cM_read 46 = .ok (.getfield 13, 3) := by decide +kernel
theorem dM_read_49 : decode cM_read 49 = .ok (.iload 4, 2) := by decide +kernel
theorem dM_read_51 : decode cM_read 51 = .ok (.iconst 1, 1) := by decide +kernel
theorem dM_read_52 : decode cM_read 52 = .ok (.isub, 1) := by decide +kernel
theorem dM_read_53 : decode cM_read 53 = .ok (.iaload, 1) := by decide +kernel
theorem dM_read_54 : decode cM_read 54 = .ok (.bipush 32, 2) := by decide +kernel
theorem dM_read_56 : decode cM_read 56 = .ok (.if_icmp .ne 9, 3) := by decide +kernel
theorem dM_read_59 : decode cM_read 59 = .ok (.iinc 4 (-1), 3) := by decide +kernel
theorem dM_read_62 : decode cM_read 62 = .ok (.goto (-23), 3) := by decide +kernel
theorem dM_read_65 : decode cM_read 65 = .ok (.iload_n 3, 1) := by decide +kernel
theorem dM_read_66 : decode cM_read 66 = .ok (.iload 4, 2) := by decide +kernel
theorem dM_read_68 : decode cM_read 68 = .ok (.if_icmp .ge 18, 3) := by decide +kernel
theorem dM_read_71 : decode cM_read 71 = .ok (.aload_n 0, 1) := by decide +kernel
theorem dM_read_72 : decode cM_read 72 = .ok (.getfield 13, 3) := by decide +kernel
theorem dM_read_75 : decode cM_read 75 = .ok (.iload_n 3, 1) := by decide +kernel
theorem dM_read_76 : decode cM_read 76 = .ok (.iaload, 1) := by decide +kernel
theorem dM_read_77 : decode cM_read 77 = .ok (.bipush 45, 2) := by decide +kernel
theorem dM_read_79 : decode cM_read 79 = .ok (.if_icmp .ne 7, 3) := by decide +kernel
theorem dM_read_82 : decode cM_read 82 = .ok (.iconst 1, 1) := by decide +kernel
theorem dM_read_83 : decode cM_read 83 = .ok (.goto 4, 3) := by decide +kernel
theorem dM_read_86 : decode cM_read 86 = .ok (.iconst 0, 1) := by decide +kernel
theorem dM_read_87 : decode cM_read 87 = .ok (.istore 5, 2) := by decide +kernel
theorem dM_read_89 : decode cM_read 89 = .ok (.iload_n 3, 1) := by decide +kernel
theorem dM_read_90 : decode cM_read 90 = .ok (.iload 4, 2) := by decide +kernel
theorem dM_read_92 : decode cM_read 92 = .ok (.if_icmp .ge 51, 3) := by decide +kernel
theorem dM_read_95 : decode cM_read 95 = .ok (.aload_n 0, 1) := by decide +kernel
theorem dM_read_96 : decode cM_read 96 = .ok (.getfield 13, 3) := by decide +kernel
theorem dM_read_99 : decode cM_read 99 = .ok (.iload_n 3, 1) := by decide +kernel
theorem dM_read_100 : decode cM_read 100 = .ok (.iaload, 1) := by decide +kernel
theorem dM_read_101 : decode cM_read 101 = .ok (.bipush 43, 2) := by decide +kernel
theorem dM_read_103 : decode cM_read 103 = .ok (.if_icmp .eq 14, 3) := by decide +kernel
theorem dM_read_106 : decode cM_read 106 = .ok (.aload_n 0, 1) := by decide +kernel
theorem dM_read_107 : decode cM_read 107 = .ok (.getfield 13, 3) := by decide +kernel
theorem dM_read_110 : decode cM_read 110 = .ok (.iload_n 3, 1) := by decide +kernel
theorem dM_read_111 : decode cM_read 111 = .ok (.iaload, 1) := by decide +kernel
theorem dM_read_112 : decode cM_read 112 = .ok (.bipush 45, 2) := by decide +kernel
theorem dM_read_114 : decode cM_read 114 = .ok (.if_icmp .ne 29, 3) := by decide +kernel
theorem dM_read_117 : decode cM_read 117 = .ok (.iinc 3 1, 3) := by decide +kernel
theorem dM_read_120 : decode cM_read 120 = .ok (.iload_n 3, 1) := by decide +kernel
theorem dM_read_121 : decode cM_read 121 = .ok (.iload 4, 2) := by decide +kernel
theorem dM_read_123 : decode cM_read 123 = .ok (.if_icmp .ge 20, 3) := by decide +kernel
theorem dM_read_126 : decode cM_read 126 = .ok (.aload_n 0, 1) := by decide +kernel
theorem dM_read_127 : decode cM_read 127 = .ok (.getfield 13, 3) := by decide +kernel
theorem dM_read_130 : decode cM_read 130 = .ok (.iload_n 3, 1) := by decide +kernel
theorem dM_read_131 : decode cM_read 131 = .ok (.iaload, 1) := by decide +kernel
theorem dM_read_132 : decode cM_read 132 = .ok (.bipush 32, 2) := by decide +kernel
theorem dM_read_134 : decode cM_read 134 = .ok (.if_icmp .ne 9, 3) := by decide +kernel
theorem dM_read_137 : decode cM_read 137 = .ok (.iinc 3 1, 3) := by decide +kernel
theorem dM_read_140 : decode cM_read 140 = .ok (.goto (-20), 3) := by decide +kernel
theorem dM_read_143 : decode cM_read 143 = .ok (.iconst 0, 1) := by decide +kernel
theorem dM_read_144 : decode cM_read 144 = .ok (.istore 6, 2) := by decide +kernel
theorem dM_read_146 : decode cM_read 146 = .ok (.iconst 0, 1) := by decide +kernel
theorem dM_read_147 : decode cM_read 147 = .ok (.istore 7, 2) := by decide +kernel
theorem dM_read_149 : decode cM_read 149 = .ok (.iconst 0, 1) := by decide +kernel
theorem dM_read_150 : decode cM_read 150 = .ok (.istore 8, 2) := by decide +kernel
theorem dM_read_152 : decode cM_read 152 = .ok (.iload_n 3, 1) := by decide +kernel
theorem dM_read_153 : decode cM_read 153 = .ok (.iload 4, 2) := by decide +kernel
theorem dM_read_155 : decode cM_read 155 = .ok (.if_icmp .ge 94, 3) := by decide +kernel
theorem dM_read_158 : decode cM_read 158 = .ok (.aload_n 0, 1) := by decide +kernel
theorem dM_read_159 : decode cM_read 159 = .ok (.getfield 13, 3) := by decide +kernel
theorem dM_read_162 : decode cM_read 162 = .ok (.iload_n 3, 1) := by decide +kernel
theorem dM_read_163 : decode cM_read 163 = .ok (.iaload, 1) := by decide +kernel
theorem dM_read_164 : decode cM_read 164 = .ok (.invokestatic 61, 3) := by decide +kernel
theorem dM_read_167 : decode cM_read 167 = .ok (.ifCond .ne 19, 3) := by decide +kernel
theorem dM_read_170 : decode cM_read 170 = .ok (.aload_n 0, 1) := by decide +kernel
theorem dM_read_171 : decode cM_read 171 = .ok (.getfield 13, 3) := by decide +kernel
theorem dM_read_174 : decode cM_read 174 = .ok (.iload_n 3, 1) := by decide +kernel
theorem dM_read_175 : decode cM_read 175 = .ok (.iaload, 1) := by decide +kernel
theorem dM_read_176 : decode cM_read 176 = .ok (.bipush 46, 2) := by decide +kernel
theorem dM_read_178 : decode cM_read 178 = .ok (.if_icmp .ne 71, 3) := by decide +kernel
theorem dM_read_181 : decode cM_read 181 = .ok (.iload 8, 2) := by decide +kernel
theorem dM_read_183 : decode cM_read 183 = .ok (.ifCond .ne 66, 3) := by decide +kernel
theorem dM_read_186 : decode cM_read 186 = .ok (.aload_n 0, 1) := by decide +kernel
theorem dM_read_187 : decode cM_read 187 = .ok (.getfield 13, 3) := by decide +kernel
theorem dM_read_190 : decode cM_read 190 = .ok (.iload_n 3, 1) := by decide +kernel
theorem dM_read_191 : decode cM_read 191 = .ok (.iaload, 1) := by decide +kernel
theorem dM_read_192 : decode cM_read 192 = .ok (.bipush 46, 2) := by decide +kernel
theorem dM_read_194 : decode cM_read 194 = .ok (.if_icmp .ne 9, 3) := by decide +kernel
theorem dM_read_197 : decode cM_read 197 = .ok (.iconst 1, 1) := by decide +kernel
theorem dM_read_198 : decode cM_read 198 = .ok (.istore 8, 2) := by decide +kernel
theorem dM_read_200 : decode cM_read 200 = .ok (.goto 43, 3) := by decide +kernel
theorem dM_read_203 : decode cM_read 203 = .ok (.aload_n 0, 1) := by decide +kernel
theorem dM_read_204 : decode cM_read 204 = .ok (.getfield 23, 3) := by decide +kernel
theorem dM_read_207 : decode cM_read 207 = .ok (.sipush 2600, 3) := by decide +kernel
theorem dM_read_210 : decode cM_read 210 = .ok (.iload_n 2, 1) := by decide +kernel
theorem dM_read_211 : decode cM_read 211 = .ok (.imul, 1) := by decide +kernel
theorem dM_read_212 : decode cM_read 212 = .ok (.iload 6, 2) := by decide +kernel
theorem dM_read_214 : decode cM_read 214 = .ok (.iadd, 1) := by decide +kernel
theorem dM_read_215 : decode cM_read 215 = .ok (.aload_n 0, 1) := by decide +kernel
theorem dM_read_216 : decode cM_read 216 = .ok (.getfield 13, 3) := by decide +kernel
theorem dM_read_219 : decode cM_read 219 = .ok (.iload_n 3, 1) := by decide +kernel
theorem dM_read_220 : decode cM_read 220 = .ok (.iaload, 1) := by decide +kernel
theorem dM_read_221 : decode cM_read 221 = .ok (.bipush 48, 2) := by decide +kernel
theorem dM_read_223 : decode cM_read 223 = .ok (.isub, 1) := by decide +kernel
theorem dM_read_224 : decode cM_read 224 = .ok (.iastore, 1) := by decide +kernel
theorem dM_read_225 : decode cM_read 225 = .ok (.iinc 6 1, 3) := by decide +kernel
theorem dM_read_228 : decode cM_read 228 = .ok (.iload 7, 2) := by decide +kernel
theorem dM_read_230 : decode cM_read 230 = .ok (.iload 8, 2) := by decide +kernel
theorem dM_read_232 : decode cM_read 232 = .ok (.ifCond .eq 7, 3) := by decide +kernel
theorem dM_read_235 : decode cM_read 235 = .ok (.iconst 1, 1) := by decide +kernel
theorem dM_read_236 : decode cM_read 236 = .ok (.goto 4, 3) := by decide +kernel
theorem dM_read_239 : decode cM_read 239 = .ok (.iconst 0, 1) := by decide +kernel
theorem dM_read_240 : decode cM_read 240 = .ok (.iadd, 1) := by decide +kernel
theorem dM_read_241 : decode cM_read 241 = .ok (.istore 7, 2) := by decide +kernel
theorem dM_read_243 : decode cM_read 243 = .ok (.iinc 3 1, 3) := by decide +kernel
theorem dM_read_246 : decode cM_read 246 = .ok (.goto (-94), 3) := by decide +kernel
theorem dM_read_249 : decode cM_read 249 = .ok (.iload 6, 2) := by decide +kernel
theorem dM_read_251 : decode cM_read 251 = .ok (.ifCond .ne 5, 3) := by decide +kernel
theorem dM_read_254 : decode cM_read 254 = .ok (.iconst 0, 1) := by decide +kernel
theorem dM_read_255 : decode cM_read 255 = .ok (.ireturn, 1) := by decide +kernel
theorem dM_read_256 : decode cM_read 256 = .ok (.iconst 0, 1) := by decide +kernel
theorem dM_read_257 : decode cM_read 257 = .ok (.istore 9, 2) := by decide +kernel
theorem dM_read_259 : decode cM_read 259 = .ok (.iload_n 3, 1) := by decide +kernel
theorem dM_read_260 : decode cM_read 260 = .ok (.iload 4, 2) := by decide +kernel
theorem dM_read_262 : decode cM_read 262 = .ok (.if_icmp .ge 163, 3) := by decide +kernel
theorem dM_read_265 : decode cM_read 265 = .ok (.aload_n 0, 1) := by decide +kernel
theorem dM_read_266 : decode cM_read 266 = .ok (.getfield 13, 3) := by decide +kernel
theorem dM_read_269 : decode cM_read 269 = .ok (.iload_n 3, 1) := by decide +kernel
theorem dM_read_270 : decode cM_read 270 = .ok (.iaload, 1) := by decide +kernel
theorem dM_read_271 : decode cM_read 271 = .ok (.bipush 69, 2) := by decide +kernel
theorem dM_read_273 : decode cM_read 273 = .ok (.if_icmp .eq 14, 3) := by decide +kernel
theorem dM_read_276 : decode cM_read 276 = .ok (.aload_n 0, 1) := by decide +kernel
theorem dM_read_277 : decode cM_read 277 = .ok (.getfield 13, 3) := by decide +kernel
theorem dM_read_280 : decode cM_read 280 = .ok (.iload_n 3, 1) := by decide +kernel
theorem dM_read_281 : decode cM_read 281 = .ok (.iaload, 1) := by decide +kernel
theorem dM_read_282 : decode cM_read 282 = .ok (.bipush 101, 2) := by decide +kernel
theorem dM_read_284 : decode cM_read 284 = .ok (.if_icmp .ne 141, 3) := by decide +kernel
theorem dM_read_287 : decode cM_read 287 = .ok (.iinc 3 1, 3) := by decide +kernel
theorem dM_read_290 : decode cM_read 290 = .ok (.iload_n 3, 1) := by decide +kernel
theorem dM_read_291 : decode cM_read 291 = .ok (.iload 4, 2) := by decide +kernel
theorem dM_read_293 : decode cM_read 293 = .ok (.if_icmp .ge 18, 3) := by decide +kernel
theorem dM_read_296 : decode cM_read 296 = .ok (.aload_n 0, 1) := by decide +kernel
theorem dM_read_297 : decode cM_read 297 = .ok (.getfield 13, 3) := by decide +kernel
theorem dM_read_300 : decode cM_read 300 = .ok (.iload_n 3, 1) := by decide +kernel
theorem dM_read_301 : decode cM_read 301 = .ok (.iaload, 1) := by decide +kernel
theorem dM_read_302 : decode cM_read 302 = .ok (.bipush 45, 2) := by decide +kernel
theorem dM_read_304 : decode cM_read 304 = .ok (.if_icmp .ne 7, 3) := by decide +kernel
theorem dM_read_307 : decode cM_read 307 = .ok (.iconst 1, 1) := by decide +kernel
theorem dM_read_308 : decode cM_read 308 = .ok (.goto 4, 3) := by decide +kernel
theorem dM_read_311 : decode cM_read 311 = .ok (.iconst 0, 1) := by decide +kernel
theorem dM_read_312 : decode cM_read 312 = .ok (.istore 10, 2) := by decide +kernel
theorem dM_read_314 : decode cM_read 314 = .ok (.iload_n 3, 1) := by decide +kernel
theorem dM_read_315 : decode cM_read 315 = .ok (.iload_n 3, 1) := by decide +kernel
theorem dM_read_316 : decode cM_read 316 = .ok (.iload 4, 2) := by decide +kernel
theorem dM_read_318 : decode cM_read 318 = .ok (.if_icmp .ge 29, 3) := by decide +kernel
theorem dM_read_321 : decode cM_read 321 = .ok (.aload_n 0, 1) := by decide +kernel
theorem dM_read_322 : decode cM_read 322 = .ok (.getfield 13, 3) := by decide +kernel
theorem dM_read_325 : decode cM_read 325 = .ok (.iload_n 3, 1) := by decide +kernel
theorem dM_read_326 : decode cM_read 326 = .ok (.iaload, 1) := by decide +kernel
theorem dM_read_327 : decode cM_read 327 = .ok (.bipush 43, 2) := by decide +kernel
theorem dM_read_329 : decode cM_read 329 = .ok (.if_icmp .eq 14, 3) := by decide +kernel
theorem dM_read_332 : decode cM_read 332 = .ok (.aload_n 0, 1) := by decide +kernel
theorem dM_read_333 : decode cM_read 333 = .ok (.getfield 13, 3) := by decide +kernel
theorem dM_read_336 : decode cM_read 336 = .ok (.iload_n 3, 1) := by decide +kernel
theorem dM_read_337 : decode cM_read 337 = .ok (.iaload, 1) := by decide +kernel
theorem dM_read_338 : decode cM_read 338 = .ok (.bipush 45, 2) := by decide +kernel
theorem dM_read_340 : decode cM_read 340 = .ok (.if_icmp .ne 7, 3) := by decide +kernel
theorem dM_read_343 : decode cM_read 343 = .ok (.iconst 1, 1) := by decide +kernel
theorem dM_read_344 : decode cM_read 344 = .ok (.goto 4, 3) := by decide +kernel
theorem dM_read_347 : decode cM_read 347 = .ok (.iconst 0, 1) := by decide +kernel
theorem dM_read_348 : decode cM_read 348 = .ok (.iadd, 1) := by decide +kernel
theorem dM_read_349 : decode cM_read 349 = .ok (.istore_n 3, 1) := by decide +kernel
theorem dM_read_350 : decode cM_read 350 = .ok (.iload_n 3, 1) := by decide +kernel
theorem dM_read_351 : decode cM_read 351 = .ok (.istore 11, 2) := by decide +kernel
theorem dM_read_353 : decode cM_read 353 = .ok (.iload_n 3, 1) := by decide +kernel
theorem dM_read_354 : decode cM_read 354 = .ok (.iload 4, 2) := by decide +kernel
theorem dM_read_356 : decode cM_read 356 = .ok (.if_icmp .ge 46, 3) := by decide +kernel
theorem dM_read_359 : decode cM_read 359 = .ok (.aload_n 0, 1) := by decide +kernel
theorem dM_read_360 : decode cM_read 360 = .ok (.getfield 13, 3) := by decide +kernel
theorem dM_read_363 : decode cM_read 363 = .ok (.iload_n 3, 1) := by decide +kernel
theorem dM_read_364 : decode cM_read 364 = .ok (.iaload, 1) := by decide +kernel
theorem dM_read_365 : decode cM_read 365 = .ok (.invokestatic 61, 3) := by decide +kernel
theorem dM_read_368 : decode cM_read 368 = .ok (.ifCond .eq 34, 3) := by decide +kernel
theorem dM_read_371 : decode cM_read 371 = .ok (.iload_n 3, 1) := by decide +kernel
theorem dM_read_372 : decode cM_read 372 = .ok (.iload 11, 2) := by decide +kernel
theorem dM_read_374 : decode cM_read 374 = .ok (.isub, 1) := by decide +kernel
theorem dM_read_375 : decode cM_read 375 = .ok (.iconst 3, 1) := by decide +kernel
theorem dM_read_376 : decode cM_read 376 = .ok (.if_icmp .ge 26, 3) := by decide +kernel
theorem dM_read_379 : decode cM_read 379 = .ok (.bipush 10, 2) := by decide +kernel
theorem dM_read_381 : decode cM_read 381 = .ok (.iload 9, 2) := by decide +kernel
theorem dM_read_383 : decode cM_read 383 = .ok (.imul, 1) := by decide +kernel
theorem dM_read_384 : decode cM_read 384 = .ok (.aload_n 0, 1) := by decide +kernel
theorem dM_read_385 : decode cM_read 385 = .ok (.getfield 13, 3) := by decide +kernel
theorem dM_read_388 : decode cM_read 388 = .ok (.iload_n 3, 1) := by decide +kernel
theorem dM_read_389 : decode cM_read 389 = .ok (.iaload, 1) := by decide +kernel
theorem dM_read_390 : decode cM_read 390 = .ok (.iadd, 1) := by decide +kernel
theorem dM_read_391 : decode cM_read 391 = .ok (.bipush 48, 2) := by decide +kernel
theorem dM_read_393 : decode cM_read 393 = .ok (.isub, 1) := by decide +kernel
theorem dM_read_394 : decode cM_read 394 = .ok (.istore 9, 2) := by decide +kernel
theorem dM_read_396 : decode cM_read 396 = .ok (.iinc 3 1, 3) := by decide +kernel
theorem dM_read_399 : decode cM_read 399 = .ok (.goto (-46), 3) := by decide +kernel
theorem dM_read_402 : decode cM_read 402 = .ok (.iload_n 3, 1) := by decide +kernel
theorem dM_read_403 : decode cM_read 403 = .ok (.iload 11, 2) := by decide +kernel
theorem dM_read_405 : decode cM_read 405 = .ok (.if_icmp .ne 5, 3) := by decide +kernel
theorem dM_read_408 : decode cM_read 408 = .ok (.iconst 0, 1) := by decide +kernel
theorem dM_read_409 : decode cM_read 409 = .ok (.ireturn, 1) := by decide +kernel
theorem dM_read_410 : decode cM_read 410 = .ok (.iload 10, 2) := by decide +kernel
theorem dM_read_412 : decode cM_read 412 = .ok (.ifCond .eq 9, 3) := by decide +kernel
theorem dM_read_415 : decode cM_read 415 = .ok (.iload 9, 2) := by decide +kernel
theorem dM_read_417 : decode cM_read 417 = .ok (.ineg, 1) := by decide +kernel
theorem dM_read_418 : decode cM_read 418 = .ok (.goto 5, 3) := by decide +kernel
theorem dM_read_421 : decode cM_read 421 = .ok (.iload 9, 2) := by decide +kernel
theorem dM_read_423 : decode cM_read 423 = .ok (.istore 9, 2) := by decide +kernel
theorem dM_read_425 : decode cM_read 425 = .ok (.aload_n 0, 1) := by decide +kernel
theorem dM_read_426 : decode cM_read 426 = .ok (.getfield 32, 3) := by decide +kernel
theorem dM_read_429 : decode cM_read 429 = .ok (.iload_n 2, 1) := by decide +kernel
theorem dM_read_430 : decode cM_read 430 = .ok (.iload 5, 2) := by decide +kernel
theorem dM_read_432 : decode cM_read 432 = .ok (.ifCond .eq 7, 3) := by decide +kernel
theorem dM_read_435 : decode cM_read 435 = .ok (.iconst (-1), 1) := by decide +kernel
theorem dM_read_436 : decode cM_read 436 = .ok (.goto 4, 3) := by decide +kernel
theorem dM_read_439 : decode cM_read 439 = .ok (.iconst 1, 1) := by decide +kernel
theorem dM_read_440 : decode cM_read 440 = .ok (.iastore, 1) := by decide +kernel
theorem dM_read_441 : decode cM_read 441 = .ok (.aload_n 0, 1) := by decide +kernel
theorem dM_read_442 : decode cM_read 442 = .ok (.getfield 26, 3) := by decide +kernel
theorem dM_read_445 : decode cM_read 445 = .ok (.iload_n 2, 1) := by decide +kernel
theorem dM_read_446 : decode cM_read 446 = .ok (.iload 6, 2) := by decide +kernel
theorem dM_read_448 : decode cM_read 448 = .ok (.iastore, 1) := by decide +kernel
theorem dM_read_449 : decode cM_read 449 = .ok (.aload_n 0, 1) := by decide +kernel
theorem dM_read_450 : decode cM_read 450 = .ok (.getfield 29, 3) := by decide +kernel
theorem dM_read_453 : decode cM_read 453 = .ok (.iload_n 2, 1) := by decide +kernel
theorem dM_read_454 : decode cM_read 454 = .ok (.iload 9, 2) := by decide +kernel
theorem dM_read_456 : decode cM_read 456 = .ok (.iload 7, 2) := by decide +kernel
theorem dM_read_458 : decode cM_read 458 = .ok (.isub, 1) := by decide +kernel
theorem dM_read_459 : decode cM_read 459 = .ok (.iastore, 1) := by decide +kernel
theorem dM_read_460 : decode cM_read 460 = .ok (.aload_n 0, 1) := by decide +kernel
theorem dM_read_461 : decode cM_read 461 = .ok (.iload_n 2, 1) := by decide +kernel
theorem dM_read_462 : decode cM_read 462 = .ok (.invokevirtual 64, 3) := by decide +kernel
theorem dM_read_465 : decode cM_read 465 = .ok (.iload_n 3, 1) := by decide +kernel
theorem dM_read_466 : decode cM_read 466 = .ok (.iload 4, 2) := by decide +kernel
theorem dM_read_468 : decode cM_read 468 = .ok (.if_icmp .ne 7, 3) := by decide +kernel
theorem dM_read_471 : decode cM_read 471 = .ok (.iconst 1, 1) := by decide +kernel
theorem dM_read_472 : decode cM_read 472 = .ok (.goto 4, 3) := by decide +kernel
theorem dM_read_475 : decode cM_read 475 = .ok (.iconst 0, 1) := by decide +kernel
theorem dM_read_476 : decode cM_read 476 = .ok (.ireturn, 1) := by decide +kernel
theorem dM_high_0 : decode cM_high 0 = .ok (.aload_n 0, 1) := by decide +kernel
theorem dM_high_1 : decode cM_high 1 = .ok (.getfield 26, 3) := by decide +kernel
theorem dM_high_4 : decode cM_high 4 = .ok (.iload_n 1, 1) := by decide +kernel
theorem dM_high_5 : decode cM_high 5 = .ok (.iaload, 1) := by decide +kernel
theorem dM_high_6 : decode cM_high 6 = .ok (.iconst 1, 1) := by decide +kernel
theorem dM_high_7 : decode cM_high 7 = .ok (.isub, 1) := by decide +kernel
theorem dM_high_8 : decode cM_high 8 = .ok (.aload_n 0, 1) := by decide +kernel
theorem dM_high_9 : decode cM_high 9 = .ok (.getfield 29, 3) := by decide +kernel
theorem dM_high_12 : decode cM_high 12 = .ok (.iload_n 1, 1) := by decide +kernel
theorem dM_high_13 : decode cM_high 13 = .ok (.iaload, 1) := by decide +kernel
theorem dM_high_14 : decode cM_high 14 = .ok (.iadd, 1) := by decide +kernel
theorem dM_high_15 : decode cM_high 15 = .ok (.ireturn, 1) := by decide +kernel
theorem dM_digit_0 : decode cM_digit 0 = .ok (.aload_n 0, 1) := by decide +kernel
theorem dM_digit_1 : decode cM_digit 1 = .ok (.iload_n 1, 1) := by decide +kernel
theorem dM_digit_2 : decode cM_digit 2 = .ok (.invokevirtual 67, 3) := by decide +kernel
theorem dM_digit_5 : decode cM_digit 5 = .ok (.iload_n 2, 1) := by decide +kernel
theorem dM_digit_6 : decode cM_digit 6 = .ok (.isub, 1) := by decide +kernel
theorem dM_digit_7 : decode cM_digit 7 = .ok (.istore_n 3, 1) := by decide +kernel
theorem dM_digit_8 : decode cM_digit 8 = .ok (.iload_n 3, 1) := by decide +kernel
theorem dM_digit_9 : decode cM_digit 9 = .ok (.ifCond .lt 28, 3) := by decide +kernel
theorem dM_digit_12 : decode cM_digit 12 = .ok (.iload_n 3, 1) := by decide +kernel
theorem dM_digit_13 : decode cM_digit 13 = .ok (.aload_n 0, 1) := by decide +kernel
theorem dM_digit_14 : decode cM_digit 14 = .ok (.getfield 26, 3) := by decide +kernel
theorem dM_digit_17 : decode cM_digit 17 = .ok (.iload_n 1, 1) := by decide +kernel
theorem dM_digit_18 : decode cM_digit 18 = .ok (.iaload, 1) := by decide +kernel
theorem dM_digit_19 : decode cM_digit 19 = .ok (.if_icmp .ge 18, 3) := by decide +kernel
theorem dM_digit_22 : decode cM_digit 22 = .ok (.aload_n 0, 1) := by decide +kernel
theorem dM_digit_23 : decode cM_digit 23 = .ok (.getfield 23, 3) := by decide +kernel
theorem dM_digit_26 : decode cM_digit 26 = .ok (.sipush 2600, 3) := by decide +kernel
theorem dM_digit_29 : decode cM_digit 29 = .ok (.iload_n 1, 1) := by decide +kernel
theorem dM_digit_30 : decode cM_digit 30 = .ok (.imul, 1) := by decide +kernel
theorem dM_digit_31 : decode cM_digit 31 = .ok (.iload_n 3, 1) := by decide +kernel
theorem dM_digit_32 : decode cM_digit 32 = .ok (.iadd, 1) := by decide +kernel
theorem dM_digit_33 : decode cM_digit 33 = .ok (.iaload, 1) := by decide +kernel
theorem dM_digit_34 : decode cM_digit 34 = .ok (.goto 4, 3) := by decide +kernel
theorem dM_digit_37 : decode cM_digit 37 = .ok (.iconst 0, 1) := by decide +kernel
theorem dM_digit_38 : decode cM_digit 38 = .ok (.ireturn, 1) := by decide +kernel
theorem dM_round_0 : decode cM_round 0 = .ok (.aload_n 0, 1) := by decide +kernel
theorem dM_round_1 : decode cM_round 1 = .ok (.getfield 26, 3) := by decide +kernel
theorem dM_round_4 : decode cM_round 4 = .ok (.iload_n 1, 1) := by decide +kernel
theorem dM_round_5 : decode cM_round 5 = .ok (.iaload, 1) := by decide +kernel
theorem dM_round_6 : decode cM_round 6 = .ok (.iload_n 2, 1) := by decide +kernel
theorem dM_round_7 : decode cM_round 7 = .ok (.if_icmp .gt 4, 3) := by decide +kernel
theorem dM_round_10 : decode cM_round 10 = .ok (.return_, 1) := by decide +kernel
theorem dM_round_11 : decode cM_round 11 = .ok (.aload_n 0, 1) := by decide +kernel
theorem dM_round_12 : decode cM_round 12 = .ok (.getfield 23, 3) := by decide +kernel
theorem dM_round_15 : decode cM_round 15 = .ok (.sipush 2600, 3) := by decide +kernel
theorem dM_round_18 : decode cM_round 18 = .ok (.iload_n 1, 1) := by decide +kernel
theorem dM_round_19 : decode cM_round 19 = .ok (.imul, 1) := by decide +kernel
theorem dM_round_20 : decode cM_round 20 = .ok (.iload_n 2, 1) := by decide +kernel
theorem dM_round_21 : decode cM_round 21 = .ok (.iadd, 1) := by decide +kernel
theorem dM_round_22 : decode cM_round 22 = .ok (.iaload, 1) := by decide +kernel
theorem dM_round_23 : decode cM_round 23 = .ok (.iconst 5, 1) := by decide +kernel
theorem dM_round_24 : decode cM_round 24 = .ok (.if_icmp .lt 7, 3) := by decide +kernel
theorem dM_round_27 : decode cM_round 27 = .ok (.iconst 1, 1) := by decide +kernel
theorem dM_round_28 : decode cM_round 28 = .ok (.goto 4, 3) := by decide +kernel
theorem dM_round_31 : decode cM_round 31 = .ok (.iconst 0, 1) := by decide +kernel
theorem dM_round_32 : decode cM_round 32 = .ok (.istore_n 3, 1) := by decide +kernel
theorem dM_round_33 : decode cM_round 33 = .ok (.aload_n 0, 1) := by decide +kernel
theorem dM_round_34 : decode cM_round 34 = .ok (.getfield 29, 3) := by decide +kernel
theorem dM_round_37 : decode cM_round 37 = .ok (.iload_n 1, 1) := by decide +kernel
theorem dM_round_38 : decode cM_round 38 = .ok (.dup2, 1) := by decide +kernel
theorem dM_round_39 : decode cM_round 39 = .ok (.iaload, 1) := by decide +kernel
theorem dM_round_40 : decode cM_round 40 = .ok (.aload_n 0, 1) := by decide +kernel
theorem dM_round_41 : decode cM_round 41 = .ok (.getfield 26, 3) := by decide +kernel
theorem dM_round_44 : decode cM_round 44 = .ok (.iload_n 1, 1) := by decide +kernel
theorem dM_round_45 : decode cM_round 45 = .ok (.iaload, 1) := by decide +kernel
theorem dM_round_46 : decode cM_round 46 = .ok (.iload_n 2, 1) := by decide +kernel
theorem dM_round_47 : decode cM_round 47 = .ok (.isub, 1) := by decide +kernel
theorem dM_round_48 : decode cM_round 48 = .ok (.iadd, 1) := by decide +kernel
theorem dM_round_49 : decode cM_round 49 = .ok (.iastore, 1) := by decide +kernel
theorem dM_round_50 : decode cM_round 50 = .ok (.aload_n 0, 1) := by decide +kernel
theorem dM_round_51 : decode cM_round 51 = .ok (.getfield 26, 3) := by decide +kernel
theorem dM_round_54 : decode cM_round 54 = .ok (.iload_n 1, 1) := by decide +kernel
theorem dM_round_55 : decode cM_round 55 = .ok (.iload_n 2, 1) := by decide +kernel
theorem dM_round_56 : decode cM_round 56 = .ok (.iastore, 1) := by decide +kernel
theorem dM_round_57 : decode cM_round 57 = .ok (.iload_n 2, 1) := by decide +kernel
theorem dM_round_58 : decode cM_round 58 = .ok (.iconst 1, 1) := by decide +kernel
theorem dM_round_59 : decode cM_round 59 = .ok (.isub, 1) := by decide +kernel
theorem dM_round_60 : decode cM_round 60 = .ok (.istore 4, 2) := by decide +kernel
theorem dM_round_62 : decode cM_round 62 = .ok (.iload 4, 2) := by decide +kernel
theorem dM_round_64 : decode cM_round 64 = .ok (.ifCond .lt 73, 3) := by decide +kernel
theorem dM_round_67 : decode cM_round 67 = .ok (.iload_n 3, 1) := by decide +kernel
theorem dM_round_68 : decode cM_round 68 = .ok (.ifCond .eq 69, 3) := by decide +kernel
theorem dM_round_71 : decode cM_round 71 = .ok (.aload_n 0, 1) := by decide +kernel
theorem dM_round_72 : decode cM_round 72 = .ok (.getfield 23, 3) := by decide +kernel
theorem dM_round_75 : decode cM_round 75 = .ok (.sipush 2600, 3) := by decide +kernel
theorem dM_round_78 : decode cM_round 78 = .ok (.iload_n 1, 1) := by decide +kernel
theorem dM_round_79 : decode cM_round 79 = .ok (.imul, 1) := by decide +kernel
theorem dM_round_80 : decode cM_round 80 = .ok (.iload 4, 2) := by decide +kernel
theorem dM_round_82 : decode cM_round 82 = .ok (.iadd, 1) := by decide +kernel
theorem dM_round_83 : decode cM_round 83 = .ok (.iaload, 1) := by decide +kernel
theorem dM_round_84 : decode cM_round 84 = .ok (.bipush 9, 2) := by decide +kernel
theorem dM_round_86 : decode cM_round 86 = .ok (.if_icmp .ne 7, 3) := by decide +kernel
theorem dM_round_89 : decode cM_round 89 = .ok (.iconst 1, 1) := by decide +kernel
theorem dM_round_90 : decode cM_round 90 = .ok (.goto 4, 3) := by decide +kernel
theorem dM_round_93 : decode cM_round 93 = .ok (.iconst 0, 1) := by decide +kernel
theorem dM_round_94 : decode cM_round 94 = .ok (.istore_n 3, 1) := by decide +kernel
theorem dM_round_95 : decode cM_round 95 = .ok (.aload_n 0, 1) := by decide +kernel
theorem dM_round_96 : decode cM_round 96 = .ok (.getfield 23, 3) := by decide +kernel
theorem dM_round_99 : decode cM_round 99 = .ok (.sipush 2600, 3) := by decide +kernel
theorem dM_round_102 : decode cM_round 102 = .ok (.iload_n 1, 1) := by decide +kernel
theorem dM_round_103 : decode cM_round 103 = .ok (.imul, 1) := by decide +kernel
theorem dM_round_104 : decode cM_round 104 = .ok (.iload 4, 2) := by decide +kernel
theorem dM_round_106 : decode cM_round 106 = .ok (.iadd, 1) := by decide +kernel
theorem dM_round_107 : decode cM_round 107 = .ok (.iload_n 3, 1) := by decide +kernel
theorem dM_round_108 : decode cM_round 108 = .ok (.ifCond .eq 7, 3) := by decide +kernel
theorem dM_round_111 : decode cM_round 111 = .ok (.iconst 0, 1) := by decide +kernel
theorem dM_round_112 : decode cM_round 112 = .ok (.goto 18, 3) := by decide +kernel
theorem dM_round_115 : decode cM_round 115 = .ok (.aload_n 0, 1) := by decide +kernel
theorem dM_round_116 : decode cM_round 116 = .ok (.getfield 23, 3) := by decide +kernel
theorem dM_round_119 : decode cM_round 119 = .ok (.sipush 2600, 3) := by decide +kernel
theorem dM_round_122 : decode cM_round 122 = .ok (.iload_n 1, 1) := by decide +kernel
theorem dM_round_123 : decode cM_round 123 = .ok (.imul, 1) := by decide +kernel
theorem dM_round_124 : decode cM_round 124 = .ok (.iload 4, 2) := by decide +kernel
theorem dM_round_126 : decode cM_round 126 = .ok (.iadd, 1) := by decide +kernel
theorem dM_round_127 : decode cM_round 127 = .ok (.iaload, 1) := by decide +kernel
theorem dM_round_128 : decode cM_round 128 = .ok (.iconst 1, 1) := by decide +kernel
theorem dM_round_129 : decode cM_round 129 = .ok (.iadd, 1) := by decide +kernel
theorem dM_round_130 : decode cM_round 130 = .ok (.iastore, 1) := by decide +kernel
theorem dM_round_131 : decode cM_round 131 = .ok (.iinc 4 (-1), 3) := by decide +kernel
theorem dM_round_134 : decode cM_round 134 = .ok (.goto (-72), 3) := by decide +kernel
theorem dM_round_137 : decode cM_round 137 = .ok (.iload_n 3, 1) := by decide +kernel
theorem dM_round_138 : decode cM_round 138 = .ok (.ifCond .ne 4, 3) := by decide +kernel
theorem dM_round_141 : decode cM_round 141 = .ok (.return_, 1) := by decide +kernel
theorem dM_round_142 : decode cM_round 142 = .ok (.aload_n 0, 1) := by decide +kernel
theorem dM_round_143 : decode cM_round 143 = .ok (.getfield 23, 3) := by decide +kernel
theorem dM_round_146 : decode cM_round 146 = .ok (.sipush 2600, 3) := by decide +kernel
theorem dM_round_149 : decode cM_round 149 = .ok (.iload_n 1, 1) := by decide +kernel
theorem dM_round_150 : decode cM_round 150 = .ok (.imul, 1) := by decide +kernel
theorem dM_round_151 : decode cM_round 151 = .ok (.iconst 1, 1) := by decide +kernel
theorem dM_round_152 : decode cM_round 152 = .ok (.iastore, 1) := by decide +kernel
theorem dM_round_153 : decode cM_round 153 = .ok (.aload_n 0, 1) := by decide +kernel
theorem dM_round_154 : decode cM_round 154 = .ok (.getfield 29, 3) := by decide +kernel
theorem dM_round_157 : decode cM_round 157 = .ok (.iload_n 1, 1) := by decide +kernel
theorem dM_round_158 : decode cM_round 158 = .ok (.dup2, 1) := by decide +kernel
theorem dM_round_159 : decode cM_round 159 = .ok (.iaload, 1) := by decide +kernel
theorem dM_round_160 : decode cM_round 160 = .ok (.iconst 1, 1) := by decide +kernel
theorem dM_round_161 : decode cM_round 161 = .ok (.iadd, 1) := by decide +kernel
theorem dM_round_162 : decode cM_round 162 = .ok (.iastore, 1) := by decide +kernel
theorem dM_round_163 : decode cM_round 163 = .ok (.return_, 1) := by decide +kernel
theorem dM_noZeros_0 : decode cM_noZeros 0 = .ok (.aload_n 0, 1) := by decide +kernel
theorem dM_noZeros_1 : decode cM_noZeros 1 = .ok (.getfield 26, 3) := by decide +kernel
theorem dM_noZeros_4 : decode cM_noZeros 4 = .ok (.iload_n 1, 1) := by decide +kernel
theorem dM_noZeros_5 : decode cM_noZeros 5 = .ok (.iaload, 1) := by decide +kernel
theorem dM_noZeros_6 : decode cM_noZeros 6 = .ok (.iconst 1, 1) := by decide +kernel
theorem dM_noZeros_7 : decode cM_noZeros 7 = .ok (.if_icmp .le 48, 3) := by decide +kernel
theorem dM_noZeros_10 : decode cM_noZeros 10 = .ok (.aload_n 0, 1) := by decide +kernel
theorem dM_noZeros_11 : decode cM_noZeros 11 = .ok (.getfield 23, 3) := by decide +kernel
theorem dM_noZeros_14 : decode cM_noZeros 14 = .ok (.sipush 2600, 3) := by decide +kernel
theorem dM_noZeros_17 : decode cM_noZeros 17 = .ok (.iload_n 1, 1) := by decide +kernel
theorem dM_noZeros_18 : decode cM_noZeros 18 = .ok (.imul, 1) := by decide +kernel
theorem dM_noZeros_19 : decode cM_noZeros 19 = .ok (.aload_n 0, 1) := by decide +kernel
theorem dM_noZeros_20 : decode cM_noZeros 20 = .ok (.getfield 26, 3) := by decide +kernel
theorem dM_noZeros_23 : decode cM_noZeros 23 = .ok (.iload_n 1, 1) := by decide +kernel
theorem dM_noZeros_24 : decode cM_noZeros 24 = .ok (.iaload, 1) := by decide +kernel
theorem dM_noZeros_25 : decode cM_noZeros 25 = .ok (.iadd, 1) := by decide +kernel
theorem dM_noZeros_26 : decode cM_noZeros 26 = .ok (.iconst 1, 1) := by decide +kernel
theorem dM_noZeros_27 : decode cM_noZeros 27 = .ok (.isub, 1) := by decide +kernel
theorem dM_noZeros_28 : decode cM_noZeros 28 = .ok (.iaload, 1) := by decide +kernel
theorem dM_noZeros_29 : decode cM_noZeros 29 = .ok (.ifCond .ne 26, 3) := by decide +kernel
theorem dM_noZeros_32 : decode cM_noZeros 32 = .ok (.aload_n 0, 1) := by decide +kernel
theorem dM_noZeros_33 : decode cM_noZeros 33 = .ok (.getfield 26, 3) := by decide +kernel
theorem dM_noZeros_36 : decode cM_noZeros 36 = .ok (.iload_n 1, 1) := by decide +kernel
theorem dM_noZeros_37 : decode cM_noZeros 37 = .ok (.dup2, 1) := by decide +kernel
theorem dM_noZeros_38 : decode cM_noZeros 38 = .ok (.iaload, 1) := by decide +kernel
theorem dM_noZeros_39 : decode cM_noZeros 39 = .ok (.iconst 1, 1) := by decide +kernel
theorem dM_noZeros_40 : decode cM_noZeros 40 = .ok (.isub, 1) := by decide +kernel
theorem dM_noZeros_41 : decode cM_noZeros 41 = .ok (.iastore, 1) := by decide +kernel
theorem dM_noZeros_42 : decode cM_noZeros 42 = .ok (.aload_n 0, 1) := by decide +kernel
theorem dM_noZeros_43 : decode cM_noZeros 43 = .ok (.getfield 29, 3) := by decide +kernel
theorem dM_noZeros_46 : decode cM_noZeros 46 = .ok (.iload_n 1, 1) := by decide +kernel
theorem dM_noZeros_47 : decode cM_noZeros 47 = .ok (.dup2, 1) := by decide +kernel
theorem dM_noZeros_48 : decode cM_noZeros 48 = .ok (.iaload, 1) := by decide +kernel
theorem dM_noZeros_49 : decode cM_noZeros 49 = .ok (.iconst 1, 1) := by decide +kernel
theorem dM_noZeros_50 : decode cM_noZeros 50 = .ok (.iadd, 1) := by decide +kernel
theorem dM_noZeros_51 : decode cM_noZeros 51 = .ok (.iastore, 1) := by decide +kernel
theorem dM_noZeros_52 : decode cM_noZeros 52 = .ok (.goto (-52), 3) := by decide +kernel
theorem dM_noZeros_55 : decode cM_noZeros 55 = .ok (.return_, 1) := by decide +kernel
theorem dM_add_0 : decode cM_add 0 = .ok (.iload_n 3, 1) := by decide +kernel
theorem dM_add_1 : decode cM_add 1 = .ok (.ifCond .eq 13, 3) := by decide +kernel
theorem dM_add_4 : decode cM_add 4 = .ok (.aload_n 0, 1) := by decide +kernel
theorem dM_add_5 : decode cM_add 5 = .ok (.getfield 32, 3) := by decide +kernel
theorem dM_add_8 : decode cM_add 8 = .ok (.iload_n 2, 1) := by decide +kernel
theorem dM_add_9 : decode cM_add 9 = .ok (.iaload, 1) := by decide +kernel
theorem dM_add_10 : decode cM_add 10 = .ok (.ineg, 1) := by decide +kernel
theorem dM_add_11 : decode cM_add 11 = .ok (.goto 9, 3) := by decide +kernel
theorem dM_add_14 : decode cM_add 14 = .ok (.aload_n 0, 1) := by decide +kernel
theorem dM_add_15 : decode cM_add 15 = .ok (.getfield 32, 3) := by decide +kernel
theorem dM_add_18 : decode cM_add 18 = .ok (.iload_n 2, 1) := by decide +kernel
theorem dM_add_19 : decode cM_add 19 = .ok (.iaload, 1) := by decide +kernel
theorem dM_add_20 : decode cM_add 20 = .ok (.istore 5, 2) := by decide +kernel
theorem dM_add_22 : decode cM_add 22 = .ok (.aload_n 0, 1) := by decide +kernel
theorem dM_add_23 : decode cM_add 23 = .ok (.getfield 32, 3) := by decide +kernel
theorem dM_add_26 : decode cM_add 26 = .ok (.iload_n 2, 1) := by decide +kernel
theorem dM_add_27 : decode cM_add 27 = .ok (.iaload, 1) := by decide +kernel
theorem dM_add_28 : decode cM_add 28 = .ok (.ifCond .ne 11, 3) := by decide +kernel
theorem dM_add_31 : decode cM_add 31 = .ok (.aload_n 0, 1) := by decide +kernel
theorem dM_add_32 : decode cM_add 32 = .ok (.iload_n 1, 1) := by decide +kernel
theorem dM_add_33 : decode cM_add 33 = .ok (.iload 4, 2) := by decide +kernel
theorem dM_add_35 : decode cM_add 35 = .ok (.invokevirtual 71, 3) := by decide +kernel
theorem dM_add_38 : decode cM_add 38 = .ok (.return_, 1) := by decide +kernel
theorem dM_add_39 : decode cM_add 39 = .ok (.aload_n 0, 1) := by decide +kernel
theorem dM_add_40 : decode cM_add 40 = .ok (.getfield 32, 3) := by decide +kernel
theorem dM_add_43 : decode cM_add 43 = .ok (.iload_n 1, 1) := by decide +kernel
theorem dM_add_44 : decode cM_add 44 = .ok (.iaload, 1) := by decide +kernel
theorem dM_add_45 : decode cM_add 45 = .ok (.ifCond .ne 20, 3) := by decide +kernel
theorem dM_add_48 : decode cM_add 48 = .ok (.aload_n 0, 1) := by decide +kernel
theorem dM_add_49 : decode cM_add 49 = .ok (.iload_n 2, 1) := by decide +kernel
theorem dM_add_50 : decode cM_add 50 = .ok (.iload 4, 2) := by decide +kernel
theorem dM_add_52 : decode cM_add 52 = .ok (.invokevirtual 71, 3) := by decide +kernel
theorem dM_add_55 : decode cM_add 55 = .ok (.aload_n 0, 1) := by decide +kernel
theorem dM_add_56 : decode cM_add 56 = .ok (.getfield 32, 3) := by decide +kernel
theorem dM_add_59 : decode cM_add 59 = .ok (.iload 4, 2) := by decide +kernel
theorem dM_add_61 : decode cM_add 61 = .ok (.iload 5, 2) := by decide +kernel
theorem dM_add_63 : decode cM_add 63 = .ok (.iastore, 1) := by decide +kernel
theorem dM_add_64 : decode cM_add 64 = .ok (.return_, 1) := by decide +kernel
theorem dM_add_65 : decode cM_add 65 = .ok (.aload_n 0, 1) := by decide +kernel
theorem dM_add_66 : decode cM_add 66 = .ok (.getfield 29, 3) := by decide +kernel
theorem dM_add_69 : decode cM_add 69 = .ok (.iload_n 1, 1) := by decide +kernel
theorem dM_add_70 : decode cM_add 70 = .ok (.iaload, 1) := by decide +kernel
theorem dM_add_71 : decode cM_add 71 = .ok (.aload_n 0, 1) := by decide +kernel
theorem dM_add_72 : decode cM_add 72 = .ok (.getfield 29, 3) := by decide +kernel
theorem dM_add_75 : decode cM_add 75 = .ok (.iload_n 2, 1) := by decide +kernel
theorem dM_add_76 : decode cM_add 76 = .ok (.iaload, 1) := by decide +kernel
theorem dM_add_77 : decode cM_add 77 = .ok (.if_icmp .ge 12, 3) := by decide +kernel
theorem dM_add_80 : decode cM_add 80 = .ok (.aload_n 0, 1) := by decide +kernel
theorem dM_add_81 : decode cM_add 81 = .ok (.getfield 29, 3) := by decide +kernel
theorem dM_add_84 : decode cM_add 84 = .ok (.iload_n 1, 1) := by decide +kernel
theorem dM_add_85 : decode cM_add 85 = .ok (.iaload, 1) := by decide +kernel
theorem dM_add_86 : decode cM_add 86 = .ok (.goto 9, 3) := by decide +kernel
theorem dM_add_89 : decode cM_add 89 = .ok (.aload_n 0, 1) := by decide +kernel
theorem dM_add_90 : decode cM_add 90 = .ok (.getfield 29, 3) := by decide +kernel
theorem dM_add_93 : decode cM_add 93 = .ok (.iload_n 2, 1) := by decide +kernel
theorem dM_add_94 : decode cM_add 94 = .ok (.iaload, 1) := by decide +kernel
theorem dM_add_95 : decode cM_add 95 = .ok (.istore 6, 2) := by decide +kernel
theorem dM_add_97 : decode cM_add 97 = .ok (.aload_n 0, 1) := by decide +kernel
theorem dM_add_98 : decode cM_add 98 = .ok (.iload_n 1, 1) := by decide +kernel
theorem dM_add_99 : decode cM_add 99 = .ok (.invokevirtual 67, 3) := by decide +kernel
theorem dM_add_102 : decode cM_add 102 = .ok (.aload_n 0, 1) := by decide +kernel
theorem dM_add_103 : decode cM_add 103 = .ok (.iload_n 2, 1) := by decide +kernel
theorem dM_add_104 : decode cM_add 104 = .ok (.invokevirtual 67, 3) := by decide +kernel
theorem dM_add_107 : decode cM_add 107 = .ok (.if_icmp .le 11, 3) := by decide +kernel
theorem dM_add_110 : decode cM_add 110 = .ok (.aload_n 0, 1) := by decide +kernel
theorem dM_add_111 : decode cM_add 111 = .ok (.iload_n 1, 1) := by decide +kernel
theorem dM_add_112 : decode cM_add 112 = .ok (.invokevirtual 67, 3) := by decide +kernel
theorem dM_add_115 : decode cM_add 115 = .ok (.goto 8, 3) := by decide +kernel
theorem dM_add_118 : decode cM_add 118 = .ok (.aload_n 0, 1) := by decide +kernel
theorem dM_add_119 : decode cM_add 119 = .ok (.iload_n 2, 1) := by decide +kernel
theorem dM_add_120 : decode cM_add 120 = .ok (.invokevirtual 67, 3) := by decide +kernel
theorem dM_add_123 : decode cM_add 123 = .ok (.iconst 1, 1) := by decide +kernel
theorem dM_add_124 : decode cM_add 124 = .ok (.iadd, 1) := by decide +kernel
theorem dM_add_125 : decode cM_add 125 = .ok (.istore 7, 2) := by decide +kernel
theorem dM_add_127 : decode cM_add 127 = .ok (.iconst 0, 1) := by decide +kernel
theorem dM_add_128 : decode cM_add 128 = .ok (.istore 8, 2) := by decide +kernel
theorem dM_add_130 : decode cM_add 130 = .ok (.iload 7, 2) := by decide +kernel
theorem dM_add_132 : decode cM_add 132 = .ok (.istore 9, 2) := by decide +kernel
theorem dM_add_134 : decode cM_add 134 = .ok (.iload 9, 2) := by decide +kernel
theorem dM_add_136 : decode cM_add 136 = .ok (.iload 6, 2) := by decide +kernel
theorem dM_add_138 : decode cM_add 138 = .ok (.if_icmp .lt 31, 3) := by decide +kernel
theorem dM_add_141 : decode cM_add 141 = .ok (.iload 8, 2) := by decide +kernel
theorem dM_add_143 : decode cM_add 143 = .ok (.ifCond .ne 26, 3) := by decide +kernel
theorem dM_add_146 : decode cM_add 146 = .ok (.aload_n 0, 1) := by decide +kernel
theorem dM_add_147 : decode cM_add 147 = .ok (.iload_n 1, 1) := by decide +kernel
theorem dM_add_148 : decode cM_add 148 = .ok (.iload 9, 2) := by decide +kernel
theorem dM_add_150 : decode cM_add 150 = .ok (.invokevirtual 75, 3) := by decide +kernel
theorem dM_add_153 : decode cM_add 153 = .ok (.aload_n 0, 1) := by decide +kernel
theorem dM_add_154 : decode cM_add 154 = .ok (.iload_n 2, 1) := by decide +kernel
theorem dM_add_155 : decode cM_add 155 = .ok (.iload 9, 2) := by decide +kernel
theorem dM_add_157 : decode cM_add 157 = .ok (.invokevirtual 75, 3) := by decide +kernel
theorem dM_add_160 : decode cM_add 160 = .ok (.isub, 1) := by decide +kernel
theorem dM_add_161 : decode cM_add 161 = .ok (.istore 8, 2) := by decide +kernel
theorem dM_add_163 : decode cM_add 163 = .ok (.iinc 9 (-1), 3) := by decide +kernel
theorem dM_add_166 : decode cM_add 166 = .ok (.goto (-32), 3) := by decide +kernel
theorem dM_add_169 : decode cM_add 169 = .ok (.aload_n 0, 1) := by decide +kernel
theorem dM_add_170 : decode cM_add 170 = .ok (.getfield 32, 3) := by decide +kernel
theorem dM_add_173 : decode cM_add 173 = .ok (.iload_n 1, 1) := by decide +kernel
theorem dM_add_174 : decode cM_add 174 = .ok (.iaload, 1) := by decide +kernel
theorem dM_add_175 : decode cM_add 175 = .ok (.iload 5, 2) := by decide +kernel
theorem dM_add_177 : decode cM_add 177 = .ok (.if_icmp .ne 7, 3) := by decide +kernel
theorem dM_add_180 : decode cM_add 180 = .ok (.iconst 1, 1) := by decide +kernel
theorem dM_add_181 : decode cM_add 181 = .ok (.goto 4, 3) := by decide +kernel
theorem dM_add_184 : decode cM_add 184 = .ok (.iconst 0, 1) := by decide +kernel
theorem dM_add_185 : decode cM_add 185 = .ok (.istore 9, 2) := by decide +kernel
theorem dM_add_187 : decode cM_add 187 = .ok (.iconst 0, 1) := by decide +kernel
theorem dM_add_188 : decode cM_add 188 = .ok (.istore 10, 2) := by decide +kernel
theorem dM_add_190 : decode cM_add 190 = .ok (.iload 6, 2) := by decide +kernel
theorem dM_add_192 : decode cM_add 192 = .ok (.istore 11, 2) := by decide +kernel
theorem dM_add_194 : decode cM_add 194 = .ok (.iload 11, 2) := by decide +kernel
theorem dM_add_196 : decode cM_add 196 = .ok (.iload 7, 2) := by decide +kernel
theorem dM_add_198 : decode cM_add 198 = .ok (.if_icmp .gt 126, 3) := by decide +kernel
theorem dM_add_201 : decode cM_add 201 = .ok (.iload 10, 2) := by decide +kernel
theorem dM_add_203 : decode cM_add 203 = .ok (.iload 9, 2) := by decide +kernel
theorem dM_add_205 : decode cM_add 205 = .ok (.ifCond .eq 21, 3) := by decide +kernel
theorem dM_add_208 : decode cM_add 208 = .ok (.aload_n 0, 1) := by decide +kernel
theorem dM_add_209 : decode cM_add 209 = .ok (.iload_n 1, 1) := by decide +kernel
theorem dM_add_210 : decode cM_add 210 = .ok (.iload 11, 2) := by decide +kernel
theorem dM_add_212 : decode cM_add 212 = .ok (.invokevirtual 75, 3) := by decide +kernel
theorem dM_add_215 : decode cM_add 215 = .ok (.aload_n 0, 1) := by decide +kernel
theorem dM_add_216 : decode cM_add 216 = .ok (.iload_n 2, 1) := by decide +kernel
theorem dM_add_217 : decode cM_add 217 = .ok (.iload 11, 2) := by decide +kernel
theorem dM_add_219 : decode cM_add 219 = .ok (.invokevirtual 75, 3) := by decide +kernel
theorem dM_add_222 : decode cM_add 222 = .ok (.iadd, 1) := by decide +kernel
theorem dM_add_223 : decode cM_add 223 = .ok (.goto 41, 3) := by decide +kernel
theorem dM_add_226 : decode cM_add 226 = .ok (.iload 8, 2) := by decide +kernel
theorem dM_add_228 : decode cM_add 228 = .ok (.ifCond .lt 21, 3) := by decide +kernel
theorem dM_add_231 : decode cM_add 231 = .ok (.aload_n 0, 1) := by decide +kernel
theorem dM_add_232 : decode cM_add 232 = .ok (.iload_n 1, 1) := by decide +kernel
theorem dM_add_233 : decode cM_add 233 = .ok (.iload 11, 2) := by decide +kernel
theorem dM_add_235 : decode cM_add 235 = .ok (.invokevirtual 75, 3) := by decide +kernel
theorem dM_add_238 : decode cM_add 238 = .ok (.aload_n 0, 1) := by decide +kernel
theorem dM_add_239 : decode cM_add 239 = .ok (.iload_n 2, 1) := by decide +kernel
theorem dM_add_240 : decode cM_add 240 = .ok (.iload 11, 2) := by decide +kernel
theorem dM_add_242 : decode cM_add 242 = .ok (.invokevirtual 75, 3) := by decide +kernel
theorem dM_add_245 : decode cM_add 245 = .ok (.isub, 1) := by decide +kernel
theorem dM_add_246 : decode cM_add 246 = .ok (.goto 18, 3) := by decide +kernel
theorem dM_add_249 : decode cM_add 249 = .ok (.aload_n 0, 1) := by decide +kernel
theorem dM_add_250 : decode cM_add 250 = .ok (.iload_n 2, 1) := by decide +kernel
theorem dM_add_251 : decode cM_add 251 = .ok (.iload 11, 2) := by decide +kernel
theorem dM_add_253 : decode cM_add 253 = .ok (.invokevirtual 75, 3) := by decide +kernel
theorem dM_add_256 : decode cM_add 256 = .ok (.aload_n 0, 1) := by decide +kernel
theorem dM_add_257 : decode cM_add 257 = .ok (.iload_n 1, 1) := by decide +kernel
theorem dM_add_258 : decode cM_add 258 = .ok (.iload 11, 2) := by decide +kernel
theorem dM_add_260 : decode cM_add 260 = .ok (.invokevirtual 75, 3) := by decide +kernel
theorem dM_add_263 : decode cM_add 263 = .ok (.isub, 1) := by decide +kernel
theorem dM_add_264 : decode cM_add 264 = .ok (.iadd, 1) := by decide +kernel
theorem dM_add_265 : decode cM_add 265 = .ok (.istore 12, 2) := by decide +kernel
theorem dM_add_267 : decode cM_add 267 = .ok (.iload 12, 2) := by decide +kernel
theorem dM_add_269 : decode cM_add 269 = .ok (.ifCond .ge 7, 3) := by decide +kernel
theorem dM_add_272 : decode cM_add 272 = .ok (.iconst (-1), 1) := by decide +kernel
theorem dM_add_273 : decode cM_add 273 = .ok (.goto 8, 3) := by decide +kernel
theorem dM_add_276 : decode cM_add 276 = .ok (.iload 12, 2) := by decide +kernel
theorem dM_add_278 : decode cM_add 278 = .ok (.bipush 10, 2) := by decide +kernel
theorem dM_add_280 : decode cM_add 280 = .ok (.idiv, 1) := by decide +kernel
theorem dM_add_281 : decode cM_add 281 = .ok (.istore 10, 2) := by decide +kernel
theorem dM_add_283 : decode cM_add 283 = .ok (.aload_n 0, 1) := by decide +kernel
theorem dM_add_284 : decode cM_add 284 = .ok (.getfield 23, 3) := by decide +kernel
theorem dM_add_287 : decode cM_add 287 = .ok (.sipush 2600, 3) := by decide +kernel
theorem dM_add_290 : decode cM_add 290 = .ok (.iload 4, 2) := by decide +kernel
theorem dM_add_292 : decode cM_add 292 = .ok (.imul, 1) := by decide +kernel
theorem dM_add_293 : decode cM_add 293 = .ok (.iload 7, 2) := by decide +kernel
theorem dM_add_295 : decode cM_add 295 = .ok (.iadd, 1) := by decide +kernel
theorem dM_add_296 : decode cM_add 296 = .ok (.iload 11, 2) := by decide +kernel
theorem dM_add_298 : decode cM_add 298 = .ok (.isub, 1) := by decide +kernel
theorem dM_add_299 : decode cM_add 299 = .ok (.iload 12, 2) := by decide +kernel
theorem dM_add_301 : decode cM_add 301 = .ok (.ifCond .ge 11, 3) := by decide +kernel
theorem dM_add_304 : decode cM_add 304 = .ok (.iload 12, 2) := by decide +kernel
theorem dM_add_306 : decode cM_add 306 = .ok (.bipush 10, 2) := by decide +kernel
theorem dM_add_308 : decode cM_add 308 = .ok (.iadd, 1) := by decide +kernel
theorem dM_add_309 : decode cM_add 309 = .ok (.goto 8, 3) := by decide +kernel
theorem dM_add_312 : decode cM_add 312 = .ok (.iload 12, 2) := by decide +kernel
theorem dM_add_314 : decode cM_add 314 = .ok (.bipush 10, 2) := by decide +kernel
theorem dM_add_316 : decode cM_add 316 = .ok (.irem, 1) := by decide +kernel
theorem dM_add_317 : decode cM_add 317 = .ok (.iastore, 1) := by decide +kernel
theorem dM_add_318 : decode cM_add 318 = .ok (.iinc 11 1, 3) := by decide +kernel
theorem dM_add_321 : decode cM_add 321 = .ok (.goto (-127), 3) := by decide +kernel
theorem dM_add_324 : decode cM_add 324 = .ok (.aload_n 0, 1) := by decide +kernel
theorem dM_add_325 : decode cM_add 325 = .ok (.getfield 32, 3) := by decide +kernel
theorem dM_add_328 : decode cM_add 328 = .ok (.iload 4, 2) := by decide +kernel
theorem dM_add_330 : decode cM_add 330 = .ok (.iload 9, 2) := by decide +kernel
theorem dM_add_332 : decode cM_add 332 = .ok (.ifCond .ne 8, 3) := by decide +kernel
theorem dM_add_335 : decode cM_add 335 = .ok (.iload 8, 2) := by decide +kernel
theorem dM_add_337 : decode cM_add 337 = .ok (.ifCond .lt 12, 3) := by decide +kernel
theorem dM_add_340 : decode cM_add 340 = .ok (.aload_n 0, 1) := by decide +kernel
theorem dM_add_341 : decode cM_add 341 = .ok (.getfield 32, 3) := by decide +kernel
theorem dM_add_344 : decode cM_add 344 = .ok (.iload_n 1, 1) := by decide +kernel
theorem dM_add_345 : decode cM_add 345 = .ok (.iaload, 1) := by decide +kernel
theorem dM_add_346 : decode cM_add 346 = .ok (.goto 5, 3) := by decide +kernel
theorem dM_add_349 : decode cM_add 349 = .ok (.iload 5, 2) := by decide +kernel
theorem dM_add_351 : decode cM_add 351 = .ok (.iastore, 1) := by decide +kernel
theorem dM_add_352 : decode cM_add 352 = .ok (.aload_n 0, 1) := by decide +kernel
theorem dM_add_353 : decode cM_add 353 = .ok (.getfield 26, 3) := by decide +kernel
theorem dM_add_356 : decode cM_add 356 = .ok (.iload 4, 2) := by decide +kernel
theorem dM_add_358 : decode cM_add 358 = .ok (.iload 7, 2) := by decide +kernel
theorem dM_add_360 : decode cM_add 360 = .ok (.iload 6, 2) := by decide +kernel
theorem dM_add_362 : decode cM_add 362 = .ok (.isub, 1) := by decide +kernel
theorem dM_add_363 : decode cM_add 363 = .ok (.iconst 1, 1) := by decide +kernel
theorem dM_add_364 : decode cM_add 364 = .ok (.iadd, 1) := by decide +kernel
theorem dM_add_365 : decode cM_add 365 = .ok (.iastore, 1) := by decide +kernel
theorem dM_add_366 : decode cM_add 366 = .ok (.aload_n 0, 1) := by decide +kernel
theorem dM_add_367 : decode cM_add 367 = .ok (.getfield 29, 3) := by decide +kernel
theorem dM_add_370 : decode cM_add 370 = .ok (.iload 4, 2) := by decide +kernel
theorem dM_add_372 : decode cM_add 372 = .ok (.iload 6, 2) := by decide +kernel
theorem dM_add_374 : decode cM_add 374 = .ok (.iastore, 1) := by decide +kernel
theorem dM_add_375 : decode cM_add 375 = .ok (.aload_n 0, 1) := by decide +kernel
theorem dM_add_376 : decode cM_add 376 = .ok (.iload 4, 2) := by decide +kernel
theorem dM_add_378 : decode cM_add 378 = .ok (.invokevirtual 64, 3) := by decide +kernel
theorem dM_add_381 : decode cM_add 381 = .ok (.return_, 1) := by decide +kernel
set_option maxHeartbeats 4000000 in
set_option maxRecDepth 100000 in
theorem b_M_four_3 {X : wk_X} {G : cGt} (hI : wd_inj (vC G)) (C : wk_C X (vC G) cM_four RM 3 0 0) : ∀ (n : Nat) {v1 : Int32} {v2 : Int32} {h : Hp} {q : Unit × Hp}  (hf : f_M_four_3 n v1 v2 h = some q) (hq : wk_Q X (vC G) none q.2 none), WW X (vC G) h 3 [(0, .ref (cad G 46)), (1, .int v1), (2, .int v2)] [] := by
  intro n
  induction n with
  | zero =>
    intros
    rename_i hf _
    cases hf
  | succ n ih =>
    intro v1 v2 h q hf hq
    rw [f_M_four_3] at hf
    refine wk_iload_n C 2 dM_four_3 rfl rfl ?_
    refine wk_if_lt (tgt := 39) C dM_four_4 rfl hf (fun c_4 hf => ?_) (fun c_4 hf => ?_)
    · cases hf
      exact wk_return C hq dM_four_39
    · refine wk_aload_n C 0 dM_four_7 rfl rfl ?_
      refine gf_M_7 C dM_four_8 ?_
      refine wk_aload_n C 0 dM_four_11 rfl rfl ?_
      refine gf_M_41 C dM_four_12 ?_
      refine wk_iload_n C 1 dM_four_15 rfl rfl ?_
      refine wk_iload_n C 2 dM_four_16 rfl rfl ?_
      refine wk_ishr C dM_four_17 ?_
      refine wk_sipush C dM_four_18 ksipush_255 ?_
      refine wk_iand C dM_four_21 ?_
      obtain ⟨c_22, hf⟩ := chk_some hf
      refine as_47 C c_22 dM_four_22 ?_
      refine wk_aload_n C 0 dM_four_23 rfl rfl ?_
      refine wk_dup C dM_four_24 rfl ?_
      refine gf_M_41 C dM_four_25 ?_
      refine wk_iconst C dM_four_28 kiconst_1 ?_
      refine wk_iadd C dM_four_29 ?_
      refine pf_M_41 C dM_four_30 ?_
      refine wk_iinc C dM_four_33 rfl kiconst_m8 (by decide) ?_
      refine wk_goto (tgt := 3) C dM_four_36 rfl ?_
      exact wk_go (ih hf hq) (And.intro rfl (And.intro rfl (And.intro rfl trivial)))
set_option maxHeartbeats 4000000 in
set_option maxRecDepth 100000 in
theorem b_M_four {X : wk_X} {G : cGt} (hI : wd_inj (vC G)) (C : wk_C X (vC G) cM_four RM 3 0 0) {v1 : Int32} {h : Hp} {q : Unit × Hp}  (hf : f_M_four v1 h = some q) (hq : wk_Q X (vC G) none q.2 none) : WW X (vC G) h 0 [(0, .ref (cad G 46)), (1, .int v1)] [] := by
  unfold f_M_four at hf
  refine wk_bipush C dM_four_0 kbipush_24 ?_
  refine wk_istore_n C 2 dM_four_2 rfl (by decide) ?_
  exact wk_go (b_M_four_3 hI C fuel hf hq) (And.intro rfl (And.intro rfl (And.intro rfl trivial)))
theorem m_M_four {l : Launch} {G : cGt} (hI : wd_inj (vC G)) {v1 : Int32} {h h' : Hp} {r : Unit}  (hf : f_M_four v1 h = some (r, h')) : wk_M l (vC G) yM_four cM_four 3 none 0 0 [.ref (cad G 46), .int v1] h none h' :=
  wk_met hI (by decide +kernel) rfl (Nat.le_of_ble_eq_true rfl) (wk_cat1 rfl) (fun X hX C hq => by subst hX; exact b_M_four hI C  hf hq)
set_option maxHeartbeats 4000000 in
set_option maxRecDepth 100000 in
theorem b_M_feed {X : wk_X} {G : cGt} (hI : wd_inj (vC G)) (C : wk_C X (vC G) cM_feed RM 6 1 22) {v1 : Int32} {v2 : Int32} {v3 : Int32} {v4 : Int32} {v5 : Int32} {h : Hp} {q : Int32 × Hp}  (hf : f_M_feed v1 v2 v3 v4 v5 h = some q) (hq : wk_Q X (vC G) (some (.int q.1)) q.2 (some .int)) : WW X (vC G) h 0 [(0, .ref (cad G 46)), (1, .int v1), (2, .int v2), (3, .int v3), (4, .int v4), (5, .int v5)] [] := by
  unfold f_M_feed at hf
  refine wk_aload_n C 0 dM_feed_0 rfl rfl ?_
  refine gf_M_41 C dM_feed_1 ?_
  refine wk_bipush C dM_feed_4 kbipush_20 ?_
  refine wk_iadd C dM_feed_6 ?_
  refine wk_sipush C dM_feed_7 ksipush_240 ?_
  refine wk_icmp_le (tgt := 15) C dM_feed_10 rfl hf (fun c_10 hf => ?_) (fun c_10 hf => ?_)
  · refine wk_aload_n C 0 dM_feed_15 rfl rfl ?_
    refine wk_iload_n C 1 dM_feed_16 rfl rfl ?_
    obtain ⟨r17, h17, e_17, hf⟩ := bd_some hf
    refine wk_callV (As := [.int v1]) (rest := []) C lw_good cw_M_44 wi_M_four (m_M_four hI e_17) lz_46 (he_46 G (h 46)) rfl rfl rfl (Nat.le_of_ble_eq_true rfl) (by decide) dM_feed_17 ?_
    refine wk_aload_n C 0 dM_feed_20 rfl rfl ?_
    refine wk_iload_n C 2 dM_feed_21 rfl rfl ?_
    obtain ⟨r22, h22, e_22, hf⟩ := bd_some hf
    refine wk_callV (As := [.int v2]) (rest := []) C lw_good cw_M_44 wi_M_four (m_M_four hI e_22) lz_46 (he_46 G (h17 46)) rfl rfl rfl (Nat.le_of_ble_eq_true rfl) (by decide) dM_feed_22 ?_
    refine wk_aload_n C 0 dM_feed_25 rfl rfl ?_
    refine wk_iload_n C 3 dM_feed_26 rfl rfl ?_
    obtain ⟨r27, h27, e_27, hf⟩ := bd_some hf
    refine wk_callV (As := [.int v3]) (rest := []) C lw_good cw_M_44 wi_M_four (m_M_four hI e_27) lz_46 (he_46 G (h22 46)) rfl rfl rfl (Nat.le_of_ble_eq_true rfl) (by decide) dM_feed_27 ?_
    refine wk_aload_n C 0 dM_feed_30 rfl rfl ?_
    refine wk_iload C dM_feed_31 rfl ?_
    obtain ⟨r33, h33, e_33, hf⟩ := bd_some hf
    refine wk_callV (As := [.int v4]) (rest := []) C lw_good cw_M_44 wi_M_four (m_M_four hI e_33) lz_46 (he_46 G (h27 46)) rfl rfl rfl (Nat.le_of_ble_eq_true rfl) (by decide) dM_feed_33 ?_
    refine wk_aload_n C 0 dM_feed_36 rfl rfl ?_
    refine wk_iload C dM_feed_37 rfl ?_
    obtain ⟨r39, h39, e_39, hf⟩ := bd_some hf
    refine wk_callV (As := [.int v5]) (rest := []) C lw_good cw_M_44 wi_M_four (m_M_four hI e_39) lz_46 (he_46 G (h33 46)) rfl rfl rfl (Nat.le_of_ble_eq_true rfl) (by decide) dM_feed_39 ?_
    refine wk_aload_n C 0 dM_feed_42 rfl rfl ?_
    refine gf_M_41 C dM_feed_43 ?_
    cases hf
    exact wk_ireturn C hq dM_feed_46
  · refine wk_iconst C dM_feed_13 kiconst_m1 ?_
    cases hf
    exact wk_ireturn C hq dM_feed_14
theorem m_M_feed {l : Launch} {G : cGt} (hI : wd_inj (vC G)) {v1 : Int32} {v2 : Int32} {v3 : Int32} {v4 : Int32} {v5 : Int32} {h h' : Hp} {r : Int32}  (hf : f_M_feed v1 v2 v3 v4 v5 h = some (r, h')) : wk_M l (vC G) yM_feed cM_feed 6 (some .int) 1 22 [.ref (cad G 46), .int v1, .int v2, .int v3, .int v4, .int v5] h (some (.int r)) h' :=
  wk_met hI (by decide +kernel) rfl (Nat.le_of_ble_eq_true rfl) (wk_cat1 rfl) (fun X hX C hq => by subst hX; exact b_M_feed hI C  hf hq)
set_option maxHeartbeats 4000000 in
set_option maxRecDepth 100000 in
theorem b_M_end {X : wk_X} {G : cGt} (hI : wd_inj (vC G)) (C : wk_C X (vC G) cM_end RM 2 0 0) {v1 : Int32} {h : Hp} {q : Int32 × Hp}  (hf : f_M_end v1 h = some q) (hq : wk_Q X (vC G) (some (.int q.1)) q.2 (some .int)) : WW X (vC G) h 0 [(0, .ref (cad G 46)), (1, .int v1)] [] := by
  unfold f_M_end at hf
  refine wk_iload_n C 1 dM_end_0 rfl rfl ?_
  refine wk_if_lt (tgt := 12) C dM_end_1 rfl hf (fun c_1 hf => ?_) (fun c_1 hf => ?_)
  · refine wk_iconst C dM_end_12 kiconst_m1 ?_
    cases hf
    exact wk_ireturn C hq dM_end_13
  · refine wk_iload_n C 1 dM_end_4 rfl rfl ?_
    refine wk_aload_n C 0 dM_end_5 rfl rfl ?_
    refine gf_M_41 C dM_end_6 ?_
    refine wk_icmp_le (tgt := 14) C dM_end_9 rfl hf (fun c_9 hf => ?_) (fun c_9 hf => ?_)
    · refine wk_aload_n C 0 dM_end_14 rfl rfl ?_
      refine wk_iload_n C 1 dM_end_15 rfl rfl ?_
      refine pf_M_41 C dM_end_16 ?_
      refine wk_iload_n C 1 dM_end_19 rfl rfl ?_
      cases hf
      exact wk_ireturn C hq dM_end_20
    · refine wk_iconst C dM_end_12 kiconst_m1 ?_
      cases hf
      exact wk_ireturn C hq dM_end_13
theorem m_M_end {l : Launch} {G : cGt} (hI : wd_inj (vC G)) {v1 : Int32} {h h' : Hp} {r : Int32}  (hf : f_M_end v1 h = some (r, h')) : wk_M l (vC G) yM_end cM_end 2 (some .int) 0 0 [.ref (cad G 46), .int v1] h (some (.int r)) h' :=
  wk_met hI (by decide +kernel) rfl (Nat.le_of_ble_eq_true rfl) (wk_cat1 rfl) (fun X hX C hq => by subst hX; exact b_M_end hI C  hf hq)
set_option maxHeartbeats 4000000 in
set_option maxRecDepth 100000 in
theorem b_M_isRegister {X : wk_X} {G : cGt} (hI : wd_inj (vC G)) (C : wk_C X (vC G) cM_isRegister RM 1 0 0) {v0 : Int32} {h : Hp} {q : Int32 × Hp}  (hf : f_M_isRegister v0 h = some q) (hq : wk_Q X (vC G) (some (.int q.1)) q.2 (some .boolean)) : WW X (vC G) h 0 [(0, .int v0)] [] := by
  unfold f_M_isRegister at hf
  refine wk_iload_n C 0 dM_isRegister_0 rfl rfl ?_
  refine wk_if_lt (tgt := 14) C dM_isRegister_1 rfl hf (fun c_1 hf => ?_) (fun c_1 hf => ?_)
  · refine wk_iconst C dM_isRegister_14 kiconst_0 ?_
    cases hf
    exact wk_zreturn C hq rfl dM_isRegister_15
  · refine wk_iload_n C 0 dM_isRegister_4 rfl rfl ?_
    refine wk_bipush C dM_isRegister_5 kbipush_10 ?_
    refine wk_icmp_ge (tgt := 14) C dM_isRegister_7 rfl hf (fun c_7 hf => ?_) (fun c_7 hf => ?_)
    · refine wk_iconst C dM_isRegister_14 kiconst_0 ?_
      cases hf
      exact wk_zreturn C hq rfl dM_isRegister_15
    · refine wk_iconst C dM_isRegister_10 kiconst_1 ?_
      refine wk_goto (tgt := 15) C dM_isRegister_11 rfl ?_
      cases hf
      exact wk_zreturn C hq rfl dM_isRegister_15
theorem m_M_isRegister {l : Launch} {G : cGt} (hI : wd_inj (vC G)) {v0 : Int32} {h h' : Hp} {r : Int32}  (hf : f_M_isRegister v0 h = some (r, h')) : wk_M l (vC G) yM_isRegister cM_isRegister 1 (some .boolean) 0 0 [.int v0] h (some (.int r)) h' :=
  wk_met hI (by decide +kernel) rfl (Nat.le_of_ble_eq_true rfl) (wk_cat1 rfl) (fun X hX C hq => by subst hX; exact b_M_isRegister hI C  hf hq)
set_option maxHeartbeats 4000000 in
set_option maxRecDepth 100000 in
theorem b_M_put_21 {X : wk_X} {G : cGt} (hI : wd_inj (vC G)) (C : wk_C X (vC G) cM_put RM 3 1 20) : ∀ (n : Nat) {v1 : Int32} {v2 : Int32} {h : Hp} {q : Int32 × Hp}  (hf : f_M_put_21 n v1 v2 h = some q) (hq : wk_Q X (vC G) (some (.int q.1)) q.2 (some .int)), WW X (vC G) h 21 [(0, .ref (cad G 46)), (1, .int v1), (2, .int v2)] [] := by
  intro n
  induction n with
  | zero =>
    intros
    rename_i hf _
    cases hf
  | succ n ih =>
    intro v1 v2 h q hf hq
    rw [f_M_put_21] at hf
    refine wk_iload_n C 2 dM_put_21 rfl rfl ?_
    refine wk_aload_n C 0 dM_put_22 rfl rfl ?_
    refine gf_M_41 C dM_put_23 ?_
    refine wk_icmp_ge (tgt := 53) C dM_put_26 rfl hf (fun c_26 hf => ?_) (fun c_26 hf => ?_)
    · refine wk_aload_n C 0 dM_put_53 rfl rfl ?_
      refine gf_M_16 C dM_put_54 ?_
      refine wk_iload_n C 1 dM_put_57 rfl rfl ?_
      refine wk_aload_n C 0 dM_put_58 rfl rfl ?_
      refine gf_M_41 C dM_put_59 ?_
      obtain ⟨c_62, hf⟩ := chk_some hf
      refine as_49 C c_62 dM_put_62 ?_
      refine wk_aload_n C 0 dM_put_63 rfl rfl ?_
      refine wk_iconst C dM_put_64 kiconst_0 ?_
      refine pf_M_41 C dM_put_65 ?_
      refine wk_aload_n C 0 dM_put_68 rfl rfl ?_
      refine gf_M_16 C dM_put_69 ?_
      refine wk_iload_n C 1 dM_put_72 rfl rfl ?_
      obtain ⟨c_73, hf⟩ := chk_some hf
      refine al_49 C c_73 dM_put_73 ?_
      cases hf
      exact wk_ireturn C hq dM_put_74
    · refine wk_aload_n C 0 dM_put_29 rfl rfl ?_
      refine gf_M_13 C dM_put_30 ?_
      refine wk_sipush C dM_put_33 ksipush_200 ?_
      refine wk_iload_n C 1 dM_put_36 rfl rfl ?_
      refine wk_imul C dM_put_37 ?_
      refine wk_iload_n C 2 dM_put_38 rfl rfl ?_
      refine wk_iadd C dM_put_39 ?_
      refine wk_aload_n C 0 dM_put_40 rfl rfl ?_
      refine gf_M_7 C dM_put_41 ?_
      refine wk_iload_n C 2 dM_put_44 rfl rfl ?_
      obtain ⟨c_45, hf⟩ := chk_some hf
      refine al_47 C c_45 dM_put_45 ?_
      obtain ⟨c_46, hf⟩ := chk_some hf
      refine as_48 C c_46 dM_put_46 ?_
      refine wk_iinc C dM_put_47 rfl kiconst_1 (by decide) ?_
      refine wk_goto (tgt := 21) C dM_put_50 rfl ?_
      exact wk_go (ih hf hq) (And.intro rfl (And.intro rfl (And.intro rfl trivial)))
set_option maxHeartbeats 4000000 in
set_option maxRecDepth 100000 in
theorem b_M_put {X : wk_X} {G : cGt} (hI : wd_inj (vC G)) (C : wk_C X (vC G) cM_put RM 3 1 20) {v1 : Int32} {h : Hp} {q : Int32 × Hp}  (hf : f_M_put v1 h = some q) (hq : wk_Q X (vC G) (some (.int q.1)) q.2 (some .int)) : WW X (vC G) h 0 [(0, .ref (cad G 46)), (1, .int v1)] [] := by
  unfold f_M_put at hf
  refine wk_iload_n C 1 dM_put_0 rfl rfl ?_
  obtain ⟨r1, h1, e_1, hf⟩ := bd_some hf
  refine wk_callS (As := [.int v1]) (rest := []) C lw_good cw_M_48 ws_M_isRegister (m_M_isRegister hI e_1) rfl rfl (Nat.le_of_ble_eq_true rfl) (by decide) dM_put_1 ?_
  refine wk_if_eq (tgt := 17) C dM_put_4 rfl hf (fun c_4 hf => ?_) (fun c_4 hf => ?_)
  · refine wk_iconst C dM_put_17 kiconst_m1 ?_
    cases hf
    exact wk_ireturn C hq dM_put_18
  · refine wk_aload_n C 0 dM_put_7 rfl rfl ?_
    refine gf_M_41 C dM_put_8 ?_
    refine wk_sipush C dM_put_11 ksipush_200 ?_
    refine wk_icmp_le (tgt := 19) C dM_put_14 rfl hf (fun c_14 hf => ?_) (fun c_14 hf => ?_)
    · refine wk_iconst C dM_put_19 kiconst_0 ?_
      refine wk_istore_n C 2 dM_put_20 rfl (by decide) ?_
      exact wk_go (b_M_put_21 hI C fuel hf hq) (And.intro rfl (And.intro rfl (And.intro rfl trivial)))
    · refine wk_iconst C dM_put_17 kiconst_m1 ?_
      cases hf
      exact wk_ireturn C hq dM_put_18
theorem m_M_put {l : Launch} {G : cGt} (hI : wd_inj (vC G)) {v1 : Int32} {h h' : Hp} {r : Int32}  (hf : f_M_put v1 h = some (r, h')) : wk_M l (vC G) yM_put cM_put 3 (some .int) 1 20 [.ref (cad G 46), .int v1] h (some (.int r)) h' :=
  wk_met hI (by decide +kernel) rfl (Nat.le_of_ble_eq_true rfl) (wk_cat1 rfl) (fun X hX C hq => by subst hX; exact b_M_put hI C  hf hq)
set_option maxHeartbeats 4000000 in
set_option maxRecDepth 100000 in
theorem b_M_size {X : wk_X} {G : cGt} (hI : wd_inj (vC G)) (C : wk_C X (vC G) cM_size RM 2 1 20) {v1 : Int32} {h : Hp} {q : Int32 × Hp}  (hf : f_M_size v1 h = some q) (hq : wk_Q X (vC G) (some (.int q.1)) q.2 (some .int)) : WW X (vC G) h 0 [(0, .ref (cad G 46)), (1, .int v1)] [] := by
  unfold f_M_size at hf
  refine wk_iload_n C 1 dM_size_0 rfl rfl ?_
  obtain ⟨r1, h1, e_1, hf⟩ := bd_some hf
  refine wk_callS (As := [.int v1]) (rest := []) C lw_good cw_M_48 ws_M_isRegister (m_M_isRegister hI e_1) rfl rfl (Nat.le_of_ble_eq_true rfl) (by decide) dM_size_1 ?_
  refine wk_if_eq (tgt := 16) C dM_size_4 rfl hf (fun c_4 hf => ?_) (fun c_4 hf => ?_)
  · refine wk_iconst C dM_size_16 kiconst_m1 ?_
    cases hf
    exact wk_ireturn C hq dM_size_17
  · refine wk_aload_n C 0 dM_size_7 rfl rfl ?_
    refine gf_M_16 C dM_size_8 ?_
    refine wk_iload_n C 1 dM_size_11 rfl rfl ?_
    obtain ⟨c_12, hf⟩ := chk_some hf
    refine al_49 C c_12 dM_size_12 ?_
    refine wk_goto (tgt := 17) C dM_size_13 rfl ?_
    cases hf
    exact wk_ireturn C hq dM_size_17
theorem m_M_size {l : Launch} {G : cGt} (hI : wd_inj (vC G)) {v1 : Int32} {h h' : Hp} {r : Int32}  (hf : f_M_size v1 h = some (r, h')) : wk_M l (vC G) yM_size cM_size 2 (some .int) 1 20 [.ref (cad G 46), .int v1] h (some (.int r)) h' :=
  wk_met hI (by decide +kernel) rfl (Nat.le_of_ble_eq_true rfl) (wk_cat1 rfl) (fun X hX C hq => by subst hX; exact b_M_size hI C  hf hq)
set_option maxHeartbeats 4000000 in
set_option maxRecDepth 100000 in
theorem b_M_at {X : wk_X} {G : cGt} (hI : wd_inj (vC G)) (C : wk_C X (vC G) cM_at RM 3 1 20) {v1 : Int32} {v2 : Int32} {h : Hp} {q : Int32 × Hp}  (hf : f_M_at v1 v2 h = some q) (hq : wk_Q X (vC G) (some (.int q.1)) q.2 (some .int)) : WW X (vC G) h 0 [(0, .ref (cad G 46)), (1, .int v1), (2, .int v2)] [] := by
  unfold f_M_at at hf
  refine wk_iload_n C 1 dM_at_0 rfl rfl ?_
  obtain ⟨r1, h1, e_1, hf⟩ := bd_some hf
  refine wk_callS (As := [.int v1]) (rest := []) C lw_good cw_M_48 ws_M_isRegister (m_M_isRegister hI e_1) rfl rfl (Nat.le_of_ble_eq_true rfl) (by decide) dM_at_1 ?_
  refine wk_if_eq (tgt := 36) C dM_at_4 rfl hf (fun c_4 hf => ?_) (fun c_4 hf => ?_)
  · refine wk_iconst C dM_at_36 kiconst_m1 ?_
    cases hf
    exact wk_ireturn C hq dM_at_37
  · refine wk_iload_n C 2 dM_at_7 rfl rfl ?_
    refine wk_if_lt (tgt := 36) C dM_at_8 rfl hf (fun c_8 hf => ?_) (fun c_8 hf => ?_)
    · refine wk_iconst C dM_at_36 kiconst_m1 ?_
      cases hf
      exact wk_ireturn C hq dM_at_37
    · refine wk_iload_n C 2 dM_at_11 rfl rfl ?_
      refine wk_aload_n C 0 dM_at_12 rfl rfl ?_
      refine gf_M_16 C dM_at_13 ?_
      refine wk_iload_n C 1 dM_at_16 rfl rfl ?_
      obtain ⟨c_17, hf⟩ := chk_some hf
      refine al_49 C c_17 dM_at_17 ?_
      refine wk_icmp_ge (tgt := 36) C dM_at_18 rfl hf (fun c_18 hf => ?_) (fun c_18 hf => ?_)
      · refine wk_iconst C dM_at_36 kiconst_m1 ?_
        cases hf
        exact wk_ireturn C hq dM_at_37
      · refine wk_aload_n C 0 dM_at_21 rfl rfl ?_
        refine gf_M_13 C dM_at_22 ?_
        refine wk_sipush C dM_at_25 ksipush_200 ?_
        refine wk_iload_n C 1 dM_at_28 rfl rfl ?_
        refine wk_imul C dM_at_29 ?_
        refine wk_iload_n C 2 dM_at_30 rfl rfl ?_
        refine wk_iadd C dM_at_31 ?_
        obtain ⟨c_32, hf⟩ := chk_some hf
        refine al_48 C c_32 dM_at_32 ?_
        refine wk_goto (tgt := 37) C dM_at_33 rfl ?_
        cases hf
        exact wk_ireturn C hq dM_at_37
theorem m_M_at {l : Launch} {G : cGt} (hI : wd_inj (vC G)) {v1 : Int32} {v2 : Int32} {h h' : Hp} {r : Int32}  (hf : f_M_at v1 v2 h = some (r, h')) : wk_M l (vC G) yM_at cM_at 3 (some .int) 1 20 [.ref (cad G 46), .int v1, .int v2] h (some (.int r)) h' :=
  wk_met hI (by decide +kernel) rfl (Nat.le_of_ble_eq_true rfl) (wk_cat1 rfl) (fun X hX C hq => by subst hX; exact b_M_at hI C  hf hq)
set_option maxHeartbeats 4000000 in
set_option maxRecDepth 100000 in
theorem b_M_digits {X : wk_X} {G : cGt} (hI : wd_inj (vC G)) (C : wk_C X (vC G) cM_digits RM 2 0 0) {v1 : Int32} {h : Hp} {q : Int32 × Hp}  (hf : f_M_digits v1 h = some q) (hq : wk_Q X (vC G) (some (.int q.1)) q.2 (some .int)) : WW X (vC G) h 0 [(0, .ref (cad G 46)), (1, .int v1)] [] := by
  unfold f_M_digits at hf
  refine wk_iload_n C 1 dM_digits_0 rfl rfl ?_
  refine wk_iconst C dM_digits_1 kiconst_1 ?_
  refine wk_icmp_lt (tgt := 19) C dM_digits_2 rfl hf (fun c_2 hf => ?_) (fun c_2 hf => ?_)
  · refine wk_iconst C dM_digits_19 kiconst_m1 ?_
    cases hf
    exact wk_ireturn C hq dM_digits_20
  · refine wk_iload_n C 1 dM_digits_5 rfl rfl ?_
    refine wk_bipush C dM_digits_6 kbipush_20 ?_
    refine wk_icmp_gt (tgt := 19) C dM_digits_8 rfl hf (fun c_8 hf => ?_) (fun c_8 hf => ?_)
    · refine wk_iconst C dM_digits_19 kiconst_m1 ?_
      cases hf
      exact wk_ireturn C hq dM_digits_20
    · refine wk_iload_n C 1 dM_digits_11 rfl rfl ?_
      refine wk_aload_n C 0 dM_digits_12 rfl rfl ?_
      refine gf_M_52 C dM_digits_13 ?_
      refine wk_icmp_gt (tgt := 21) C dM_digits_16 rfl hf (fun c_16 hf => ?_) (fun c_16 hf => ?_)
      · refine wk_aload_n C 0 dM_digits_21 rfl rfl ?_
        refine wk_iload_n C 1 dM_digits_22 rfl rfl ?_
        refine pf_M_19 C dM_digits_23 ?_
        refine wk_iconst C dM_digits_26 kiconst_1 ?_
        cases hf
        exact wk_ireturn C hq dM_digits_27
      · refine wk_iconst C dM_digits_19 kiconst_m1 ?_
        cases hf
        exact wk_ireturn C hq dM_digits_20
theorem m_M_digits {l : Launch} {G : cGt} (hI : wd_inj (vC G)) {v1 : Int32} {h h' : Hp} {r : Int32}  (hf : f_M_digits v1 h = some (r, h')) : wk_M l (vC G) yM_digits cM_digits 2 (some .int) 0 0 [.ref (cad G 46), .int v1] h (some (.int r)) h' :=
  wk_met hI (by decide +kernel) rfl (Nat.le_of_ble_eq_true rfl) (wk_cat1 rfl) (fun X hX C hq => by subst hX; exact b_M_digits hI C  hf hq)
set_option maxHeartbeats 4000000 in
set_option maxRecDepth 100000 in
theorem b_M_fuzz {X : wk_X} {G : cGt} (hI : wd_inj (vC G)) (C : wk_C X (vC G) cM_fuzz RM 2 0 0) {v1 : Int32} {h : Hp} {q : Int32 × Hp}  (hf : f_M_fuzz v1 h = some q) (hq : wk_Q X (vC G) (some (.int q.1)) q.2 (some .int)) : WW X (vC G) h 0 [(0, .ref (cad G 46)), (1, .int v1)] [] := by
  unfold f_M_fuzz at hf
  refine wk_iload_n C 1 dM_fuzz_0 rfl rfl ?_
  refine wk_if_lt (tgt := 12) C dM_fuzz_1 rfl hf (fun c_1 hf => ?_) (fun c_1 hf => ?_)
  · refine wk_iconst C dM_fuzz_12 kiconst_m1 ?_
    cases hf
    exact wk_ireturn C hq dM_fuzz_13
  · refine wk_iload_n C 1 dM_fuzz_4 rfl rfl ?_
    refine wk_aload_n C 0 dM_fuzz_5 rfl rfl ?_
    refine gf_M_19 C dM_fuzz_6 ?_
    refine wk_icmp_lt (tgt := 14) C dM_fuzz_9 rfl hf (fun c_9 hf => ?_) (fun c_9 hf => ?_)
    · refine wk_aload_n C 0 dM_fuzz_14 rfl rfl ?_
      refine wk_iload_n C 1 dM_fuzz_15 rfl rfl ?_
      refine pf_M_52 C dM_fuzz_16 ?_
      refine wk_iconst C dM_fuzz_19 kiconst_1 ?_
      cases hf
      exact wk_ireturn C hq dM_fuzz_20
    · refine wk_iconst C dM_fuzz_12 kiconst_m1 ?_
      cases hf
      exact wk_ireturn C hq dM_fuzz_13
theorem m_M_fuzz {l : Launch} {G : cGt} (hI : wd_inj (vC G)) {v1 : Int32} {h h' : Hp} {r : Int32}  (hf : f_M_fuzz v1 h = some (r, h')) : wk_M l (vC G) yM_fuzz cM_fuzz 2 (some .int) 0 0 [.ref (cad G 46), .int v1] h (some (.int r)) h' :=
  wk_met hI (by decide +kernel) rfl (Nat.le_of_ble_eq_true rfl) (wk_cat1 rfl) (fun X hX C hq => by subst hX; exact b_M_fuzz hI C  hf hq)
set_option maxHeartbeats 4000000 in
set_option maxRecDepth 100000 in
theorem b_M_form {X : wk_X} {G : cGt} (hI : wd_inj (vC G)) (C : wk_C X (vC G) cM_form RM 2 0 0) {v1 : Int32} {h : Hp} {q : Int32 × Hp}  (hf : f_M_form v1 h = some q) (hq : wk_Q X (vC G) (some (.int q.1)) q.2 (some .int)) : WW X (vC G) h 0 [(0, .ref (cad G 46)), (1, .int v1)] [] := by
  unfold f_M_form at hf
  refine wk_iload_n C 1 dM_form_0 rfl rfl ?_
  refine wk_if_eq (tgt := 11) C dM_form_1 rfl hf (fun c_1 hf => ?_) (fun c_1 hf => ?_)
  · refine wk_aload_n C 0 dM_form_11 rfl rfl ?_
    refine wk_iload_n C 1 dM_form_12 rfl rfl ?_
    refine pf_M_55 C dM_form_13 ?_
    refine wk_iconst C dM_form_16 kiconst_1 ?_
    cases hf
    exact wk_ireturn C hq dM_form_17
  · refine wk_iload_n C 1 dM_form_4 rfl rfl ?_
    refine wk_iconst C dM_form_5 kiconst_1 ?_
    refine wk_icmp_eq (tgt := 11) C dM_form_6 rfl hf (fun c_6 hf => ?_) (fun c_6 hf => ?_)
    · refine wk_aload_n C 0 dM_form_11 rfl rfl ?_
      refine wk_iload_n C 1 dM_form_12 rfl rfl ?_
      refine pf_M_55 C dM_form_13 ?_
      refine wk_iconst C dM_form_16 kiconst_1 ?_
      cases hf
      exact wk_ireturn C hq dM_form_17
    · refine wk_iconst C dM_form_9 kiconst_m1 ?_
      cases hf
      exact wk_ireturn C hq dM_form_10
theorem m_M_form {l : Launch} {G : cGt} (hI : wd_inj (vC G)) {v1 : Int32} {h h' : Hp} {r : Int32}  (hf : f_M_form v1 h = some (r, h')) : wk_M l (vC G) yM_form cM_form 2 (some .int) 0 0 [.ref (cad G 46), .int v1] h (some (.int r)) h' :=
  wk_met hI (by decide +kernel) rfl (Nat.le_of_ble_eq_true rfl) (wk_cat1 rfl) (fun X hX C hq => by subst hX; exact b_M_form hI C  hf hq)
set_option maxHeartbeats 4000000 in
set_option maxRecDepth 100000 in
theorem b_M_zero {X : wk_X} {G : cGt} (hI : wd_inj (vC G)) (C : wk_C X (vC G) cM_zero RM 2 0 0) {v1 : Int32} {h : Hp} {q : Unit × Hp}  (hf : f_M_zero v1 h = some q) (hq : wk_Q X (vC G) none q.2 none) : WW X (vC G) h 0 [(0, .ref (cad G 46)), (1, .int v1)] [] := by
  unfold f_M_zero at hf
  refine wk_aload_n C 0 dM_zero_0 rfl rfl ?_
  refine gf_M_32 C dM_zero_1 ?_
  refine wk_iload_n C 1 dM_zero_4 rfl rfl ?_
  refine wk_iconst C dM_zero_5 kiconst_0 ?_
  obtain ⟨c_6, hf⟩ := chk_some hf
  refine as_53 C c_6 dM_zero_6 ?_
  refine wk_aload_n C 0 dM_zero_7 rfl rfl ?_
  refine gf_M_26 C dM_zero_8 ?_
  refine wk_iload_n C 1 dM_zero_11 rfl rfl ?_
  refine wk_iconst C dM_zero_12 kiconst_1 ?_
  obtain ⟨c_13, hf⟩ := chk_some hf
  refine as_51 C c_13 dM_zero_13 ?_
  refine wk_aload_n C 0 dM_zero_14 rfl rfl ?_
  refine gf_M_29 C dM_zero_15 ?_
  refine wk_iload_n C 1 dM_zero_18 rfl rfl ?_
  refine wk_iconst C dM_zero_19 kiconst_0 ?_
  obtain ⟨c_20, hf⟩ := chk_some hf
  refine as_52 C c_20 dM_zero_20 ?_
  refine wk_aload_n C 0 dM_zero_21 rfl rfl ?_
  refine gf_M_23 C dM_zero_22 ?_
  refine wk_sipush C dM_zero_25 ksipush_2600 ?_
  refine wk_iload_n C 1 dM_zero_28 rfl rfl ?_
  refine wk_imul C dM_zero_29 ?_
  refine wk_iconst C dM_zero_30 kiconst_0 ?_
  obtain ⟨c_31, hf⟩ := chk_some hf
  refine as_50 C c_31 dM_zero_31 ?_
  cases hf
  exact wk_return C hq dM_zero_32
theorem m_M_zero {l : Launch} {G : cGt} (hI : wd_inj (vC G)) {v1 : Int32} {h h' : Hp} {r : Unit}  (hf : f_M_zero v1 h = some (r, h')) : wk_M l (vC G) yM_zero cM_zero 2 none 0 0 [.ref (cad G 46), .int v1] h none h' :=
  wk_met hI (by decide +kernel) rfl (Nat.le_of_ble_eq_true rfl) (wk_cat1 rfl) (fun X hX C hq => by subst hX; exact b_M_zero hI C  hf hq)
set_option maxHeartbeats 4000000 in
set_option maxRecDepth 100000 in
theorem b_M_copy_38 {X : wk_X} {G : cGt} (hI : wd_inj (vC G)) (C : wk_C X (vC G) cM_copy RM 4 0 0) : ∀ (n : Nat) {v1 : Int32} {v2 : Int32} {v3 : Int32} {h : Hp} {q : Unit × Hp}  (hf : f_M_copy_38 n v1 v2 v3 h = some q) (hq : wk_Q X (vC G) none q.2 none), WW X (vC G) h 38 [(0, .ref (cad G 46)), (1, .int v1), (2, .int v2), (3, .int v3)] [] := by
  intro n
  induction n with
  | zero =>
    intros
    rename_i hf _
    cases hf
  | succ n ih =>
    intro v1 v2 v3 h q hf hq
    rw [f_M_copy_38] at hf
    refine wk_iload_n C 3 dM_copy_38 rfl rfl ?_
    refine wk_aload_n C 0 dM_copy_39 rfl rfl ?_
    refine gf_M_26 C dM_copy_40 ?_
    refine wk_iload_n C 1 dM_copy_43 rfl rfl ?_
    obtain ⟨c_44, hf⟩ := chk_some hf
    refine al_51 C c_44 dM_copy_44 ?_
    refine wk_icmp_ge (tgt := 78) C dM_copy_45 rfl hf (fun c_45 hf => ?_) (fun c_45 hf => ?_)
    · cases hf
      exact wk_return C hq dM_copy_78
    · refine wk_aload_n C 0 dM_copy_48 rfl rfl ?_
      refine gf_M_23 C dM_copy_49 ?_
      refine wk_sipush C dM_copy_52 ksipush_2600 ?_
      refine wk_iload_n C 2 dM_copy_55 rfl rfl ?_
      refine wk_imul C dM_copy_56 ?_
      refine wk_iload_n C 3 dM_copy_57 rfl rfl ?_
      refine wk_iadd C dM_copy_58 ?_
      refine wk_aload_n C 0 dM_copy_59 rfl rfl ?_
      refine gf_M_23 C dM_copy_60 ?_
      refine wk_sipush C dM_copy_63 ksipush_2600 ?_
      refine wk_iload_n C 1 dM_copy_66 rfl rfl ?_
      refine wk_imul C dM_copy_67 ?_
      refine wk_iload_n C 3 dM_copy_68 rfl rfl ?_
      refine wk_iadd C dM_copy_69 ?_
      obtain ⟨c_70, hf⟩ := chk_some hf
      refine al_50 C c_70 dM_copy_70 ?_
      obtain ⟨c_71, hf⟩ := chk_some hf
      refine as_50 C c_71 dM_copy_71 ?_
      refine wk_iinc C dM_copy_72 rfl kiconst_1 (by decide) ?_
      refine wk_goto (tgt := 38) C dM_copy_75 rfl ?_
      exact wk_go (ih hf hq) (And.intro rfl (And.intro rfl (And.intro rfl (And.intro rfl trivial))))
set_option maxHeartbeats 4000000 in
set_option maxRecDepth 100000 in
theorem b_M_copy {X : wk_X} {G : cGt} (hI : wd_inj (vC G)) (C : wk_C X (vC G) cM_copy RM 4 0 0) {v1 : Int32} {v2 : Int32} {h : Hp} {q : Unit × Hp}  (hf : f_M_copy v1 v2 h = some q) (hq : wk_Q X (vC G) none q.2 none) : WW X (vC G) h 0 [(0, .ref (cad G 46)), (1, .int v1), (2, .int v2)] [] := by
  unfold f_M_copy at hf
  refine wk_aload_n C 0 dM_copy_0 rfl rfl ?_
  refine gf_M_32 C dM_copy_1 ?_
  refine wk_iload_n C 2 dM_copy_4 rfl rfl ?_
  refine wk_aload_n C 0 dM_copy_5 rfl rfl ?_
  refine gf_M_32 C dM_copy_6 ?_
  refine wk_iload_n C 1 dM_copy_9 rfl rfl ?_
  obtain ⟨c_10, hf⟩ := chk_some hf
  refine al_53 C c_10 dM_copy_10 ?_
  obtain ⟨c_11, hf⟩ := chk_some hf
  refine as_53 C c_11 dM_copy_11 ?_
  refine wk_aload_n C 0 dM_copy_12 rfl rfl ?_
  refine gf_M_26 C dM_copy_13 ?_
  refine wk_iload_n C 2 dM_copy_16 rfl rfl ?_
  refine wk_aload_n C 0 dM_copy_17 rfl rfl ?_
  refine gf_M_26 C dM_copy_18 ?_
  refine wk_iload_n C 1 dM_copy_21 rfl rfl ?_
  obtain ⟨c_22, hf⟩ := chk_some hf
  refine al_51 C c_22 dM_copy_22 ?_
  obtain ⟨c_23, hf⟩ := chk_some hf
  refine as_51 C c_23 dM_copy_23 ?_
  refine wk_aload_n C 0 dM_copy_24 rfl rfl ?_
  refine gf_M_29 C dM_copy_25 ?_
  refine wk_iload_n C 2 dM_copy_28 rfl rfl ?_
  refine wk_aload_n C 0 dM_copy_29 rfl rfl ?_
  refine gf_M_29 C dM_copy_30 ?_
  refine wk_iload_n C 1 dM_copy_33 rfl rfl ?_
  obtain ⟨c_34, hf⟩ := chk_some hf
  refine al_52 C c_34 dM_copy_34 ?_
  obtain ⟨c_35, hf⟩ := chk_some hf
  refine as_52 C c_35 dM_copy_35 ?_
  refine wk_iconst C dM_copy_36 kiconst_0 ?_
  refine wk_istore_n C 3 dM_copy_37 rfl (by decide) ?_
  exact wk_go (b_M_copy_38 hI C fuel hf hq) (And.intro rfl (And.intro rfl (And.intro rfl (And.intro rfl trivial))))
theorem m_M_copy {l : Launch} {G : cGt} (hI : wd_inj (vC G)) {v1 : Int32} {v2 : Int32} {h h' : Hp} {r : Unit}  (hf : f_M_copy v1 v2 h = some (r, h')) : wk_M l (vC G) yM_copy cM_copy 4 none 0 0 [.ref (cad G 46), .int v1, .int v2] h none h' :=
  wk_met hI (by decide +kernel) rfl (Nat.le_of_ble_eq_true rfl) (wk_cat1 rfl) (fun X hX C hq => by subst hX; exact b_M_copy hI C  hf hq)
set_option maxHeartbeats 4000000 in
set_option maxRecDepth 100000 in
theorem b_M_settle_61 {X : wk_X} {G : cGt} (hI : wd_inj (vC G)) (C : wk_C X (vC G) cM_settle RM 4 1 21) : ∀ (n : Nat) {v1 : Int32} {v2 : Int32} {v3 : Int32} {h : Hp} {q : Unit × Hp}  (hf : f_M_settle_61 n v1 v2 v3 h = some q) (hq : wk_Q X (vC G) none q.2 none), WW X (vC G) h 61 [(0, .ref (cad G 46)), (1, .int v1), (2, .int v2), (3, .int v3)] [] := by
  intro n
  induction n with
  | zero =>
    intros
    rename_i hf _
    cases hf
  | succ n ih =>
    intro v1 v2 v3 h q hf hq
    rw [f_M_settle_61] at hf
    refine wk_iload_n C 3 dM_settle_61 rfl rfl ?_
    refine wk_aload_n C 0 dM_settle_62 rfl rfl ?_
    refine gf_M_26 C dM_settle_63 ?_
    refine wk_iload_n C 1 dM_settle_66 rfl rfl ?_
    obtain ⟨c_67, hf⟩ := chk_some hf
    refine al_51 C c_67 dM_settle_67 ?_
    refine wk_icmp_ge (tgt := 107) C dM_settle_68 rfl hf (fun c_68 hf => ?_) (fun c_68 hf => ?_)
    · cases hf
      exact wk_return C hq dM_settle_107
    · refine wk_iload_n C 2 dM_settle_71 rfl rfl ?_
      refine wk_if_le (tgt := 107) C dM_settle_72 rfl hf (fun c_72 hf => ?_) (fun c_72 hf => ?_)
      · cases hf
        exact wk_return C hq dM_settle_107
      · refine wk_aload_n C 0 dM_settle_75 rfl rfl ?_
        refine gf_M_23 C dM_settle_76 ?_
        refine wk_sipush C dM_settle_79 ksipush_2600 ?_
        refine wk_iload_n C 1 dM_settle_82 rfl rfl ?_
        refine wk_imul C dM_settle_83 ?_
        refine wk_iload_n C 3 dM_settle_84 rfl rfl ?_
        refine wk_iadd C dM_settle_85 ?_
        refine wk_aload_n C 0 dM_settle_86 rfl rfl ?_
        refine gf_M_23 C dM_settle_87 ?_
        refine wk_sipush C dM_settle_90 ksipush_2600 ?_
        refine wk_iload_n C 1 dM_settle_93 rfl rfl ?_
        refine wk_imul C dM_settle_94 ?_
        refine wk_iload_n C 3 dM_settle_95 rfl rfl ?_
        refine wk_iadd C dM_settle_96 ?_
        refine wk_iload_n C 2 dM_settle_97 rfl rfl ?_
        refine wk_iadd C dM_settle_98 ?_
        obtain ⟨c_99, hf⟩ := chk_some hf
        refine al_50 C c_99 dM_settle_99 ?_
        obtain ⟨c_100, hf⟩ := chk_some hf
        refine as_50 C c_100 dM_settle_100 ?_
        refine wk_iinc C dM_settle_101 rfl kiconst_1 (by decide) ?_
        refine wk_goto (tgt := 61) C dM_settle_104 rfl ?_
        exact wk_go (ih hf hq) (And.intro rfl (And.intro rfl (And.intro rfl (And.intro rfl trivial))))
set_option maxHeartbeats 4000000 in
set_option maxRecDepth 100000 in
theorem b_M_settle_33 {X : wk_X} {G : cGt} (hI : wd_inj (vC G)) (C : wk_C X (vC G) cM_settle RM 4 1 21) {v1 : Int32} {v2 : Int32} {h : Hp} {q : Unit × Hp}  (hf : f_M_settle_33 v1 v2 h = some q) (hq : wk_Q X (vC G) none q.2 none) : WW X (vC G) h 33 [(0, .ref (cad G 46)), (1, .int v1), (2, .int v2)] [] := by
  unfold f_M_settle_33 at hf
  refine wk_iload_n C 2 dM_settle_33 rfl rfl ?_
  refine wk_aload_n C 0 dM_settle_34 rfl rfl ?_
  refine gf_M_26 C dM_settle_35 ?_
  refine wk_iload_n C 1 dM_settle_38 rfl rfl ?_
  obtain ⟨c_39, hf⟩ := chk_some hf
  refine al_51 C c_39 dM_settle_39 ?_
  refine wk_icmp_ne (tgt := 49) C dM_settle_40 rfl hf (fun c_40 hf => ?_) (fun c_40 hf => ?_)
  · refine wk_aload_n C 0 dM_settle_49 rfl rfl ?_
    refine gf_M_26 C dM_settle_50 ?_
    refine wk_iload_n C 1 dM_settle_53 rfl rfl ?_
    refine wk_dup2 C dM_settle_54 rfl rfl ?_
    obtain ⟨c_55, hf⟩ := chk_some hf
    refine al_51 C c_55 dM_settle_55 ?_
    refine wk_iload_n C 2 dM_settle_56 rfl rfl ?_
    refine wk_isub C dM_settle_57 ?_
    obtain ⟨c_58, hf⟩ := chk_some hf
    refine as_51 C c_58 dM_settle_58 ?_
    refine wk_iconst C dM_settle_59 kiconst_0 ?_
    refine wk_istore_n C 3 dM_settle_60 rfl (by decide) ?_
    exact wk_go (b_M_settle_61 hI C fuel hf hq) (And.intro rfl (And.intro rfl (And.intro rfl (And.intro rfl trivial))))
  · refine wk_aload_n C 0 dM_settle_43 rfl rfl ?_
    refine wk_iload_n C 1 dM_settle_44 rfl rfl ?_
    obtain ⟨r45, h45, e_45, hf⟩ := bd_some hf
    refine wk_callV (As := [.int v1]) (rest := []) C lw_good cw_M_58 wi_M_zero (m_M_zero hI e_45) lz_46 (he_46 G (h 46)) rfl rfl rfl (Nat.le_of_ble_eq_true rfl) (by decide) dM_settle_45 ?_
    cases hf
    exact wk_return C hq dM_settle_48
set_option maxHeartbeats 4000000 in
set_option maxRecDepth 100000 in
theorem b_M_settle_2 {X : wk_X} {G : cGt} (hI : wd_inj (vC G)) (C : wk_C X (vC G) cM_settle RM 4 1 21) : ∀ (n : Nat) {v1 : Int32} {v2 : Int32} {h : Hp} {q : Unit × Hp}  (hf : f_M_settle_2 n v1 v2 h = some q) (hq : wk_Q X (vC G) none q.2 none), WW X (vC G) h 2 [(0, .ref (cad G 46)), (1, .int v1), (2, .int v2)] [] := by
  intro n
  induction n with
  | zero =>
    intros
    rename_i hf _
    cases hf
  | succ n ih =>
    intro v1 v2 h q hf hq
    rw [f_M_settle_2] at hf
    refine wk_iload_n C 2 dM_settle_2 rfl rfl ?_
    refine wk_aload_n C 0 dM_settle_3 rfl rfl ?_
    refine gf_M_26 C dM_settle_4 ?_
    refine wk_iload_n C 1 dM_settle_7 rfl rfl ?_
    obtain ⟨c_8, hf⟩ := chk_some hf
    refine al_51 C c_8 dM_settle_8 ?_
    refine wk_icmp_ge (tgt := 33) C dM_settle_9 rfl hf (fun c_9 hf => ?_) (fun c_9 hf => ?_)
    · exact wk_go (b_M_settle_33 hI C hf hq) (And.intro rfl (And.intro rfl (And.intro rfl trivial)))
    · refine wk_aload_n C 0 dM_settle_12 rfl rfl ?_
      refine gf_M_23 C dM_settle_13 ?_
      refine wk_sipush C dM_settle_16 ksipush_2600 ?_
      refine wk_iload_n C 1 dM_settle_19 rfl rfl ?_
      refine wk_imul C dM_settle_20 ?_
      refine wk_iload_n C 2 dM_settle_21 rfl rfl ?_
      refine wk_iadd C dM_settle_22 ?_
      obtain ⟨c_23, hf⟩ := chk_some hf
      refine al_50 C c_23 dM_settle_23 ?_
      refine wk_if_ne (tgt := 33) C dM_settle_24 rfl hf (fun c_24 hf => ?_) (fun c_24 hf => ?_)
      · exact wk_go (b_M_settle_33 hI C hf hq) (And.intro rfl (And.intro rfl (And.intro rfl trivial)))
      · refine wk_iinc C dM_settle_27 rfl kiconst_1 (by decide) ?_
        refine wk_goto (tgt := 2) C dM_settle_30 rfl ?_
        exact wk_go (ih hf hq) (And.intro rfl (And.intro rfl (And.intro rfl trivial)))
set_option maxHeartbeats 4000000 in
set_option maxRecDepth 100000 in
theorem b_M_settle {X : wk_X} {G : cGt} (hI : wd_inj (vC G)) (C : wk_C X (vC G) cM_settle RM 4 1 21) {v1 : Int32} {h : Hp} {q : Unit × Hp}  (hf : f_M_settle v1 h = some q) (hq : wk_Q X (vC G) none q.2 none) : WW X (vC G) h 0 [(0, .ref (cad G 46)), (1, .int v1)] [] := by
  unfold f_M_settle at hf
  refine wk_iconst C dM_settle_0 kiconst_0 ?_
  refine wk_istore_n C 2 dM_settle_1 rfl (by decide) ?_
  exact wk_go (b_M_settle_2 hI C fuel hf hq) (And.intro rfl (And.intro rfl (And.intro rfl trivial)))
theorem m_M_settle {l : Launch} {G : cGt} (hI : wd_inj (vC G)) {v1 : Int32} {h h' : Hp} {r : Unit}  (hf : f_M_settle v1 h = some (r, h')) : wk_M l (vC G) yM_settle cM_settle 4 none 1 21 [.ref (cad G 46), .int v1] h none h' :=
  wk_met hI (by decide +kernel) rfl (Nat.le_of_ble_eq_true rfl) (wk_cat1 rfl) (fun X hX C hq => by subst hX; exact b_M_settle hI C  hf hq)
set_option maxHeartbeats 4000000 in
set_option maxRecDepth 100000 in
theorem b_M_isDigit {X : wk_X} {G : cGt} (hI : wd_inj (vC G)) (C : wk_C X (vC G) cM_isDigit RM 1 0 0) {v0 : Int32} {h : Hp} {q : Int32 × Hp}  (hf : f_M_isDigit v0 h = some q) (hq : wk_Q X (vC G) (some (.int q.1)) q.2 (some .boolean)) : WW X (vC G) h 0 [(0, .int v0)] [] := by
  unfold f_M_isDigit at hf
  refine wk_iload_n C 0 dM_isDigit_0 rfl rfl ?_
  refine wk_bipush C dM_isDigit_1 kbipush_48 ?_
  refine wk_icmp_lt (tgt := 16) C dM_isDigit_3 rfl hf (fun c_3 hf => ?_) (fun c_3 hf => ?_)
  · refine wk_iconst C dM_isDigit_16 kiconst_0 ?_
    cases hf
    exact wk_zreturn C hq rfl dM_isDigit_17
  · refine wk_iload_n C 0 dM_isDigit_6 rfl rfl ?_
    refine wk_bipush C dM_isDigit_7 kbipush_57 ?_
    refine wk_icmp_gt (tgt := 16) C dM_isDigit_9 rfl hf (fun c_9 hf => ?_) (fun c_9 hf => ?_)
    · refine wk_iconst C dM_isDigit_16 kiconst_0 ?_
      cases hf
      exact wk_zreturn C hq rfl dM_isDigit_17
    · refine wk_iconst C dM_isDigit_12 kiconst_1 ?_
      refine wk_goto (tgt := 17) C dM_isDigit_13 rfl ?_
      cases hf
      exact wk_zreturn C hq rfl dM_isDigit_17
theorem m_M_isDigit {l : Launch} {G : cGt} (hI : wd_inj (vC G)) {v0 : Int32} {h h' : Hp} {r : Int32}  (hf : f_M_isDigit v0 h = some (r, h')) : wk_M l (vC G) yM_isDigit cM_isDigit 1 (some .boolean) 0 0 [.int v0] h (some (.int r)) h' :=
  wk_met hI (by decide +kernel) rfl (Nat.le_of_ble_eq_true rfl) (wk_cat1 rfl) (fun X hX C hq => by subst hX; exact b_M_isDigit hI C  hf hq)
set_option maxHeartbeats 4000000 in
set_option maxRecDepth 100000 in
theorem b_M_read_440 {X : wk_X} {G : cGt} (hI : wd_inj (vC G)) (C : wk_C X (vC G) cM_read RM 12 2 44) {v2 : Int32} {v3 : Int32} {v4 : Int32} {v6 : Int32} {v7 : Int32} {v9 : Int32} {s1 : Int32} {s2 : Int32} {h : Hp} {q : Int32 × Hp}  (hf : f_M_read_440 v2 v3 v4 v6 v7 v9 s1 s2 h = some q) (hq : wk_Q X (vC G) (some (.int q.1)) q.2 (some .boolean)) : WW X (vC G) h 440 [(0, .ref (cad G 46)), (2, .int v2), (3, .int v3), (4, .int v4), (6, .int v6), (7, .int v7), (9, .int v9)] [.int s2, .int s1, .ref (cad G 53)] := by
  unfold f_M_read_440 at hf
  obtain ⟨c_440, hf⟩ := chk_some hf
  refine as_53 C c_440 dM_read_440 ?_
  refine wk_aload_n C 0 dM_read_441 rfl rfl ?_
  refine gf_M_26 C dM_read_442 ?_
  refine wk_iload_n C 2 dM_read_445 rfl rfl ?_
  refine wk_iload C dM_read_446 rfl ?_
  obtain ⟨c_448, hf⟩ := chk_some hf
  refine as_51 C c_448 dM_read_448 ?_
  refine wk_aload_n C 0 dM_read_449 rfl rfl ?_
  refine gf_M_29 C dM_read_450 ?_
  refine wk_iload_n C 2 dM_read_453 rfl rfl ?_
  refine wk_iload C dM_read_454 rfl ?_
  refine wk_iload C dM_read_456 rfl ?_
  refine wk_isub C dM_read_458 ?_
  obtain ⟨c_459, hf⟩ := chk_some hf
  refine as_52 C c_459 dM_read_459 ?_
  refine wk_aload_n C 0 dM_read_460 rfl rfl ?_
  refine wk_iload_n C 2 dM_read_461 rfl rfl ?_
  obtain ⟨r462, h462, e_462, hf⟩ := bd_some hf
  refine wk_callV (As := [.int v2]) (rest := []) C lw_good cw_M_64 wi_M_settle (m_M_settle hI e_462) lz_46 (he_46 G ((up2 (up2 (up2 h 53 (Int32.toNatClampNeg s1) s2) 51 (Int32.toNatClampNeg v2) v6) 52 (Int32.toNatClampNeg v2) (v9 - v7)) 46)) rfl rfl rfl (Nat.le_of_ble_eq_true rfl) (by decide) dM_read_462 ?_
  refine wk_iload_n C 3 dM_read_465 rfl rfl ?_
  refine wk_iload C dM_read_466 rfl ?_
  refine wk_icmp_ne (tgt := 475) C dM_read_468 rfl hf (fun c_468 hf => ?_) (fun c_468 hf => ?_)
  · refine wk_iconst C dM_read_475 kiconst_0 ?_
    cases hf
    exact wk_zreturn C hq rfl dM_read_476
  · refine wk_iconst C dM_read_471 kiconst_1 ?_
    refine wk_goto (tgt := 476) C dM_read_472 rfl ?_
    cases hf
    exact wk_zreturn C hq rfl dM_read_476
set_option maxHeartbeats 4000000 in
set_option maxRecDepth 100000 in
theorem b_M_read_423 {X : wk_X} {G : cGt} (hI : wd_inj (vC G)) (C : wk_C X (vC G) cM_read RM 12 2 44) {v2 : Int32} {v3 : Int32} {v4 : Int32} {v5 : Int32} {v6 : Int32} {v7 : Int32} {s0 : Int32} {h : Hp} {q : Int32 × Hp}  (hf : f_M_read_423 v2 v3 v4 v5 v6 v7 s0 h = some q) (hq : wk_Q X (vC G) (some (.int q.1)) q.2 (some .boolean)) : WW X (vC G) h 423 [(0, .ref (cad G 46)), (2, .int v2), (3, .int v3), (4, .int v4), (5, .int v5), (6, .int v6), (7, .int v7)] [.int s0] := by
  unfold f_M_read_423 at hf
  refine wk_istore C dM_read_423 (by decide) ?_
  refine wk_aload_n C 0 dM_read_425 rfl rfl ?_
  refine gf_M_32 C dM_read_426 ?_
  refine wk_iload_n C 2 dM_read_429 rfl rfl ?_
  refine wk_iload C dM_read_430 rfl ?_
  refine wk_if_eq (tgt := 439) C dM_read_432 rfl hf (fun c_432 hf => ?_) (fun c_432 hf => ?_)
  · refine wk_iconst C dM_read_439 kiconst_1 ?_
    exact wk_go (b_M_read_440 hI C hf hq) (And.intro rfl (And.intro rfl (And.intro rfl (And.intro rfl (And.intro rfl (And.intro rfl (And.intro rfl trivial)))))))
  · refine wk_iconst C dM_read_435 kiconst_m1 ?_
    refine wk_goto (tgt := 440) C dM_read_436 rfl ?_
    exact wk_go (b_M_read_440 hI C hf hq) (And.intro rfl (And.intro rfl (And.intro rfl (And.intro rfl (And.intro rfl (And.intro rfl (And.intro rfl trivial)))))))
set_option maxHeartbeats 4000000 in
set_option maxRecDepth 100000 in
theorem b_M_read_402 {X : wk_X} {G : cGt} (hI : wd_inj (vC G)) (C : wk_C X (vC G) cM_read RM 12 2 44) {v2 : Int32} {v3 : Int32} {v4 : Int32} {v5 : Int32} {v6 : Int32} {v7 : Int32} {v9 : Int32} {v10 : Int32} {v11 : Int32} {h : Hp} {q : Int32 × Hp}  (hf : f_M_read_402 v2 v3 v4 v5 v6 v7 v9 v10 v11 h = some q) (hq : wk_Q X (vC G) (some (.int q.1)) q.2 (some .boolean)) : WW X (vC G) h 402 [(0, .ref (cad G 46)), (2, .int v2), (3, .int v3), (4, .int v4), (5, .int v5), (6, .int v6), (7, .int v7), (9, .int v9), (10, .int v10), (11, .int v11)] [] := by
  unfold f_M_read_402 at hf
  refine wk_iload_n C 3 dM_read_402 rfl rfl ?_
  refine wk_iload C dM_read_403 rfl ?_
  refine wk_icmp_ne (tgt := 410) C dM_read_405 rfl hf (fun c_405 hf => ?_) (fun c_405 hf => ?_)
  · refine wk_iload C dM_read_410 rfl ?_
    refine wk_if_eq (tgt := 421) C dM_read_412 rfl hf (fun c_412 hf => ?_) (fun c_412 hf => ?_)
    · refine wk_iload C dM_read_421 rfl ?_
      exact wk_go (b_M_read_423 hI C hf hq) (And.intro rfl (And.intro rfl (And.intro rfl (And.intro rfl (And.intro rfl (And.intro rfl (And.intro rfl trivial)))))))
    · refine wk_iload C dM_read_415 rfl ?_
      refine wk_ineg C dM_read_417 ?_
      refine wk_goto (tgt := 423) C dM_read_418 rfl ?_
      exact wk_go (b_M_read_423 hI C hf hq) (And.intro rfl (And.intro rfl (And.intro rfl (And.intro rfl (And.intro rfl (And.intro rfl (And.intro rfl trivial)))))))
  · refine wk_iconst C dM_read_408 kiconst_0 ?_
    cases hf
    exact wk_zreturn C hq rfl dM_read_409
set_option maxHeartbeats 4000000 in
set_option maxRecDepth 100000 in
theorem b_M_read_353 {X : wk_X} {G : cGt} (hI : wd_inj (vC G)) (C : wk_C X (vC G) cM_read RM 12 2 44) : ∀ (n : Nat) {v2 : Int32} {v3 : Int32} {v4 : Int32} {v5 : Int32} {v6 : Int32} {v7 : Int32} {v9 : Int32} {v10 : Int32} {v11 : Int32} {h : Hp} {q : Int32 × Hp}  (hf : f_M_read_353 n v2 v3 v4 v5 v6 v7 v9 v10 v11 h = some q) (hq : wk_Q X (vC G) (some (.int q.1)) q.2 (some .boolean)), WW X (vC G) h 353 [(0, .ref (cad G 46)), (2, .int v2), (3, .int v3), (4, .int v4), (5, .int v5), (6, .int v6), (7, .int v7), (9, .int v9), (10, .int v10), (11, .int v11)] [] := by
  intro n
  induction n with
  | zero =>
    intros
    rename_i hf _
    cases hf
  | succ n ih =>
    intro v2 v3 v4 v5 v6 v7 v9 v10 v11 h q hf hq
    rw [f_M_read_353] at hf
    refine wk_iload_n C 3 dM_read_353 rfl rfl ?_
    refine wk_iload C dM_read_354 rfl ?_
    refine wk_icmp_ge (tgt := 402) C dM_read_356 rfl hf (fun c_356 hf => ?_) (fun c_356 hf => ?_)
    · exact wk_go (b_M_read_402 hI C hf hq) (And.intro rfl (And.intro rfl (And.intro rfl (And.intro rfl (And.intro rfl (And.intro rfl (And.intro rfl (And.intro rfl (And.intro rfl (And.intro rfl trivial))))))))))
    · refine wk_aload_n C 0 dM_read_359 rfl rfl ?_
      refine gf_M_13 C dM_read_360 ?_
      refine wk_iload_n C 3 dM_read_363 rfl rfl ?_
      obtain ⟨c_364, hf⟩ := chk_some hf
      refine al_48 C c_364 dM_read_364 ?_
      obtain ⟨r365, h365, e_365, hf⟩ := bd_some hf
      refine wk_callS (As := [.int (h 48 (Int32.toNatClampNeg v3))]) (rest := []) C lw_good cw_M_61 ws_M_isDigit (m_M_isDigit hI e_365) rfl rfl (Nat.le_of_ble_eq_true rfl) (by decide) dM_read_365 ?_
      refine wk_if_eq (tgt := 402) C dM_read_368 rfl hf (fun c_368 hf => ?_) (fun c_368 hf => ?_)
      · exact wk_go (b_M_read_402 hI C hf hq) (And.intro rfl (And.intro rfl (And.intro rfl (And.intro rfl (And.intro rfl (And.intro rfl (And.intro rfl (And.intro rfl (And.intro rfl (And.intro rfl trivial))))))))))
      · refine wk_iload_n C 3 dM_read_371 rfl rfl ?_
        refine wk_iload C dM_read_372 rfl ?_
        refine wk_isub C dM_read_374 ?_
        refine wk_iconst C dM_read_375 kiconst_3 ?_
        refine wk_icmp_ge (tgt := 402) C dM_read_376 rfl hf (fun c_376 hf => ?_) (fun c_376 hf => ?_)
        · exact wk_go (b_M_read_402 hI C hf hq) (And.intro rfl (And.intro rfl (And.intro rfl (And.intro rfl (And.intro rfl (And.intro rfl (And.intro rfl (And.intro rfl (And.intro rfl (And.intro rfl trivial))))))))))
        · refine wk_bipush C dM_read_379 kbipush_10 ?_
          refine wk_iload C dM_read_381 rfl ?_
          refine wk_imul C dM_read_383 ?_
          refine wk_aload_n C 0 dM_read_384 rfl rfl ?_
          refine gf_M_13 C dM_read_385 ?_
          refine wk_iload_n C 3 dM_read_388 rfl rfl ?_
          obtain ⟨c_389, hf⟩ := chk_some hf
          refine al_48 C c_389 dM_read_389 ?_
          refine wk_iadd C dM_read_390 ?_
          refine wk_bipush C dM_read_391 kbipush_48 ?_
          refine wk_isub C dM_read_393 ?_
          refine wk_istore C dM_read_394 (by decide) ?_
          refine wk_iinc C dM_read_396 rfl kiconst_1 (by decide) ?_
          refine wk_goto (tgt := 353) C dM_read_399 rfl ?_
          exact wk_go (ih hf hq) (And.intro rfl (And.intro rfl (And.intro rfl (And.intro rfl (And.intro rfl (And.intro rfl (And.intro rfl (And.intro rfl (And.intro rfl (And.intro rfl trivial))))))))))
set_option maxHeartbeats 4000000 in
set_option maxRecDepth 100000 in
theorem b_M_read_312 {X : wk_X} {G : cGt} (hI : wd_inj (vC G)) (C : wk_C X (vC G) cM_read RM 12 2 44) {v2 : Int32} {v3 : Int32} {v4 : Int32} {v5 : Int32} {v6 : Int32} {v7 : Int32} {v9 : Int32} {s0 : Int32} {h : Hp} {q : Int32 × Hp}  (hf : f_M_read_312 v2 v3 v4 v5 v6 v7 v9 s0 h = some q) (hq : wk_Q X (vC G) (some (.int q.1)) q.2 (some .boolean)) : WW X (vC G) h 312 [(0, .ref (cad G 46)), (2, .int v2), (3, .int v3), (4, .int v4), (5, .int v5), (6, .int v6), (7, .int v7), (9, .int v9)] [.int s0] := by
  unfold f_M_read_312 at hf
  refine wk_istore C dM_read_312 (by decide) ?_
  refine wk_iload_n C 3 dM_read_314 rfl rfl ?_
  refine wk_iload_n C 3 dM_read_315 rfl rfl ?_
  refine wk_iload C dM_read_316 rfl ?_
  refine wk_icmp_ge (tgt := 347) C dM_read_318 rfl hf (fun c_318 hf => ?_) (fun c_318 hf => ?_)
  · refine wk_iconst C dM_read_347 kiconst_0 ?_
    refine wk_iadd C dM_read_348 ?_
    refine wk_istore_n C 3 dM_read_349 rfl (by decide) ?_
    refine wk_iload_n C 3 dM_read_350 rfl rfl ?_
    refine wk_istore C dM_read_351 (by decide) ?_
    exact wk_go (b_M_read_353 hI C fuel hf hq) (And.intro rfl (And.intro rfl (And.intro rfl (And.intro rfl (And.intro rfl (And.intro rfl (And.intro rfl (And.intro rfl (And.intro rfl (And.intro rfl trivial))))))))))
  · refine wk_aload_n C 0 dM_read_321 rfl rfl ?_
    refine gf_M_13 C dM_read_322 ?_
    refine wk_iload_n C 3 dM_read_325 rfl rfl ?_
    obtain ⟨c_326, hf⟩ := chk_some hf
    refine al_48 C c_326 dM_read_326 ?_
    refine wk_bipush C dM_read_327 kbipush_43 ?_
    refine wk_icmp_eq (tgt := 343) C dM_read_329 rfl hf (fun c_329 hf => ?_) (fun c_329 hf => ?_)
    · refine wk_iconst C dM_read_343 kiconst_1 ?_
      refine wk_goto (tgt := 348) C dM_read_344 rfl ?_
      refine wk_iadd C dM_read_348 ?_
      refine wk_istore_n C 3 dM_read_349 rfl (by decide) ?_
      refine wk_iload_n C 3 dM_read_350 rfl rfl ?_
      refine wk_istore C dM_read_351 (by decide) ?_
      exact wk_go (b_M_read_353 hI C fuel hf hq) (And.intro rfl (And.intro rfl (And.intro rfl (And.intro rfl (And.intro rfl (And.intro rfl (And.intro rfl (And.intro rfl (And.intro rfl (And.intro rfl trivial))))))))))
    · refine wk_aload_n C 0 dM_read_332 rfl rfl ?_
      refine gf_M_13 C dM_read_333 ?_
      refine wk_iload_n C 3 dM_read_336 rfl rfl ?_
      obtain ⟨c_337, hf⟩ := chk_some hf
      refine al_48 C c_337 dM_read_337 ?_
      refine wk_bipush C dM_read_338 kbipush_45 ?_
      refine wk_icmp_ne (tgt := 347) C dM_read_340 rfl hf (fun c_340 hf => ?_) (fun c_340 hf => ?_)
      · refine wk_iconst C dM_read_347 kiconst_0 ?_
        refine wk_iadd C dM_read_348 ?_
        refine wk_istore_n C 3 dM_read_349 rfl (by decide) ?_
        refine wk_iload_n C 3 dM_read_350 rfl rfl ?_
        refine wk_istore C dM_read_351 (by decide) ?_
        exact wk_go (b_M_read_353 hI C fuel hf hq) (And.intro rfl (And.intro rfl (And.intro rfl (And.intro rfl (And.intro rfl (And.intro rfl (And.intro rfl (And.intro rfl (And.intro rfl (And.intro rfl trivial))))))))))
      · refine wk_iconst C dM_read_343 kiconst_1 ?_
        refine wk_goto (tgt := 348) C dM_read_344 rfl ?_
        refine wk_iadd C dM_read_348 ?_
        refine wk_istore_n C 3 dM_read_349 rfl (by decide) ?_
        refine wk_iload_n C 3 dM_read_350 rfl rfl ?_
        refine wk_istore C dM_read_351 (by decide) ?_
        exact wk_go (b_M_read_353 hI C fuel hf hq) (And.intro rfl (And.intro rfl (And.intro rfl (And.intro rfl (And.intro rfl (And.intro rfl (And.intro rfl (And.intro rfl (And.intro rfl (And.intro rfl trivial))))))))))
set_option maxHeartbeats 4000000 in
set_option maxRecDepth 100000 in
theorem b_M_read_287 {X : wk_X} {G : cGt} (hI : wd_inj (vC G)) (C : wk_C X (vC G) cM_read RM 12 2 44) {v2 : Int32} {v3 : Int32} {v4 : Int32} {v5 : Int32} {v6 : Int32} {v7 : Int32} {v9 : Int32} {h : Hp} {q : Int32 × Hp}  (hf : f_M_read_287 v2 v3 v4 v5 v6 v7 v9 h = some q) (hq : wk_Q X (vC G) (some (.int q.1)) q.2 (some .boolean)) : WW X (vC G) h 287 [(0, .ref (cad G 46)), (2, .int v2), (3, .int v3), (4, .int v4), (5, .int v5), (6, .int v6), (7, .int v7), (9, .int v9)] [] := by
  unfold f_M_read_287 at hf
  refine wk_iinc C dM_read_287 rfl kiconst_1 (by decide) ?_
  refine wk_iload_n C 3 dM_read_290 rfl rfl ?_
  refine wk_iload C dM_read_291 rfl ?_
  refine wk_icmp_ge (tgt := 311) C dM_read_293 rfl hf (fun c_293 hf => ?_) (fun c_293 hf => ?_)
  · refine wk_iconst C dM_read_311 kiconst_0 ?_
    exact wk_go (b_M_read_312 hI C hf hq) (And.intro rfl (And.intro rfl (And.intro rfl (And.intro rfl (And.intro rfl (And.intro rfl (And.intro rfl (And.intro rfl trivial))))))))
  · refine wk_aload_n C 0 dM_read_296 rfl rfl ?_
    refine gf_M_13 C dM_read_297 ?_
    refine wk_iload_n C 3 dM_read_300 rfl rfl ?_
    obtain ⟨c_301, hf⟩ := chk_some hf
    refine al_48 C c_301 dM_read_301 ?_
    refine wk_bipush C dM_read_302 kbipush_45 ?_
    refine wk_icmp_ne (tgt := 311) C dM_read_304 rfl hf (fun c_304 hf => ?_) (fun c_304 hf => ?_)
    · refine wk_iconst C dM_read_311 kiconst_0 ?_
      exact wk_go (b_M_read_312 hI C hf hq) (And.intro rfl (And.intro rfl (And.intro rfl (And.intro rfl (And.intro rfl (And.intro rfl (And.intro rfl (And.intro rfl trivial))))))))
    · refine wk_iconst C dM_read_307 kiconst_1 ?_
      refine wk_goto (tgt := 312) C dM_read_308 rfl ?_
      exact wk_go (b_M_read_312 hI C hf hq) (And.intro rfl (And.intro rfl (And.intro rfl (And.intro rfl (And.intro rfl (And.intro rfl (And.intro rfl (And.intro rfl trivial))))))))
set_option maxHeartbeats 4000000 in
set_option maxRecDepth 100000 in
theorem b_M_read_249 {X : wk_X} {G : cGt} (hI : wd_inj (vC G)) (C : wk_C X (vC G) cM_read RM 12 2 44) {v2 : Int32} {v3 : Int32} {v4 : Int32} {v5 : Int32} {v6 : Int32} {v7 : Int32} {h : Hp} {q : Int32 × Hp}  (hf : f_M_read_249 v2 v3 v4 v5 v6 v7 h = some q) (hq : wk_Q X (vC G) (some (.int q.1)) q.2 (some .boolean)) : WW X (vC G) h 249 [(0, .ref (cad G 46)), (2, .int v2), (3, .int v3), (4, .int v4), (5, .int v5), (6, .int v6), (7, .int v7)] [] := by
  unfold f_M_read_249 at hf
  refine wk_iload C dM_read_249 rfl ?_
  refine wk_if_ne (tgt := 256) C dM_read_251 rfl hf (fun c_251 hf => ?_) (fun c_251 hf => ?_)
  · refine wk_iconst C dM_read_256 kiconst_0 ?_
    refine wk_istore C dM_read_257 (by decide) ?_
    refine wk_iload_n C 3 dM_read_259 rfl rfl ?_
    refine wk_iload C dM_read_260 rfl ?_
    refine wk_icmp_ge (tgt := 425) C dM_read_262 rfl hf (fun c_262 hf => ?_) (fun c_262 hf => ?_)
    · refine wk_aload_n C 0 dM_read_425 rfl rfl ?_
      refine gf_M_32 C dM_read_426 ?_
      refine wk_iload_n C 2 dM_read_429 rfl rfl ?_
      refine wk_iload C dM_read_430 rfl ?_
      refine wk_if_eq (tgt := 439) C dM_read_432 rfl hf (fun c_432 hf => ?_) (fun c_432 hf => ?_)
      · refine wk_iconst C dM_read_439 kiconst_1 ?_
        exact wk_go (b_M_read_440 hI C hf hq) (And.intro rfl (And.intro rfl (And.intro rfl (And.intro rfl (And.intro rfl (And.intro rfl (And.intro rfl trivial)))))))
      · refine wk_iconst C dM_read_435 kiconst_m1 ?_
        refine wk_goto (tgt := 440) C dM_read_436 rfl ?_
        exact wk_go (b_M_read_440 hI C hf hq) (And.intro rfl (And.intro rfl (And.intro rfl (And.intro rfl (And.intro rfl (And.intro rfl (And.intro rfl trivial)))))))
    · refine wk_aload_n C 0 dM_read_265 rfl rfl ?_
      refine gf_M_13 C dM_read_266 ?_
      refine wk_iload_n C 3 dM_read_269 rfl rfl ?_
      obtain ⟨c_270, hf⟩ := chk_some hf
      refine al_48 C c_270 dM_read_270 ?_
      refine wk_bipush C dM_read_271 kbipush_69 ?_
      refine wk_icmp_eq (tgt := 287) C dM_read_273 rfl hf (fun c_273 hf => ?_) (fun c_273 hf => ?_)
      · exact wk_go (b_M_read_287 hI C hf hq) (And.intro rfl (And.intro rfl (And.intro rfl (And.intro rfl (And.intro rfl (And.intro rfl (And.intro rfl (And.intro rfl trivial))))))))
      · refine wk_aload_n C 0 dM_read_276 rfl rfl ?_
        refine gf_M_13 C dM_read_277 ?_
        refine wk_iload_n C 3 dM_read_280 rfl rfl ?_
        obtain ⟨c_281, hf⟩ := chk_some hf
        refine al_48 C c_281 dM_read_281 ?_
        refine wk_bipush C dM_read_282 kbipush_101 ?_
        refine wk_icmp_ne (tgt := 425) C dM_read_284 rfl hf (fun c_284 hf => ?_) (fun c_284 hf => ?_)
        · refine wk_aload_n C 0 dM_read_425 rfl rfl ?_
          refine gf_M_32 C dM_read_426 ?_
          refine wk_iload_n C 2 dM_read_429 rfl rfl ?_
          refine wk_iload C dM_read_430 rfl ?_
          refine wk_if_eq (tgt := 439) C dM_read_432 rfl hf (fun c_432 hf => ?_) (fun c_432 hf => ?_)
          · refine wk_iconst C dM_read_439 kiconst_1 ?_
            exact wk_go (b_M_read_440 hI C hf hq) (And.intro rfl (And.intro rfl (And.intro rfl (And.intro rfl (And.intro rfl (And.intro rfl (And.intro rfl trivial)))))))
          · refine wk_iconst C dM_read_435 kiconst_m1 ?_
            refine wk_goto (tgt := 440) C dM_read_436 rfl ?_
            exact wk_go (b_M_read_440 hI C hf hq) (And.intro rfl (And.intro rfl (And.intro rfl (And.intro rfl (And.intro rfl (And.intro rfl (And.intro rfl trivial)))))))
        · exact wk_go (b_M_read_287 hI C hf hq) (And.intro rfl (And.intro rfl (And.intro rfl (And.intro rfl (And.intro rfl (And.intro rfl (And.intro rfl (And.intro rfl trivial))))))))
  · refine wk_iconst C dM_read_254 kiconst_0 ?_
    cases hf
    exact wk_zreturn C hq rfl dM_read_255
set_option maxHeartbeats 4000000 in
set_option maxRecDepth 100000 in
theorem b_M_read_186 {X : wk_X} {G : cGt} (hI : wd_inj (vC G)) (C : wk_C X (vC G) cM_read RM 12 2 44) {k152 : Int32 → Int32 → Int32 → Int32 → Int32 → Int32 → Int32 → Hp → Option (Int32 × Hp)} (hk152 : ∀ (v2 : Int32) (v3 : Int32) (v4 : Int32) (v5 : Int32) (v6 : Int32) (v7 : Int32) (v8 : Int32) (h : Hp) (q : Int32 × Hp), k152 v2 v3 v4 v5 v6 v7 v8 h = some q → wk_Q X (vC G) (some (.int q.1)) q.2 (some .boolean) → WW X (vC G) h 152 [(0, .ref (cad G 46)), (2, .int v2), (3, .int v3), (4, .int v4), (5, .int v5), (6, .int v6), (7, .int v7), (8, .int v8)] []) {v2 : Int32} {v3 : Int32} {v4 : Int32} {v5 : Int32} {v6 : Int32} {v7 : Int32} {v8 : Int32} {h : Hp} {q : Int32 × Hp}  (hf : f_M_read_186 k152 v2 v3 v4 v5 v6 v7 v8 h = some q) (hq : wk_Q X (vC G) (some (.int q.1)) q.2 (some .boolean)) : WW X (vC G) h 186 [(0, .ref (cad G 46)), (2, .int v2), (3, .int v3), (4, .int v4), (5, .int v5), (6, .int v6), (7, .int v7), (8, .int v8)] [] := by
  unfold f_M_read_186 at hf
  refine wk_aload_n C 0 dM_read_186 rfl rfl ?_
  refine gf_M_13 C dM_read_187 ?_
  refine wk_iload_n C 3 dM_read_190 rfl rfl ?_
  obtain ⟨c_191, hf⟩ := chk_some hf
  refine al_48 C c_191 dM_read_191 ?_
  refine wk_bipush C dM_read_192 kbipush_46 ?_
  refine wk_icmp_ne (tgt := 203) C dM_read_194 rfl hf (fun c_194 hf => ?_) (fun c_194 hf => ?_)
  · refine wk_aload_n C 0 dM_read_203 rfl rfl ?_
    refine gf_M_23 C dM_read_204 ?_
    refine wk_sipush C dM_read_207 ksipush_2600 ?_
    refine wk_iload_n C 2 dM_read_210 rfl rfl ?_
    refine wk_imul C dM_read_211 ?_
    refine wk_iload C dM_read_212 rfl ?_
    refine wk_iadd C dM_read_214 ?_
    refine wk_aload_n C 0 dM_read_215 rfl rfl ?_
    refine gf_M_13 C dM_read_216 ?_
    refine wk_iload_n C 3 dM_read_219 rfl rfl ?_
    obtain ⟨c_220, hf⟩ := chk_some hf
    refine al_48 C c_220 dM_read_220 ?_
    refine wk_bipush C dM_read_221 kbipush_48 ?_
    refine wk_isub C dM_read_223 ?_
    obtain ⟨c_224, hf⟩ := chk_some hf
    refine as_50 C c_224 dM_read_224 ?_
    refine wk_iinc C dM_read_225 rfl kiconst_1 (by decide) ?_
    refine wk_iload C dM_read_228 rfl ?_
    refine wk_iload C dM_read_230 rfl ?_
    refine wk_if_eq (tgt := 239) C dM_read_232 rfl hf (fun c_232 hf => ?_) (fun c_232 hf => ?_)
    · refine wk_iconst C dM_read_239 kiconst_0 ?_
      refine wk_iadd C dM_read_240 ?_
      refine wk_istore C dM_read_241 (by decide) ?_
      refine wk_iinc C dM_read_243 rfl kiconst_1 (by decide) ?_
      refine wk_goto (tgt := 152) C dM_read_246 rfl ?_
      exact wk_go (hk152 _ _ _ _ _ _ _ _ _ hf hq) (And.intro rfl (And.intro rfl (And.intro rfl (And.intro rfl (And.intro rfl (And.intro rfl (And.intro rfl (And.intro rfl trivial))))))))
    · refine wk_iconst C dM_read_235 kiconst_1 ?_
      refine wk_goto (tgt := 240) C dM_read_236 rfl ?_
      refine wk_iadd C dM_read_240 ?_
      refine wk_istore C dM_read_241 (by decide) ?_
      refine wk_iinc C dM_read_243 rfl kiconst_1 (by decide) ?_
      refine wk_goto (tgt := 152) C dM_read_246 rfl ?_
      exact wk_go (hk152 _ _ _ _ _ _ _ _ _ hf hq) (And.intro rfl (And.intro rfl (And.intro rfl (And.intro rfl (And.intro rfl (And.intro rfl (And.intro rfl (And.intro rfl trivial))))))))
  · refine wk_iconst C dM_read_197 kiconst_1 ?_
    refine wk_istore C dM_read_198 (by decide) ?_
    refine wk_goto (tgt := 243) C dM_read_200 rfl ?_
    refine wk_iinc C dM_read_243 rfl kiconst_1 (by decide) ?_
    refine wk_goto (tgt := 152) C dM_read_246 rfl ?_
    exact wk_go (hk152 _ _ _ _ _ _ _ _ _ hf hq) (And.intro rfl (And.intro rfl (And.intro rfl (And.intro rfl (And.intro rfl (And.intro rfl (And.intro rfl (And.intro rfl trivial))))))))
set_option maxHeartbeats 4000000 in
set_option maxRecDepth 100000 in
theorem b_M_read_152 {X : wk_X} {G : cGt} (hI : wd_inj (vC G)) (C : wk_C X (vC G) cM_read RM 12 2 44) : ∀ (n : Nat) {v2 : Int32} {v3 : Int32} {v4 : Int32} {v5 : Int32} {v6 : Int32} {v7 : Int32} {v8 : Int32} {h : Hp} {q : Int32 × Hp}  (hf : f_M_read_152 n v2 v3 v4 v5 v6 v7 v8 h = some q) (hq : wk_Q X (vC G) (some (.int q.1)) q.2 (some .boolean)), WW X (vC G) h 152 [(0, .ref (cad G 46)), (2, .int v2), (3, .int v3), (4, .int v4), (5, .int v5), (6, .int v6), (7, .int v7), (8, .int v8)] [] := by
  intro n
  induction n with
  | zero =>
    intros
    rename_i hf _
    cases hf
  | succ n ih =>
    intro v2 v3 v4 v5 v6 v7 v8 h q hf hq
    rw [f_M_read_152] at hf
    refine wk_iload_n C 3 dM_read_152 rfl rfl ?_
    refine wk_iload C dM_read_153 rfl ?_
    refine wk_icmp_ge (tgt := 249) C dM_read_155 rfl hf (fun c_155 hf => ?_) (fun c_155 hf => ?_)
    · exact wk_go (b_M_read_249 hI C hf hq) (And.intro rfl (And.intro rfl (And.intro rfl (And.intro rfl (And.intro rfl (And.intro rfl (And.intro rfl trivial)))))))
    · refine wk_aload_n C 0 dM_read_158 rfl rfl ?_
      refine gf_M_13 C dM_read_159 ?_
      refine wk_iload_n C 3 dM_read_162 rfl rfl ?_
      obtain ⟨c_163, hf⟩ := chk_some hf
      refine al_48 C c_163 dM_read_163 ?_
      obtain ⟨r164, h164, e_164, hf⟩ := bd_some hf
      refine wk_callS (As := [.int (h 48 (Int32.toNatClampNeg v3))]) (rest := []) C lw_good cw_M_61 ws_M_isDigit (m_M_isDigit hI e_164) rfl rfl (Nat.le_of_ble_eq_true rfl) (by decide) dM_read_164 ?_
      refine wk_if_ne (tgt := 186) C dM_read_167 rfl hf (fun c_167 hf => ?_) (fun c_167 hf => ?_)
      · exact wk_go (b_M_read_186 hI C (fun _ _ _ _ _ _ _ _ _ hf hq => ih hf hq) hf hq) (And.intro rfl (And.intro rfl (And.intro rfl (And.intro rfl (And.intro rfl (And.intro rfl (And.intro rfl (And.intro rfl trivial))))))))
      · refine wk_aload_n C 0 dM_read_170 rfl rfl ?_
        refine gf_M_13 C dM_read_171 ?_
        refine wk_iload_n C 3 dM_read_174 rfl rfl ?_
        obtain ⟨c_175, hf⟩ := chk_some hf
        refine al_48 C c_175 dM_read_175 ?_
        refine wk_bipush C dM_read_176 kbipush_46 ?_
        refine wk_icmp_ne (tgt := 249) C dM_read_178 rfl hf (fun c_178 hf => ?_) (fun c_178 hf => ?_)
        · exact wk_go (b_M_read_249 hI C hf hq) (And.intro rfl (And.intro rfl (And.intro rfl (And.intro rfl (And.intro rfl (And.intro rfl (And.intro rfl trivial)))))))
        · refine wk_iload C dM_read_181 rfl ?_
          refine wk_if_ne (tgt := 249) C dM_read_183 rfl hf (fun c_183 hf => ?_) (fun c_183 hf => ?_)
          · exact wk_go (b_M_read_249 hI C hf hq) (And.intro rfl (And.intro rfl (And.intro rfl (And.intro rfl (And.intro rfl (And.intro rfl (And.intro rfl trivial)))))))
          · exact wk_go (b_M_read_186 hI C (fun _ _ _ _ _ _ _ _ _ hf hq => ih hf hq) hf hq) (And.intro rfl (And.intro rfl (And.intro rfl (And.intro rfl (And.intro rfl (And.intro rfl (And.intro rfl (And.intro rfl trivial))))))))
set_option maxHeartbeats 4000000 in
set_option maxRecDepth 100000 in
theorem b_M_read_120 {X : wk_X} {G : cGt} (hI : wd_inj (vC G)) (C : wk_C X (vC G) cM_read RM 12 2 44) : ∀ (n : Nat) {v2 : Int32} {v3 : Int32} {v4 : Int32} {v5 : Int32} {h : Hp} {q : Int32 × Hp}  (hf : f_M_read_120 n v2 v3 v4 v5 h = some q) (hq : wk_Q X (vC G) (some (.int q.1)) q.2 (some .boolean)), WW X (vC G) h 120 [(0, .ref (cad G 46)), (2, .int v2), (3, .int v3), (4, .int v4), (5, .int v5)] [] := by
  intro n
  induction n with
  | zero =>
    intros
    rename_i hf _
    cases hf
  | succ n ih =>
    intro v2 v3 v4 v5 h q hf hq
    rw [f_M_read_120] at hf
    refine wk_iload_n C 3 dM_read_120 rfl rfl ?_
    refine wk_iload C dM_read_121 rfl ?_
    refine wk_icmp_ge (tgt := 143) C dM_read_123 rfl hf (fun c_123 hf => ?_) (fun c_123 hf => ?_)
    · refine wk_iconst C dM_read_143 kiconst_0 ?_
      refine wk_istore C dM_read_144 (by decide) ?_
      refine wk_iconst C dM_read_146 kiconst_0 ?_
      refine wk_istore C dM_read_147 (by decide) ?_
      refine wk_iconst C dM_read_149 kiconst_0 ?_
      refine wk_istore C dM_read_150 (by decide) ?_
      exact wk_go (b_M_read_152 hI C fuel hf hq) (And.intro rfl (And.intro rfl (And.intro rfl (And.intro rfl (And.intro rfl (And.intro rfl (And.intro rfl (And.intro rfl trivial))))))))
    · refine wk_aload_n C 0 dM_read_126 rfl rfl ?_
      refine gf_M_13 C dM_read_127 ?_
      refine wk_iload_n C 3 dM_read_130 rfl rfl ?_
      obtain ⟨c_131, hf⟩ := chk_some hf
      refine al_48 C c_131 dM_read_131 ?_
      refine wk_bipush C dM_read_132 kbipush_32 ?_
      refine wk_icmp_ne (tgt := 143) C dM_read_134 rfl hf (fun c_134 hf => ?_) (fun c_134 hf => ?_)
      · refine wk_iconst C dM_read_143 kiconst_0 ?_
        refine wk_istore C dM_read_144 (by decide) ?_
        refine wk_iconst C dM_read_146 kiconst_0 ?_
        refine wk_istore C dM_read_147 (by decide) ?_
        refine wk_iconst C dM_read_149 kiconst_0 ?_
        refine wk_istore C dM_read_150 (by decide) ?_
        exact wk_go (b_M_read_152 hI C fuel hf hq) (And.intro rfl (And.intro rfl (And.intro rfl (And.intro rfl (And.intro rfl (And.intro rfl (And.intro rfl (And.intro rfl trivial))))))))
      · refine wk_iinc C dM_read_137 rfl kiconst_1 (by decide) ?_
        refine wk_goto (tgt := 120) C dM_read_140 rfl ?_
        exact wk_go (ih hf hq) (And.intro rfl (And.intro rfl (And.intro rfl (And.intro rfl (And.intro rfl trivial)))))
set_option maxHeartbeats 4000000 in
set_option maxRecDepth 100000 in
theorem b_M_read_87 {X : wk_X} {G : cGt} (hI : wd_inj (vC G)) (C : wk_C X (vC G) cM_read RM 12 2 44) {v2 : Int32} {v3 : Int32} {v4 : Int32} {s0 : Int32} {h : Hp} {q : Int32 × Hp}  (hf : f_M_read_87 v2 v3 v4 s0 h = some q) (hq : wk_Q X (vC G) (some (.int q.1)) q.2 (some .boolean)) : WW X (vC G) h 87 [(0, .ref (cad G 46)), (2, .int v2), (3, .int v3), (4, .int v4)] [.int s0] := by
  unfold f_M_read_87 at hf
  refine wk_istore C dM_read_87 (by decide) ?_
  refine wk_iload_n C 3 dM_read_89 rfl rfl ?_
  refine wk_iload C dM_read_90 rfl ?_
  refine wk_icmp_ge (tgt := 143) C dM_read_92 rfl hf (fun c_92 hf => ?_) (fun c_92 hf => ?_)
  · refine wk_iconst C dM_read_143 kiconst_0 ?_
    refine wk_istore C dM_read_144 (by decide) ?_
    refine wk_iconst C dM_read_146 kiconst_0 ?_
    refine wk_istore C dM_read_147 (by decide) ?_
    refine wk_iconst C dM_read_149 kiconst_0 ?_
    refine wk_istore C dM_read_150 (by decide) ?_
    exact wk_go (b_M_read_152 hI C fuel hf hq) (And.intro rfl (And.intro rfl (And.intro rfl (And.intro rfl (And.intro rfl (And.intro rfl (And.intro rfl (And.intro rfl trivial))))))))
  · refine wk_aload_n C 0 dM_read_95 rfl rfl ?_
    refine gf_M_13 C dM_read_96 ?_
    refine wk_iload_n C 3 dM_read_99 rfl rfl ?_
    obtain ⟨c_100, hf⟩ := chk_some hf
    refine al_48 C c_100 dM_read_100 ?_
    refine wk_bipush C dM_read_101 kbipush_43 ?_
    refine wk_icmp_eq (tgt := 117) C dM_read_103 rfl hf (fun c_103 hf => ?_) (fun c_103 hf => ?_)
    · refine wk_iinc C dM_read_117 rfl kiconst_1 (by decide) ?_
      exact wk_go (b_M_read_120 hI C fuel hf hq) (And.intro rfl (And.intro rfl (And.intro rfl (And.intro rfl (And.intro rfl trivial)))))
    · refine wk_aload_n C 0 dM_read_106 rfl rfl ?_
      refine gf_M_13 C dM_read_107 ?_
      refine wk_iload_n C 3 dM_read_110 rfl rfl ?_
      obtain ⟨c_111, hf⟩ := chk_some hf
      refine al_48 C c_111 dM_read_111 ?_
      refine wk_bipush C dM_read_112 kbipush_45 ?_
      refine wk_icmp_ne (tgt := 143) C dM_read_114 rfl hf (fun c_114 hf => ?_) (fun c_114 hf => ?_)
      · refine wk_iconst C dM_read_143 kiconst_0 ?_
        refine wk_istore C dM_read_144 (by decide) ?_
        refine wk_iconst C dM_read_146 kiconst_0 ?_
        refine wk_istore C dM_read_147 (by decide) ?_
        refine wk_iconst C dM_read_149 kiconst_0 ?_
        refine wk_istore C dM_read_150 (by decide) ?_
        exact wk_go (b_M_read_152 hI C fuel hf hq) (And.intro rfl (And.intro rfl (And.intro rfl (And.intro rfl (And.intro rfl (And.intro rfl (And.intro rfl (And.intro rfl trivial))))))))
      · refine wk_iinc C dM_read_117 rfl kiconst_1 (by decide) ?_
        exact wk_go (b_M_read_120 hI C fuel hf hq) (And.intro rfl (And.intro rfl (And.intro rfl (And.intro rfl (And.intro rfl trivial)))))
set_option maxHeartbeats 4000000 in
set_option maxRecDepth 100000 in
theorem b_M_read_65 {X : wk_X} {G : cGt} (hI : wd_inj (vC G)) (C : wk_C X (vC G) cM_read RM 12 2 44) {v2 : Int32} {v3 : Int32} {v4 : Int32} {h : Hp} {q : Int32 × Hp}  (hf : f_M_read_65 v2 v3 v4 h = some q) (hq : wk_Q X (vC G) (some (.int q.1)) q.2 (some .boolean)) : WW X (vC G) h 65 [(0, .ref (cad G 46)), (2, .int v2), (3, .int v3), (4, .int v4)] [] := by
  unfold f_M_read_65 at hf
  refine wk_iload_n C 3 dM_read_65 rfl rfl ?_
  refine wk_iload C dM_read_66 rfl ?_
  refine wk_icmp_ge (tgt := 86) C dM_read_68 rfl hf (fun c_68 hf => ?_) (fun c_68 hf => ?_)
  · refine wk_iconst C dM_read_86 kiconst_0 ?_
    exact wk_go (b_M_read_87 hI C hf hq) (And.intro rfl (And.intro rfl (And.intro rfl (And.intro rfl trivial))))
  · refine wk_aload_n C 0 dM_read_71 rfl rfl ?_
    refine gf_M_13 C dM_read_72 ?_
    refine wk_iload_n C 3 dM_read_75 rfl rfl ?_
    obtain ⟨c_76, hf⟩ := chk_some hf
    refine al_48 C c_76 dM_read_76 ?_
    refine wk_bipush C dM_read_77 kbipush_45 ?_
    refine wk_icmp_ne (tgt := 86) C dM_read_79 rfl hf (fun c_79 hf => ?_) (fun c_79 hf => ?_)
    · refine wk_iconst C dM_read_86 kiconst_0 ?_
      exact wk_go (b_M_read_87 hI C hf hq) (And.intro rfl (And.intro rfl (And.intro rfl (And.intro rfl trivial))))
    · refine wk_iconst C dM_read_82 kiconst_1 ?_
      refine wk_goto (tgt := 87) C dM_read_83 rfl ?_
      exact wk_go (b_M_read_87 hI C hf hq) (And.intro rfl (And.intro rfl (And.intro rfl (And.intro rfl trivial))))
set_option maxHeartbeats 4000000 in
set_option maxRecDepth 100000 in
theorem b_M_read_39 {X : wk_X} {G : cGt} (hI : wd_inj (vC G)) (C : wk_C X (vC G) cM_read RM 12 2 44) : ∀ (n : Nat) {v2 : Int32} {v3 : Int32} {v4 : Int32} {h : Hp} {q : Int32 × Hp}  (hf : f_M_read_39 n v2 v3 v4 h = some q) (hq : wk_Q X (vC G) (some (.int q.1)) q.2 (some .boolean)), WW X (vC G) h 39 [(0, .ref (cad G 46)), (2, .int v2), (3, .int v3), (4, .int v4)] [] := by
  intro n
  induction n with
  | zero =>
    intros
    rename_i hf _
    cases hf
  | succ n ih =>
    intro v2 v3 v4 h q hf hq
    rw [f_M_read_39] at hf
    refine wk_iload C dM_read_39 rfl ?_
    refine wk_iload_n C 3 dM_read_41 rfl rfl ?_
    refine wk_icmp_le (tgt := 65) C dM_read_42 rfl hf (fun c_42 hf => ?_) (fun c_42 hf => ?_)
    · exact wk_go (b_M_read_65 hI C hf hq) (And.intro rfl (And.intro rfl (And.intro rfl (And.intro rfl trivial))))
    · refine wk_aload_n C 0 dM_read_45 rfl rfl ?_
      refine gf_M_13 C dM_read_46 ?_
      refine wk_iload C dM_read_49 rfl ?_
      refine wk_iconst C dM_read_51 kiconst_1 ?_
      refine wk_isub C dM_read_52 ?_
      obtain ⟨c_53, hf⟩ := chk_some hf
      refine al_48 C c_53 dM_read_53 ?_
      refine wk_bipush C dM_read_54 kbipush_32 ?_
      refine wk_icmp_ne (tgt := 65) C dM_read_56 rfl hf (fun c_56 hf => ?_) (fun c_56 hf => ?_)
      · exact wk_go (b_M_read_65 hI C hf hq) (And.intro rfl (And.intro rfl (And.intro rfl (And.intro rfl trivial))))
      · refine wk_iinc C dM_read_59 rfl kiconst_m1 (by decide) ?_
        refine wk_goto (tgt := 39) C dM_read_62 rfl ?_
        exact wk_go (ih hf hq) (And.intro rfl (And.intro rfl (And.intro rfl (And.intro rfl trivial))))
set_option maxHeartbeats 4000000 in
set_option maxRecDepth 100000 in
theorem b_M_read_16 {X : wk_X} {G : cGt} (hI : wd_inj (vC G)) (C : wk_C X (vC G) cM_read RM 12 2 44) : ∀ (n : Nat) {v2 : Int32} {v3 : Int32} {v4 : Int32} {h : Hp} {q : Int32 × Hp}  (hf : f_M_read_16 n v2 v3 v4 h = some q) (hq : wk_Q X (vC G) (some (.int q.1)) q.2 (some .boolean)), WW X (vC G) h 16 [(0, .ref (cad G 46)), (2, .int v2), (3, .int v3), (4, .int v4)] [] := by
  intro n
  induction n with
  | zero =>
    intros
    rename_i hf _
    cases hf
  | succ n ih =>
    intro v2 v3 v4 h q hf hq
    rw [f_M_read_16] at hf
    refine wk_iload_n C 3 dM_read_16 rfl rfl ?_
    refine wk_iload C dM_read_17 rfl ?_
    refine wk_icmp_ge (tgt := 39) C dM_read_19 rfl hf (fun c_19 hf => ?_) (fun c_19 hf => ?_)
    · exact wk_go (b_M_read_39 hI C fuel hf hq) (And.intro rfl (And.intro rfl (And.intro rfl (And.intro rfl trivial))))
    · refine wk_aload_n C 0 dM_read_22 rfl rfl ?_
      refine gf_M_13 C dM_read_23 ?_
      refine wk_iload_n C 3 dM_read_26 rfl rfl ?_
      obtain ⟨c_27, hf⟩ := chk_some hf
      refine al_48 C c_27 dM_read_27 ?_
      refine wk_bipush C dM_read_28 kbipush_32 ?_
      refine wk_icmp_ne (tgt := 39) C dM_read_30 rfl hf (fun c_30 hf => ?_) (fun c_30 hf => ?_)
      · exact wk_go (b_M_read_39 hI C fuel hf hq) (And.intro rfl (And.intro rfl (And.intro rfl (And.intro rfl trivial))))
      · refine wk_iinc C dM_read_33 rfl kiconst_1 (by decide) ?_
        refine wk_goto (tgt := 16) C dM_read_36 rfl ?_
        exact wk_go (ih hf hq) (And.intro rfl (And.intro rfl (And.intro rfl (And.intro rfl trivial))))
set_option maxHeartbeats 4000000 in
set_option maxRecDepth 100000 in
theorem b_M_read {X : wk_X} {G : cGt} (hI : wd_inj (vC G)) (C : wk_C X (vC G) cM_read RM 12 2 44) {v1 : Int32} {v2 : Int32} {h : Hp} {q : Int32 × Hp}  (hf : f_M_read v1 v2 h = some q) (hq : wk_Q X (vC G) (some (.int q.1)) q.2 (some .boolean)) : WW X (vC G) h 0 [(0, .ref (cad G 46)), (1, .int v1), (2, .int v2)] [] := by
  unfold f_M_read at hf
  refine wk_sipush C dM_read_0 ksipush_200 ?_
  refine wk_iload_n C 1 dM_read_3 rfl rfl ?_
  refine wk_imul C dM_read_4 ?_
  refine wk_istore_n C 3 dM_read_5 rfl (by decide) ?_
  refine wk_iload_n C 3 dM_read_6 rfl rfl ?_
  refine wk_aload_n C 0 dM_read_7 rfl rfl ?_
  refine gf_M_16 C dM_read_8 ?_
  refine wk_iload_n C 1 dM_read_11 rfl rfl ?_
  obtain ⟨c_12, hf⟩ := chk_some hf
  refine al_49 C c_12 dM_read_12 ?_
  refine wk_iadd C dM_read_13 ?_
  refine wk_istore C dM_read_14 (by decide) ?_
  exact wk_go (b_M_read_16 hI C fuel hf hq) (And.intro rfl (And.intro rfl (And.intro rfl (And.intro rfl trivial))))
theorem m_M_read {l : Launch} {G : cGt} (hI : wd_inj (vC G)) {v1 : Int32} {v2 : Int32} {h h' : Hp} {r : Int32}  (hf : f_M_read v1 v2 h = some (r, h')) : wk_M l (vC G) yM_read cM_read 12 (some .boolean) 2 44 [.ref (cad G 46), .int v1, .int v2] h (some (.int r)) h' :=
  wk_met hI (by decide +kernel) rfl (Nat.le_of_ble_eq_true rfl) (wk_cat1 rfl) (fun X hX C hq => by subst hX; exact b_M_read hI C  hf hq)
set_option maxHeartbeats 4000000 in
set_option maxRecDepth 100000 in
theorem b_M_high {X : wk_X} {G : cGt} (hI : wd_inj (vC G)) (C : wk_C X (vC G) cM_high RM 2 0 0) {v1 : Int32} {h : Hp} {q : Int32 × Hp}  (hf : f_M_high v1 h = some q) (hq : wk_Q X (vC G) (some (.int q.1)) q.2 (some .int)) : WW X (vC G) h 0 [(0, .ref (cad G 46)), (1, .int v1)] [] := by
  unfold f_M_high at hf
  refine wk_aload_n C 0 dM_high_0 rfl rfl ?_
  refine gf_M_26 C dM_high_1 ?_
  refine wk_iload_n C 1 dM_high_4 rfl rfl ?_
  obtain ⟨c_5, hf⟩ := chk_some hf
  refine al_51 C c_5 dM_high_5 ?_
  refine wk_iconst C dM_high_6 kiconst_1 ?_
  refine wk_isub C dM_high_7 ?_
  refine wk_aload_n C 0 dM_high_8 rfl rfl ?_
  refine gf_M_29 C dM_high_9 ?_
  refine wk_iload_n C 1 dM_high_12 rfl rfl ?_
  obtain ⟨c_13, hf⟩ := chk_some hf
  refine al_52 C c_13 dM_high_13 ?_
  refine wk_iadd C dM_high_14 ?_
  cases hf
  exact wk_ireturn C hq dM_high_15
theorem m_M_high {l : Launch} {G : cGt} (hI : wd_inj (vC G)) {v1 : Int32} {h h' : Hp} {r : Int32}  (hf : f_M_high v1 h = some (r, h')) : wk_M l (vC G) yM_high cM_high 2 (some .int) 0 0 [.ref (cad G 46), .int v1] h (some (.int r)) h' :=
  wk_met hI (by decide +kernel) rfl (Nat.le_of_ble_eq_true rfl) (wk_cat1 rfl) (fun X hX C hq => by subst hX; exact b_M_high hI C  hf hq)
set_option maxHeartbeats 4000000 in
set_option maxRecDepth 100000 in
theorem b_M_digit {X : wk_X} {G : cGt} (hI : wd_inj (vC G)) (C : wk_C X (vC G) cM_digit RM 4 1 21) {v1 : Int32} {v2 : Int32} {h : Hp} {q : Int32 × Hp}  (hf : f_M_digit v1 v2 h = some q) (hq : wk_Q X (vC G) (some (.int q.1)) q.2 (some .int)) : WW X (vC G) h 0 [(0, .ref (cad G 46)), (1, .int v1), (2, .int v2)] [] := by
  unfold f_M_digit at hf
  refine wk_aload_n C 0 dM_digit_0 rfl rfl ?_
  refine wk_iload_n C 1 dM_digit_1 rfl rfl ?_
  obtain ⟨r2, h2, e_2, hf⟩ := bd_some hf
  refine wk_callV (As := [.int v1]) (rest := []) C lw_good cw_M_67 wi_M_high (m_M_high hI e_2) lz_46 (he_46 G (h 46)) rfl rfl rfl (Nat.le_of_ble_eq_true rfl) (by decide) dM_digit_2 ?_
  refine wk_iload_n C 2 dM_digit_5 rfl rfl ?_
  refine wk_isub C dM_digit_6 ?_
  refine wk_istore_n C 3 dM_digit_7 rfl (by decide) ?_
  refine wk_iload_n C 3 dM_digit_8 rfl rfl ?_
  refine wk_if_lt (tgt := 37) C dM_digit_9 rfl hf (fun c_9 hf => ?_) (fun c_9 hf => ?_)
  · refine wk_iconst C dM_digit_37 kiconst_0 ?_
    cases hf
    exact wk_ireturn C hq dM_digit_38
  · refine wk_iload_n C 3 dM_digit_12 rfl rfl ?_
    refine wk_aload_n C 0 dM_digit_13 rfl rfl ?_
    refine gf_M_26 C dM_digit_14 ?_
    refine wk_iload_n C 1 dM_digit_17 rfl rfl ?_
    obtain ⟨c_18, hf⟩ := chk_some hf
    refine al_51 C c_18 dM_digit_18 ?_
    refine wk_icmp_ge (tgt := 37) C dM_digit_19 rfl hf (fun c_19 hf => ?_) (fun c_19 hf => ?_)
    · refine wk_iconst C dM_digit_37 kiconst_0 ?_
      cases hf
      exact wk_ireturn C hq dM_digit_38
    · refine wk_aload_n C 0 dM_digit_22 rfl rfl ?_
      refine gf_M_23 C dM_digit_23 ?_
      refine wk_sipush C dM_digit_26 ksipush_2600 ?_
      refine wk_iload_n C 1 dM_digit_29 rfl rfl ?_
      refine wk_imul C dM_digit_30 ?_
      refine wk_iload_n C 3 dM_digit_31 rfl rfl ?_
      refine wk_iadd C dM_digit_32 ?_
      obtain ⟨c_33, hf⟩ := chk_some hf
      refine al_50 C c_33 dM_digit_33 ?_
      refine wk_goto (tgt := 38) C dM_digit_34 rfl ?_
      cases hf
      exact wk_ireturn C hq dM_digit_38
theorem m_M_digit {l : Launch} {G : cGt} (hI : wd_inj (vC G)) {v1 : Int32} {v2 : Int32} {h h' : Hp} {r : Int32}  (hf : f_M_digit v1 v2 h = some (r, h')) : wk_M l (vC G) yM_digit cM_digit 4 (some .int) 1 21 [.ref (cad G 46), .int v1, .int v2] h (some (.int r)) h' :=
  wk_met hI (by decide +kernel) rfl (Nat.le_of_ble_eq_true rfl) (wk_cat1 rfl) (fun X hX C hq => by subst hX; exact b_M_digit hI C  hf hq)
set_option maxHeartbeats 4000000 in
set_option maxRecDepth 100000 in
theorem b_M_round_137 {X : wk_X} {G : cGt} (hI : wd_inj (vC G)) (C : wk_C X (vC G) cM_round RM 5 0 0) {v1 : Int32} {v3 : Int32} {h : Hp} {q : Unit × Hp}  (hf : f_M_round_137 v1 v3 h = some q) (hq : wk_Q X (vC G) none q.2 none) : WW X (vC G) h 137 [(0, .ref (cad G 46)), (1, .int v1), (3, .int v3)] [] := by
  unfold f_M_round_137 at hf
  refine wk_iload_n C 3 dM_round_137 rfl rfl ?_
  refine wk_if_ne (tgt := 142) C dM_round_138 rfl hf (fun c_138 hf => ?_) (fun c_138 hf => ?_)
  · refine wk_aload_n C 0 dM_round_142 rfl rfl ?_
    refine gf_M_23 C dM_round_143 ?_
    refine wk_sipush C dM_round_146 ksipush_2600 ?_
    refine wk_iload_n C 1 dM_round_149 rfl rfl ?_
    refine wk_imul C dM_round_150 ?_
    refine wk_iconst C dM_round_151 kiconst_1 ?_
    obtain ⟨c_152, hf⟩ := chk_some hf
    refine as_50 C c_152 dM_round_152 ?_
    refine wk_aload_n C 0 dM_round_153 rfl rfl ?_
    refine gf_M_29 C dM_round_154 ?_
    refine wk_iload_n C 1 dM_round_157 rfl rfl ?_
    refine wk_dup2 C dM_round_158 rfl rfl ?_
    obtain ⟨c_159, hf⟩ := chk_some hf
    refine al_52 C c_159 dM_round_159 ?_
    refine wk_iconst C dM_round_160 kiconst_1 ?_
    refine wk_iadd C dM_round_161 ?_
    obtain ⟨c_162, hf⟩ := chk_some hf
    refine as_52 C c_162 dM_round_162 ?_
    cases hf
    exact wk_return C hq dM_round_163
  · cases hf
    exact wk_return C hq dM_round_141
set_option maxHeartbeats 4000000 in
set_option maxRecDepth 100000 in
theorem b_M_round_94 {X : wk_X} {G : cGt} (hI : wd_inj (vC G)) (C : wk_C X (vC G) cM_round RM 5 0 0) {k62 : Int32 → Int32 → Int32 → Hp → Option (Unit × Hp)} (hk62 : ∀ (v1 : Int32) (v3 : Int32) (v4 : Int32) (h : Hp) (q : Unit × Hp), k62 v1 v3 v4 h = some q → wk_Q X (vC G) none q.2 none → WW X (vC G) h 62 [(0, .ref (cad G 46)), (1, .int v1), (3, .int v3), (4, .int v4)] []) {v1 : Int32} {v4 : Int32} {s0 : Int32} {h : Hp} {q : Unit × Hp}  (hf : f_M_round_94 k62 v1 v4 s0 h = some q) (hq : wk_Q X (vC G) none q.2 none) : WW X (vC G) h 94 [(0, .ref (cad G 46)), (1, .int v1), (4, .int v4)] [.int s0] := by
  unfold f_M_round_94 at hf
  refine wk_istore_n C 3 dM_round_94 rfl (by decide) ?_
  refine wk_aload_n C 0 dM_round_95 rfl rfl ?_
  refine gf_M_23 C dM_round_96 ?_
  refine wk_sipush C dM_round_99 ksipush_2600 ?_
  refine wk_iload_n C 1 dM_round_102 rfl rfl ?_
  refine wk_imul C dM_round_103 ?_
  refine wk_iload C dM_round_104 rfl ?_
  refine wk_iadd C dM_round_106 ?_
  refine wk_iload_n C 3 dM_round_107 rfl rfl ?_
  refine wk_if_eq (tgt := 115) C dM_round_108 rfl hf (fun c_108 hf => ?_) (fun c_108 hf => ?_)
  · refine wk_aload_n C 0 dM_round_115 rfl rfl ?_
    refine gf_M_23 C dM_round_116 ?_
    refine wk_sipush C dM_round_119 ksipush_2600 ?_
    refine wk_iload_n C 1 dM_round_122 rfl rfl ?_
    refine wk_imul C dM_round_123 ?_
    refine wk_iload C dM_round_124 rfl ?_
    refine wk_iadd C dM_round_126 ?_
    obtain ⟨c_127, hf⟩ := chk_some hf
    refine al_50 C c_127 dM_round_127 ?_
    refine wk_iconst C dM_round_128 kiconst_1 ?_
    refine wk_iadd C dM_round_129 ?_
    obtain ⟨c_130, hf⟩ := chk_some hf
    refine as_50 C c_130 dM_round_130 ?_
    refine wk_iinc C dM_round_131 rfl kiconst_m1 (by decide) ?_
    refine wk_goto (tgt := 62) C dM_round_134 rfl ?_
    exact wk_go (hk62 _ _ _ _ _ hf hq) (And.intro rfl (And.intro rfl (And.intro rfl (And.intro rfl trivial))))
  · refine wk_iconst C dM_round_111 kiconst_0 ?_
    refine wk_goto (tgt := 130) C dM_round_112 rfl ?_
    obtain ⟨c_130, hf⟩ := chk_some hf
    refine as_50 C c_130 dM_round_130 ?_
    refine wk_iinc C dM_round_131 rfl kiconst_m1 (by decide) ?_
    refine wk_goto (tgt := 62) C dM_round_134 rfl ?_
    exact wk_go (hk62 _ _ _ _ _ hf hq) (And.intro rfl (And.intro rfl (And.intro rfl (And.intro rfl trivial))))
set_option maxHeartbeats 4000000 in
set_option maxRecDepth 100000 in
theorem b_M_round_62 {X : wk_X} {G : cGt} (hI : wd_inj (vC G)) (C : wk_C X (vC G) cM_round RM 5 0 0) : ∀ (n : Nat) {v1 : Int32} {v3 : Int32} {v4 : Int32} {h : Hp} {q : Unit × Hp}  (hf : f_M_round_62 n v1 v3 v4 h = some q) (hq : wk_Q X (vC G) none q.2 none), WW X (vC G) h 62 [(0, .ref (cad G 46)), (1, .int v1), (3, .int v3), (4, .int v4)] [] := by
  intro n
  induction n with
  | zero =>
    intros
    rename_i hf _
    cases hf
  | succ n ih =>
    intro v1 v3 v4 h q hf hq
    rw [f_M_round_62] at hf
    refine wk_iload C dM_round_62 rfl ?_
    refine wk_if_lt (tgt := 137) C dM_round_64 rfl hf (fun c_64 hf => ?_) (fun c_64 hf => ?_)
    · exact wk_go (b_M_round_137 hI C hf hq) (And.intro rfl (And.intro rfl (And.intro rfl trivial)))
    · refine wk_iload_n C 3 dM_round_67 rfl rfl ?_
      refine wk_if_eq (tgt := 137) C dM_round_68 rfl hf (fun c_68 hf => ?_) (fun c_68 hf => ?_)
      · exact wk_go (b_M_round_137 hI C hf hq) (And.intro rfl (And.intro rfl (And.intro rfl trivial)))
      · refine wk_aload_n C 0 dM_round_71 rfl rfl ?_
        refine gf_M_23 C dM_round_72 ?_
        refine wk_sipush C dM_round_75 ksipush_2600 ?_
        refine wk_iload_n C 1 dM_round_78 rfl rfl ?_
        refine wk_imul C dM_round_79 ?_
        refine wk_iload C dM_round_80 rfl ?_
        refine wk_iadd C dM_round_82 ?_
        obtain ⟨c_83, hf⟩ := chk_some hf
        refine al_50 C c_83 dM_round_83 ?_
        refine wk_bipush C dM_round_84 kbipush_9 ?_
        refine wk_icmp_ne (tgt := 93) C dM_round_86 rfl hf (fun c_86 hf => ?_) (fun c_86 hf => ?_)
        · refine wk_iconst C dM_round_93 kiconst_0 ?_
          exact wk_go (b_M_round_94 hI C (fun _ _ _ _ _ hf hq => ih hf hq) hf hq) (And.intro rfl (And.intro rfl (And.intro rfl trivial)))
        · refine wk_iconst C dM_round_89 kiconst_1 ?_
          refine wk_goto (tgt := 94) C dM_round_90 rfl ?_
          exact wk_go (b_M_round_94 hI C (fun _ _ _ _ _ hf hq => ih hf hq) hf hq) (And.intro rfl (And.intro rfl (And.intro rfl trivial)))
set_option maxHeartbeats 4000000 in
set_option maxRecDepth 100000 in
theorem b_M_round_32 {X : wk_X} {G : cGt} (hI : wd_inj (vC G)) (C : wk_C X (vC G) cM_round RM 5 0 0) {v1 : Int32} {v2 : Int32} {s0 : Int32} {h : Hp} {q : Unit × Hp}  (hf : f_M_round_32 v1 v2 s0 h = some q) (hq : wk_Q X (vC G) none q.2 none) : WW X (vC G) h 32 [(0, .ref (cad G 46)), (1, .int v1), (2, .int v2)] [.int s0] := by
  unfold f_M_round_32 at hf
  refine wk_istore_n C 3 dM_round_32 rfl (by decide) ?_
  refine wk_aload_n C 0 dM_round_33 rfl rfl ?_
  refine gf_M_29 C dM_round_34 ?_
  refine wk_iload_n C 1 dM_round_37 rfl rfl ?_
  refine wk_dup2 C dM_round_38 rfl rfl ?_
  obtain ⟨c_39, hf⟩ := chk_some hf
  refine al_52 C c_39 dM_round_39 ?_
  refine wk_aload_n C 0 dM_round_40 rfl rfl ?_
  refine gf_M_26 C dM_round_41 ?_
  refine wk_iload_n C 1 dM_round_44 rfl rfl ?_
  obtain ⟨c_45, hf⟩ := chk_some hf
  refine al_51 C c_45 dM_round_45 ?_
  refine wk_iload_n C 2 dM_round_46 rfl rfl ?_
  refine wk_isub C dM_round_47 ?_
  refine wk_iadd C dM_round_48 ?_
  obtain ⟨c_49, hf⟩ := chk_some hf
  refine as_52 C c_49 dM_round_49 ?_
  refine wk_aload_n C 0 dM_round_50 rfl rfl ?_
  refine gf_M_26 C dM_round_51 ?_
  refine wk_iload_n C 1 dM_round_54 rfl rfl ?_
  refine wk_iload_n C 2 dM_round_55 rfl rfl ?_
  obtain ⟨c_56, hf⟩ := chk_some hf
  refine as_51 C c_56 dM_round_56 ?_
  refine wk_iload_n C 2 dM_round_57 rfl rfl ?_
  refine wk_iconst C dM_round_58 kiconst_1 ?_
  refine wk_isub C dM_round_59 ?_
  refine wk_istore C dM_round_60 (by decide) ?_
  exact wk_go (b_M_round_62 hI C fuel hf hq) (And.intro rfl (And.intro rfl (And.intro rfl (And.intro rfl trivial))))
set_option maxHeartbeats 4000000 in
set_option maxRecDepth 100000 in
theorem b_M_round {X : wk_X} {G : cGt} (hI : wd_inj (vC G)) (C : wk_C X (vC G) cM_round RM 5 0 0) {v1 : Int32} {v2 : Int32} {h : Hp} {q : Unit × Hp}  (hf : f_M_round v1 v2 h = some q) (hq : wk_Q X (vC G) none q.2 none) : WW X (vC G) h 0 [(0, .ref (cad G 46)), (1, .int v1), (2, .int v2)] [] := by
  unfold f_M_round at hf
  refine wk_aload_n C 0 dM_round_0 rfl rfl ?_
  refine gf_M_26 C dM_round_1 ?_
  refine wk_iload_n C 1 dM_round_4 rfl rfl ?_
  obtain ⟨c_5, hf⟩ := chk_some hf
  refine al_51 C c_5 dM_round_5 ?_
  refine wk_iload_n C 2 dM_round_6 rfl rfl ?_
  refine wk_icmp_gt (tgt := 11) C dM_round_7 rfl hf (fun c_7 hf => ?_) (fun c_7 hf => ?_)
  · refine wk_aload_n C 0 dM_round_11 rfl rfl ?_
    refine gf_M_23 C dM_round_12 ?_
    refine wk_sipush C dM_round_15 ksipush_2600 ?_
    refine wk_iload_n C 1 dM_round_18 rfl rfl ?_
    refine wk_imul C dM_round_19 ?_
    refine wk_iload_n C 2 dM_round_20 rfl rfl ?_
    refine wk_iadd C dM_round_21 ?_
    obtain ⟨c_22, hf⟩ := chk_some hf
    refine al_50 C c_22 dM_round_22 ?_
    refine wk_iconst C dM_round_23 kiconst_5 ?_
    refine wk_icmp_lt (tgt := 31) C dM_round_24 rfl hf (fun c_24 hf => ?_) (fun c_24 hf => ?_)
    · refine wk_iconst C dM_round_31 kiconst_0 ?_
      exact wk_go (b_M_round_32 hI C hf hq) (And.intro rfl (And.intro rfl (And.intro rfl trivial)))
    · refine wk_iconst C dM_round_27 kiconst_1 ?_
      refine wk_goto (tgt := 32) C dM_round_28 rfl ?_
      exact wk_go (b_M_round_32 hI C hf hq) (And.intro rfl (And.intro rfl (And.intro rfl trivial)))
  · cases hf
    exact wk_return C hq dM_round_10
theorem m_M_round {l : Launch} {G : cGt} (hI : wd_inj (vC G)) {v1 : Int32} {v2 : Int32} {h h' : Hp} {r : Unit}  (hf : f_M_round v1 v2 h = some (r, h')) : wk_M l (vC G) yM_round cM_round 5 none 0 0 [.ref (cad G 46), .int v1, .int v2] h none h' :=
  wk_met hI (by decide +kernel) rfl (Nat.le_of_ble_eq_true rfl) (wk_cat1 rfl) (fun X hX C hq => by subst hX; exact b_M_round hI C  hf hq)
set_option maxHeartbeats 4000000 in
set_option maxRecDepth 100000 in
theorem b_M_noZeros_0 {X : wk_X} {G : cGt} (hI : wd_inj (vC G)) (C : wk_C X (vC G) cM_noZeros RM 2 0 0) : ∀ (n : Nat) {v1 : Int32} {h : Hp} {q : Unit × Hp}  (hf : f_M_noZeros_0 n v1 h = some q) (hq : wk_Q X (vC G) none q.2 none), WW X (vC G) h 0 [(0, .ref (cad G 46)), (1, .int v1)] [] := by
  intro n
  induction n with
  | zero =>
    intros
    rename_i hf _
    cases hf
  | succ n ih =>
    intro v1 h q hf hq
    rw [f_M_noZeros_0] at hf
    refine wk_aload_n C 0 dM_noZeros_0 rfl rfl ?_
    refine gf_M_26 C dM_noZeros_1 ?_
    refine wk_iload_n C 1 dM_noZeros_4 rfl rfl ?_
    obtain ⟨c_5, hf⟩ := chk_some hf
    refine al_51 C c_5 dM_noZeros_5 ?_
    refine wk_iconst C dM_noZeros_6 kiconst_1 ?_
    refine wk_icmp_le (tgt := 55) C dM_noZeros_7 rfl hf (fun c_7 hf => ?_) (fun c_7 hf => ?_)
    · cases hf
      exact wk_return C hq dM_noZeros_55
    · refine wk_aload_n C 0 dM_noZeros_10 rfl rfl ?_
      refine gf_M_23 C dM_noZeros_11 ?_
      refine wk_sipush C dM_noZeros_14 ksipush_2600 ?_
      refine wk_iload_n C 1 dM_noZeros_17 rfl rfl ?_
      refine wk_imul C dM_noZeros_18 ?_
      refine wk_aload_n C 0 dM_noZeros_19 rfl rfl ?_
      refine gf_M_26 C dM_noZeros_20 ?_
      refine wk_iload_n C 1 dM_noZeros_23 rfl rfl ?_
      obtain ⟨c_24, hf⟩ := chk_some hf
      refine al_51 C c_24 dM_noZeros_24 ?_
      refine wk_iadd C dM_noZeros_25 ?_
      refine wk_iconst C dM_noZeros_26 kiconst_1 ?_
      refine wk_isub C dM_noZeros_27 ?_
      obtain ⟨c_28, hf⟩ := chk_some hf
      refine al_50 C c_28 dM_noZeros_28 ?_
      refine wk_if_ne (tgt := 55) C dM_noZeros_29 rfl hf (fun c_29 hf => ?_) (fun c_29 hf => ?_)
      · cases hf
        exact wk_return C hq dM_noZeros_55
      · refine wk_aload_n C 0 dM_noZeros_32 rfl rfl ?_
        refine gf_M_26 C dM_noZeros_33 ?_
        refine wk_iload_n C 1 dM_noZeros_36 rfl rfl ?_
        refine wk_dup2 C dM_noZeros_37 rfl rfl ?_
        obtain ⟨c_38, hf⟩ := chk_some hf
        refine al_51 C c_38 dM_noZeros_38 ?_
        refine wk_iconst C dM_noZeros_39 kiconst_1 ?_
        refine wk_isub C dM_noZeros_40 ?_
        obtain ⟨c_41, hf⟩ := chk_some hf
        refine as_51 C c_41 dM_noZeros_41 ?_
        refine wk_aload_n C 0 dM_noZeros_42 rfl rfl ?_
        refine gf_M_29 C dM_noZeros_43 ?_
        refine wk_iload_n C 1 dM_noZeros_46 rfl rfl ?_
        refine wk_dup2 C dM_noZeros_47 rfl rfl ?_
        obtain ⟨c_48, hf⟩ := chk_some hf
        refine al_52 C c_48 dM_noZeros_48 ?_
        refine wk_iconst C dM_noZeros_49 kiconst_1 ?_
        refine wk_iadd C dM_noZeros_50 ?_
        obtain ⟨c_51, hf⟩ := chk_some hf
        refine as_52 C c_51 dM_noZeros_51 ?_
        refine wk_goto (tgt := 0) C dM_noZeros_52 rfl ?_
        exact wk_go (ih hf hq) (And.intro rfl (And.intro rfl trivial))
set_option maxHeartbeats 4000000 in
set_option maxRecDepth 100000 in
theorem b_M_noZeros {X : wk_X} {G : cGt} (hI : wd_inj (vC G)) (C : wk_C X (vC G) cM_noZeros RM 2 0 0) {v1 : Int32} {h : Hp} {q : Unit × Hp}  (hf : f_M_noZeros v1 h = some q) (hq : wk_Q X (vC G) none q.2 none) : WW X (vC G) h 0 [(0, .ref (cad G 46)), (1, .int v1)] [] := by
  unfold f_M_noZeros at hf
  exact wk_go (b_M_noZeros_0 hI C fuel hf hq) (And.intro rfl (And.intro rfl trivial))
theorem m_M_noZeros {l : Launch} {G : cGt} (hI : wd_inj (vC G)) {v1 : Int32} {h h' : Hp} {r : Unit}  (hf : f_M_noZeros v1 h = some (r, h')) : wk_M l (vC G) yM_noZeros cM_noZeros 2 none 0 0 [.ref (cad G 46), .int v1] h none h' :=
  wk_met hI (by decide +kernel) rfl (Nat.le_of_ble_eq_true rfl) (wk_cat1 rfl) (fun X hX C hq => by subst hX; exact b_M_noZeros hI C  hf hq)
set_option maxHeartbeats 4000000 in
set_option maxRecDepth 100000 in
theorem b_M_add_351 {X : wk_X} {G : cGt} (hI : wd_inj (vC G)) (C : wk_C X (vC G) cM_add RM 13 2 44) {v4 : Int32} {v6 : Int32} {v7 : Int32} {s1 : Int32} {s2 : Int32} {h : Hp} {q : Unit × Hp}  (hf : f_M_add_351 v4 v6 v7 s1 s2 h = some q) (hq : wk_Q X (vC G) none q.2 none) : WW X (vC G) h 351 [(0, .ref (cad G 46)), (4, .int v4), (6, .int v6), (7, .int v7)] [.int s2, .int s1, .ref (cad G 53)] := by
  unfold f_M_add_351 at hf
  obtain ⟨c_351, hf⟩ := chk_some hf
  refine as_53 C c_351 dM_add_351 ?_
  refine wk_aload_n C 0 dM_add_352 rfl rfl ?_
  refine gf_M_26 C dM_add_353 ?_
  refine wk_iload C dM_add_356 rfl ?_
  refine wk_iload C dM_add_358 rfl ?_
  refine wk_iload C dM_add_360 rfl ?_
  refine wk_isub C dM_add_362 ?_
  refine wk_iconst C dM_add_363 kiconst_1 ?_
  refine wk_iadd C dM_add_364 ?_
  obtain ⟨c_365, hf⟩ := chk_some hf
  refine as_51 C c_365 dM_add_365 ?_
  refine wk_aload_n C 0 dM_add_366 rfl rfl ?_
  refine gf_M_29 C dM_add_367 ?_
  refine wk_iload C dM_add_370 rfl ?_
  refine wk_iload C dM_add_372 rfl ?_
  obtain ⟨c_374, hf⟩ := chk_some hf
  refine as_52 C c_374 dM_add_374 ?_
  refine wk_aload_n C 0 dM_add_375 rfl rfl ?_
  refine wk_iload C dM_add_376 rfl ?_
  obtain ⟨r378, h378, e_378, hf⟩ := bd_some hf
  refine wk_callV (As := [.int v4]) (rest := []) C lw_good cw_M_64 wi_M_settle (m_M_settle hI e_378) lz_46 (he_46 G ((up2 (up2 (up2 h 53 (Int32.toNatClampNeg s1) s2) 51 (Int32.toNatClampNeg v4) ((v7 - v6) + 1)) 52 (Int32.toNatClampNeg v4) v6) 46)) rfl rfl rfl (Nat.le_of_ble_eq_true rfl) (by decide) dM_add_378 ?_
  cases hf
  exact wk_return C hq dM_add_381
set_option maxHeartbeats 4000000 in
set_option maxRecDepth 100000 in
theorem b_M_add_281 {X : wk_X} {G : cGt} (hI : wd_inj (vC G)) (C : wk_C X (vC G) cM_add RM 13 2 44) {k194 : Int32 → Int32 → Int32 → Int32 → Int32 → Int32 → Int32 → Int32 → Int32 → Int32 → Hp → Option (Unit × Hp)} (hk194 : ∀ (v1 : Int32) (v2 : Int32) (v4 : Int32) (v5 : Int32) (v6 : Int32) (v7 : Int32) (v8 : Int32) (v9 : Int32) (v10 : Int32) (v11 : Int32) (h : Hp) (q : Unit × Hp), k194 v1 v2 v4 v5 v6 v7 v8 v9 v10 v11 h = some q → wk_Q X (vC G) none q.2 none → WW X (vC G) h 194 [(0, .ref (cad G 46)), (1, .int v1), (2, .int v2), (4, .int v4), (5, .int v5), (6, .int v6), (7, .int v7), (8, .int v8), (9, .int v9), (10, .int v10), (11, .int v11)] []) {v1 : Int32} {v2 : Int32} {v4 : Int32} {v5 : Int32} {v6 : Int32} {v7 : Int32} {v8 : Int32} {v9 : Int32} {v11 : Int32} {v12 : Int32} {s0 : Int32} {h : Hp} {q : Unit × Hp}  (hf : f_M_add_281 k194 v1 v2 v4 v5 v6 v7 v8 v9 v11 v12 s0 h = some q) (hq : wk_Q X (vC G) none q.2 none) : WW X (vC G) h 281 [(0, .ref (cad G 46)), (1, .int v1), (2, .int v2), (4, .int v4), (5, .int v5), (6, .int v6), (7, .int v7), (8, .int v8), (9, .int v9), (11, .int v11), (12, .int v12)] [.int s0] := by
  unfold f_M_add_281 at hf
  refine wk_istore C dM_add_281 (by decide) ?_
  refine wk_aload_n C 0 dM_add_283 rfl rfl ?_
  refine gf_M_23 C dM_add_284 ?_
  refine wk_sipush C dM_add_287 ksipush_2600 ?_
  refine wk_iload C dM_add_290 rfl ?_
  refine wk_imul C dM_add_292 ?_
  refine wk_iload C dM_add_293 rfl ?_
  refine wk_iadd C dM_add_295 ?_
  refine wk_iload C dM_add_296 rfl ?_
  refine wk_isub C dM_add_298 ?_
  refine wk_iload C dM_add_299 rfl ?_
  refine wk_if_ge (tgt := 312) C dM_add_301 rfl hf (fun c_301 hf => ?_) (fun c_301 hf => ?_)
  · refine wk_iload C dM_add_312 rfl ?_
    refine wk_bipush C dM_add_314 kbipush_10 ?_
    refine wk_irem C dM_add_316 (by decide) ?_
    obtain ⟨c_317, hf⟩ := chk_some hf
    refine as_50 C c_317 dM_add_317 ?_
    refine wk_iinc C dM_add_318 rfl kiconst_1 (by decide) ?_
    refine wk_goto (tgt := 194) C dM_add_321 rfl ?_
    exact wk_go (hk194 _ _ _ _ _ _ _ _ _ _ _ _ hf hq) (And.intro rfl (And.intro rfl (And.intro rfl (And.intro rfl (And.intro rfl (And.intro rfl (And.intro rfl (And.intro rfl (And.intro rfl (And.intro rfl (And.intro rfl trivial)))))))))))
  · refine wk_iload C dM_add_304 rfl ?_
    refine wk_bipush C dM_add_306 kbipush_10 ?_
    refine wk_iadd C dM_add_308 ?_
    refine wk_goto (tgt := 317) C dM_add_309 rfl ?_
    obtain ⟨c_317, hf⟩ := chk_some hf
    refine as_50 C c_317 dM_add_317 ?_
    refine wk_iinc C dM_add_318 rfl kiconst_1 (by decide) ?_
    refine wk_goto (tgt := 194) C dM_add_321 rfl ?_
    exact wk_go (hk194 _ _ _ _ _ _ _ _ _ _ _ _ hf hq) (And.intro rfl (And.intro rfl (And.intro rfl (And.intro rfl (And.intro rfl (And.intro rfl (And.intro rfl (And.intro rfl (And.intro rfl (And.intro rfl (And.intro rfl trivial)))))))))))
set_option maxHeartbeats 4000000 in
set_option maxRecDepth 100000 in
theorem b_M_add_264 {X : wk_X} {G : cGt} (hI : wd_inj (vC G)) (C : wk_C X (vC G) cM_add RM 13 2 44) {k194 : Int32 → Int32 → Int32 → Int32 → Int32 → Int32 → Int32 → Int32 → Int32 → Int32 → Hp → Option (Unit × Hp)} (hk194 : ∀ (v1 : Int32) (v2 : Int32) (v4 : Int32) (v5 : Int32) (v6 : Int32) (v7 : Int32) (v8 : Int32) (v9 : Int32) (v10 : Int32) (v11 : Int32) (h : Hp) (q : Unit × Hp), k194 v1 v2 v4 v5 v6 v7 v8 v9 v10 v11 h = some q → wk_Q X (vC G) none q.2 none → WW X (vC G) h 194 [(0, .ref (cad G 46)), (1, .int v1), (2, .int v2), (4, .int v4), (5, .int v5), (6, .int v6), (7, .int v7), (8, .int v8), (9, .int v9), (10, .int v10), (11, .int v11)] []) {v1 : Int32} {v2 : Int32} {v4 : Int32} {v5 : Int32} {v6 : Int32} {v7 : Int32} {v8 : Int32} {v9 : Int32} {v11 : Int32} {s0 : Int32} {s1 : Int32} {h : Hp} {q : Unit × Hp}  (hf : f_M_add_264 k194 v1 v2 v4 v5 v6 v7 v8 v9 v11 s0 s1 h = some q) (hq : wk_Q X (vC G) none q.2 none) : WW X (vC G) h 264 [(0, .ref (cad G 46)), (1, .int v1), (2, .int v2), (4, .int v4), (5, .int v5), (6, .int v6), (7, .int v7), (8, .int v8), (9, .int v9), (11, .int v11)] [.int s1, .int s0] := by
  unfold f_M_add_264 at hf
  refine wk_iadd C dM_add_264 ?_
  refine wk_istore C dM_add_265 (by decide) ?_
  refine wk_iload C dM_add_267 rfl ?_
  refine wk_if_ge (tgt := 276) C dM_add_269 rfl hf (fun c_269 hf => ?_) (fun c_269 hf => ?_)
  · refine wk_iload C dM_add_276 rfl ?_
    refine wk_bipush C dM_add_278 kbipush_10 ?_
    refine wk_idiv C dM_add_280 (by decide) ?_
    exact wk_go (b_M_add_281 hI C hk194 hf hq) (And.intro rfl (And.intro rfl (And.intro rfl (And.intro rfl (And.intro rfl (And.intro rfl (And.intro rfl (And.intro rfl (And.intro rfl (And.intro rfl (And.intro rfl trivial)))))))))))
  · refine wk_iconst C dM_add_272 kiconst_m1 ?_
    refine wk_goto (tgt := 281) C dM_add_273 rfl ?_
    exact wk_go (b_M_add_281 hI C hk194 hf hq) (And.intro rfl (And.intro rfl (And.intro rfl (And.intro rfl (And.intro rfl (And.intro rfl (And.intro rfl (And.intro rfl (And.intro rfl (And.intro rfl (And.intro rfl trivial)))))))))))
set_option maxHeartbeats 4000000 in
set_option maxRecDepth 100000 in
theorem b_M_add_194 {X : wk_X} {G : cGt} (hI : wd_inj (vC G)) (C : wk_C X (vC G) cM_add RM 13 2 44) : ∀ (n : Nat) {v1 : Int32} {v2 : Int32} {v4 : Int32} {v5 : Int32} {v6 : Int32} {v7 : Int32} {v8 : Int32} {v9 : Int32} {v10 : Int32} {v11 : Int32} {h : Hp} {q : Unit × Hp}  (hf : f_M_add_194 n v1 v2 v4 v5 v6 v7 v8 v9 v10 v11 h = some q) (hq : wk_Q X (vC G) none q.2 none), WW X (vC G) h 194 [(0, .ref (cad G 46)), (1, .int v1), (2, .int v2), (4, .int v4), (5, .int v5), (6, .int v6), (7, .int v7), (8, .int v8), (9, .int v9), (10, .int v10), (11, .int v11)] [] := by
  intro n
  induction n with
  | zero =>
    intros
    rename_i hf _
    cases hf
  | succ n ih =>
    intro v1 v2 v4 v5 v6 v7 v8 v9 v10 v11 h q hf hq
    rw [f_M_add_194] at hf
    refine wk_iload C dM_add_194 rfl ?_
    refine wk_iload C dM_add_196 rfl ?_
    refine wk_icmp_gt (tgt := 324) C dM_add_198 rfl hf (fun c_198 hf => ?_) (fun c_198 hf => ?_)
    · refine wk_aload_n C 0 dM_add_324 rfl rfl ?_
      refine gf_M_32 C dM_add_325 ?_
      refine wk_iload C dM_add_328 rfl ?_
      refine wk_iload C dM_add_330 rfl ?_
      refine wk_if_ne (tgt := 340) C dM_add_332 rfl hf (fun c_332 hf => ?_) (fun c_332 hf => ?_)
      · refine wk_aload_n C 0 dM_add_340 rfl rfl ?_
        refine gf_M_32 C dM_add_341 ?_
        refine wk_iload_n C 1 dM_add_344 rfl rfl ?_
        obtain ⟨c_345, hf⟩ := chk_some hf
        refine al_53 C c_345 dM_add_345 ?_
        refine wk_goto (tgt := 351) C dM_add_346 rfl ?_
        exact wk_go (b_M_add_351 hI C hf hq) (And.intro rfl (And.intro rfl (And.intro rfl (And.intro rfl trivial))))
      · refine wk_iload C dM_add_335 rfl ?_
        refine wk_if_lt (tgt := 349) C dM_add_337 rfl hf (fun c_337 hf => ?_) (fun c_337 hf => ?_)
        · refine wk_iload C dM_add_349 rfl ?_
          exact wk_go (b_M_add_351 hI C hf hq) (And.intro rfl (And.intro rfl (And.intro rfl (And.intro rfl trivial))))
        · refine wk_aload_n C 0 dM_add_340 rfl rfl ?_
          refine gf_M_32 C dM_add_341 ?_
          refine wk_iload_n C 1 dM_add_344 rfl rfl ?_
          obtain ⟨c_345, hf⟩ := chk_some hf
          refine al_53 C c_345 dM_add_345 ?_
          refine wk_goto (tgt := 351) C dM_add_346 rfl ?_
          exact wk_go (b_M_add_351 hI C hf hq) (And.intro rfl (And.intro rfl (And.intro rfl (And.intro rfl trivial))))
    · refine wk_iload C dM_add_201 rfl ?_
      refine wk_iload C dM_add_203 rfl ?_
      refine wk_if_eq (tgt := 226) C dM_add_205 rfl hf (fun c_205 hf => ?_) (fun c_205 hf => ?_)
      · refine wk_iload C dM_add_226 rfl ?_
        refine wk_if_lt (tgt := 249) C dM_add_228 rfl hf (fun c_228 hf => ?_) (fun c_228 hf => ?_)
        · refine wk_aload_n C 0 dM_add_249 rfl rfl ?_
          refine wk_iload_n C 2 dM_add_250 rfl rfl ?_
          refine wk_iload C dM_add_251 rfl ?_
          obtain ⟨r253, h253, e_253, hf⟩ := bd_some hf
          refine wk_callV (As := [.int v2, .int v11]) (rest := [.int v10]) C lw_good cw_M_75 wi_M_digit (m_M_digit hI e_253) lz_46 (he_46 G (h 46)) rfl rfl rfl (Nat.le_of_ble_eq_true rfl) (by decide) dM_add_253 ?_
          refine wk_aload_n C 0 dM_add_256 rfl rfl ?_
          refine wk_iload_n C 1 dM_add_257 rfl rfl ?_
          refine wk_iload C dM_add_258 rfl ?_
          obtain ⟨r260, h260, e_260, hf⟩ := bd_some hf
          refine wk_callV (As := [.int v1, .int v11]) (rest := [.int r253, .int v10]) C lw_good cw_M_75 wi_M_digit (m_M_digit hI e_260) lz_46 (he_46 G (h253 46)) rfl rfl rfl (Nat.le_of_ble_eq_true rfl) (by decide) dM_add_260 ?_
          refine wk_isub C dM_add_263 ?_
          exact wk_go (b_M_add_264 hI C (fun _ _ _ _ _ _ _ _ _ _ _ _ hf hq => ih hf hq) hf hq) (And.intro rfl (And.intro rfl (And.intro rfl (And.intro rfl (And.intro rfl (And.intro rfl (And.intro rfl (And.intro rfl (And.intro rfl (And.intro rfl trivial))))))))))
        · refine wk_aload_n C 0 dM_add_231 rfl rfl ?_
          refine wk_iload_n C 1 dM_add_232 rfl rfl ?_
          refine wk_iload C dM_add_233 rfl ?_
          obtain ⟨r235, h235, e_235, hf⟩ := bd_some hf
          refine wk_callV (As := [.int v1, .int v11]) (rest := [.int v10]) C lw_good cw_M_75 wi_M_digit (m_M_digit hI e_235) lz_46 (he_46 G (h 46)) rfl rfl rfl (Nat.le_of_ble_eq_true rfl) (by decide) dM_add_235 ?_
          refine wk_aload_n C 0 dM_add_238 rfl rfl ?_
          refine wk_iload_n C 2 dM_add_239 rfl rfl ?_
          refine wk_iload C dM_add_240 rfl ?_
          obtain ⟨r242, h242, e_242, hf⟩ := bd_some hf
          refine wk_callV (As := [.int v2, .int v11]) (rest := [.int r235, .int v10]) C lw_good cw_M_75 wi_M_digit (m_M_digit hI e_242) lz_46 (he_46 G (h235 46)) rfl rfl rfl (Nat.le_of_ble_eq_true rfl) (by decide) dM_add_242 ?_
          refine wk_isub C dM_add_245 ?_
          refine wk_goto (tgt := 264) C dM_add_246 rfl ?_
          exact wk_go (b_M_add_264 hI C (fun _ _ _ _ _ _ _ _ _ _ _ _ hf hq => ih hf hq) hf hq) (And.intro rfl (And.intro rfl (And.intro rfl (And.intro rfl (And.intro rfl (And.intro rfl (And.intro rfl (And.intro rfl (And.intro rfl (And.intro rfl trivial))))))))))
      · refine wk_aload_n C 0 dM_add_208 rfl rfl ?_
        refine wk_iload_n C 1 dM_add_209 rfl rfl ?_
        refine wk_iload C dM_add_210 rfl ?_
        obtain ⟨r212, h212, e_212, hf⟩ := bd_some hf
        refine wk_callV (As := [.int v1, .int v11]) (rest := [.int v10]) C lw_good cw_M_75 wi_M_digit (m_M_digit hI e_212) lz_46 (he_46 G (h 46)) rfl rfl rfl (Nat.le_of_ble_eq_true rfl) (by decide) dM_add_212 ?_
        refine wk_aload_n C 0 dM_add_215 rfl rfl ?_
        refine wk_iload_n C 2 dM_add_216 rfl rfl ?_
        refine wk_iload C dM_add_217 rfl ?_
        obtain ⟨r219, h219, e_219, hf⟩ := bd_some hf
        refine wk_callV (As := [.int v2, .int v11]) (rest := [.int r212, .int v10]) C lw_good cw_M_75 wi_M_digit (m_M_digit hI e_219) lz_46 (he_46 G (h212 46)) rfl rfl rfl (Nat.le_of_ble_eq_true rfl) (by decide) dM_add_219 ?_
        refine wk_iadd C dM_add_222 ?_
        refine wk_goto (tgt := 264) C dM_add_223 rfl ?_
        exact wk_go (b_M_add_264 hI C (fun _ _ _ _ _ _ _ _ _ _ _ _ hf hq => ih hf hq) hf hq) (And.intro rfl (And.intro rfl (And.intro rfl (And.intro rfl (And.intro rfl (And.intro rfl (And.intro rfl (And.intro rfl (And.intro rfl (And.intro rfl trivial))))))))))
set_option maxHeartbeats 4000000 in
set_option maxRecDepth 100000 in
theorem b_M_add_169 {X : wk_X} {G : cGt} (hI : wd_inj (vC G)) (C : wk_C X (vC G) cM_add RM 13 2 44) {v1 : Int32} {v2 : Int32} {v4 : Int32} {v5 : Int32} {v6 : Int32} {v7 : Int32} {v8 : Int32} {h : Hp} {q : Unit × Hp}  (hf : f_M_add_169 v1 v2 v4 v5 v6 v7 v8 h = some q) (hq : wk_Q X (vC G) none q.2 none) : WW X (vC G) h 169 [(0, .ref (cad G 46)), (1, .int v1), (2, .int v2), (4, .int v4), (5, .int v5), (6, .int v6), (7, .int v7), (8, .int v8)] [] := by
  unfold f_M_add_169 at hf
  refine wk_aload_n C 0 dM_add_169 rfl rfl ?_
  refine gf_M_32 C dM_add_170 ?_
  refine wk_iload_n C 1 dM_add_173 rfl rfl ?_
  obtain ⟨c_174, hf⟩ := chk_some hf
  refine al_53 C c_174 dM_add_174 ?_
  refine wk_iload C dM_add_175 rfl ?_
  refine wk_icmp_ne (tgt := 184) C dM_add_177 rfl hf (fun c_177 hf => ?_) (fun c_177 hf => ?_)
  · refine wk_iconst C dM_add_184 kiconst_0 ?_
    refine wk_istore C dM_add_185 (by decide) ?_
    refine wk_iconst C dM_add_187 kiconst_0 ?_
    refine wk_istore C dM_add_188 (by decide) ?_
    refine wk_iload C dM_add_190 rfl ?_
    refine wk_istore C dM_add_192 (by decide) ?_
    exact wk_go (b_M_add_194 hI C fuel hf hq) (And.intro rfl (And.intro rfl (And.intro rfl (And.intro rfl (And.intro rfl (And.intro rfl (And.intro rfl (And.intro rfl (And.intro rfl (And.intro rfl (And.intro rfl trivial)))))))))))
  · refine wk_iconst C dM_add_180 kiconst_1 ?_
    refine wk_goto (tgt := 185) C dM_add_181 rfl ?_
    refine wk_istore C dM_add_185 (by decide) ?_
    refine wk_iconst C dM_add_187 kiconst_0 ?_
    refine wk_istore C dM_add_188 (by decide) ?_
    refine wk_iload C dM_add_190 rfl ?_
    refine wk_istore C dM_add_192 (by decide) ?_
    exact wk_go (b_M_add_194 hI C fuel hf hq) (And.intro rfl (And.intro rfl (And.intro rfl (And.intro rfl (And.intro rfl (And.intro rfl (And.intro rfl (And.intro rfl (And.intro rfl (And.intro rfl (And.intro rfl trivial)))))))))))
set_option maxHeartbeats 4000000 in
set_option maxRecDepth 100000 in
theorem b_M_add_134 {X : wk_X} {G : cGt} (hI : wd_inj (vC G)) (C : wk_C X (vC G) cM_add RM 13 2 44) : ∀ (n : Nat) {v1 : Int32} {v2 : Int32} {v4 : Int32} {v5 : Int32} {v6 : Int32} {v7 : Int32} {v8 : Int32} {v9 : Int32} {h : Hp} {q : Unit × Hp}  (hf : f_M_add_134 n v1 v2 v4 v5 v6 v7 v8 v9 h = some q) (hq : wk_Q X (vC G) none q.2 none), WW X (vC G) h 134 [(0, .ref (cad G 46)), (1, .int v1), (2, .int v2), (4, .int v4), (5, .int v5), (6, .int v6), (7, .int v7), (8, .int v8), (9, .int v9)] [] := by
  intro n
  induction n with
  | zero =>
    intros
    rename_i hf _
    cases hf
  | succ n ih =>
    intro v1 v2 v4 v5 v6 v7 v8 v9 h q hf hq
    rw [f_M_add_134] at hf
    refine wk_iload C dM_add_134 rfl ?_
    refine wk_iload C dM_add_136 rfl ?_
    refine wk_icmp_lt (tgt := 169) C dM_add_138 rfl hf (fun c_138 hf => ?_) (fun c_138 hf => ?_)
    · exact wk_go (b_M_add_169 hI C hf hq) (And.intro rfl (And.intro rfl (And.intro rfl (And.intro rfl (And.intro rfl (And.intro rfl (And.intro rfl (And.intro rfl trivial))))))))
    · refine wk_iload C dM_add_141 rfl ?_
      refine wk_if_ne (tgt := 169) C dM_add_143 rfl hf (fun c_143 hf => ?_) (fun c_143 hf => ?_)
      · exact wk_go (b_M_add_169 hI C hf hq) (And.intro rfl (And.intro rfl (And.intro rfl (And.intro rfl (And.intro rfl (And.intro rfl (And.intro rfl (And.intro rfl trivial))))))))
      · refine wk_aload_n C 0 dM_add_146 rfl rfl ?_
        refine wk_iload_n C 1 dM_add_147 rfl rfl ?_
        refine wk_iload C dM_add_148 rfl ?_
        obtain ⟨r150, h150, e_150, hf⟩ := bd_some hf
        refine wk_callV (As := [.int v1, .int v9]) (rest := []) C lw_good cw_M_75 wi_M_digit (m_M_digit hI e_150) lz_46 (he_46 G (h 46)) rfl rfl rfl (Nat.le_of_ble_eq_true rfl) (by decide) dM_add_150 ?_
        refine wk_aload_n C 0 dM_add_153 rfl rfl ?_
        refine wk_iload_n C 2 dM_add_154 rfl rfl ?_
        refine wk_iload C dM_add_155 rfl ?_
        obtain ⟨r157, h157, e_157, hf⟩ := bd_some hf
        refine wk_callV (As := [.int v2, .int v9]) (rest := [.int r150]) C lw_good cw_M_75 wi_M_digit (m_M_digit hI e_157) lz_46 (he_46 G (h150 46)) rfl rfl rfl (Nat.le_of_ble_eq_true rfl) (by decide) dM_add_157 ?_
        refine wk_isub C dM_add_160 ?_
        refine wk_istore C dM_add_161 (by decide) ?_
        refine wk_iinc C dM_add_163 rfl kiconst_m1 (by decide) ?_
        refine wk_goto (tgt := 134) C dM_add_166 rfl ?_
        exact wk_go (ih hf hq) (And.intro rfl (And.intro rfl (And.intro rfl (And.intro rfl (And.intro rfl (And.intro rfl (And.intro rfl (And.intro rfl (And.intro rfl trivial)))))))))
set_option maxHeartbeats 4000000 in
set_option maxRecDepth 100000 in
theorem b_M_add_95 {X : wk_X} {G : cGt} (hI : wd_inj (vC G)) (C : wk_C X (vC G) cM_add RM 13 2 44) {v1 : Int32} {v2 : Int32} {v4 : Int32} {v5 : Int32} {s0 : Int32} {h : Hp} {q : Unit × Hp}  (hf : f_M_add_95 v1 v2 v4 v5 s0 h = some q) (hq : wk_Q X (vC G) none q.2 none) : WW X (vC G) h 95 [(0, .ref (cad G 46)), (1, .int v1), (2, .int v2), (4, .int v4), (5, .int v5)] [.int s0] := by
  unfold f_M_add_95 at hf
  refine wk_istore C dM_add_95 (by decide) ?_
  refine wk_aload_n C 0 dM_add_97 rfl rfl ?_
  refine wk_iload_n C 1 dM_add_98 rfl rfl ?_
  obtain ⟨r99, h99, e_99, hf⟩ := bd_some hf
  refine wk_callV (As := [.int v1]) (rest := []) C lw_good cw_M_67 wi_M_high (m_M_high hI e_99) lz_46 (he_46 G (h 46)) rfl rfl rfl (Nat.le_of_ble_eq_true rfl) (by decide) dM_add_99 ?_
  refine wk_aload_n C 0 dM_add_102 rfl rfl ?_
  refine wk_iload_n C 2 dM_add_103 rfl rfl ?_
  obtain ⟨r104, h104, e_104, hf⟩ := bd_some hf
  refine wk_callV (As := [.int v2]) (rest := [.int r99]) C lw_good cw_M_67 wi_M_high (m_M_high hI e_104) lz_46 (he_46 G (h99 46)) rfl rfl rfl (Nat.le_of_ble_eq_true rfl) (by decide) dM_add_104 ?_
  refine wk_icmp_le (tgt := 118) C dM_add_107 rfl hf (fun c_107 hf => ?_) (fun c_107 hf => ?_)
  · refine wk_aload_n C 0 dM_add_118 rfl rfl ?_
    refine wk_iload_n C 2 dM_add_119 rfl rfl ?_
    obtain ⟨r120, h120, e_120, hf⟩ := bd_some hf
    refine wk_callV (As := [.int v2]) (rest := []) C lw_good cw_M_67 wi_M_high (m_M_high hI e_120) lz_46 (he_46 G (h104 46)) rfl rfl rfl (Nat.le_of_ble_eq_true rfl) (by decide) dM_add_120 ?_
    refine wk_iconst C dM_add_123 kiconst_1 ?_
    refine wk_iadd C dM_add_124 ?_
    refine wk_istore C dM_add_125 (by decide) ?_
    refine wk_iconst C dM_add_127 kiconst_0 ?_
    refine wk_istore C dM_add_128 (by decide) ?_
    refine wk_iload C dM_add_130 rfl ?_
    refine wk_istore C dM_add_132 (by decide) ?_
    exact wk_go (b_M_add_134 hI C fuel hf hq) (And.intro rfl (And.intro rfl (And.intro rfl (And.intro rfl (And.intro rfl (And.intro rfl (And.intro rfl (And.intro rfl (And.intro rfl trivial)))))))))
  · refine wk_aload_n C 0 dM_add_110 rfl rfl ?_
    refine wk_iload_n C 1 dM_add_111 rfl rfl ?_
    obtain ⟨r112, h112, e_112, hf⟩ := bd_some hf
    refine wk_callV (As := [.int v1]) (rest := []) C lw_good cw_M_67 wi_M_high (m_M_high hI e_112) lz_46 (he_46 G (h104 46)) rfl rfl rfl (Nat.le_of_ble_eq_true rfl) (by decide) dM_add_112 ?_
    refine wk_goto (tgt := 123) C dM_add_115 rfl ?_
    refine wk_iconst C dM_add_123 kiconst_1 ?_
    refine wk_iadd C dM_add_124 ?_
    refine wk_istore C dM_add_125 (by decide) ?_
    refine wk_iconst C dM_add_127 kiconst_0 ?_
    refine wk_istore C dM_add_128 (by decide) ?_
    refine wk_iload C dM_add_130 rfl ?_
    refine wk_istore C dM_add_132 (by decide) ?_
    exact wk_go (b_M_add_134 hI C fuel hf hq) (And.intro rfl (And.intro rfl (And.intro rfl (And.intro rfl (And.intro rfl (And.intro rfl (And.intro rfl (And.intro rfl (And.intro rfl trivial)))))))))
set_option maxHeartbeats 4000000 in
set_option maxRecDepth 100000 in
theorem b_M_add_20 {X : wk_X} {G : cGt} (hI : wd_inj (vC G)) (C : wk_C X (vC G) cM_add RM 13 2 44) {v1 : Int32} {v2 : Int32} {v4 : Int32} {s0 : Int32} {h : Hp} {q : Unit × Hp}  (hf : f_M_add_20 v1 v2 v4 s0 h = some q) (hq : wk_Q X (vC G) none q.2 none) : WW X (vC G) h 20 [(0, .ref (cad G 46)), (1, .int v1), (2, .int v2), (4, .int v4)] [.int s0] := by
  unfold f_M_add_20 at hf
  refine wk_istore C dM_add_20 (by decide) ?_
  refine wk_aload_n C 0 dM_add_22 rfl rfl ?_
  refine gf_M_32 C dM_add_23 ?_
  refine wk_iload_n C 2 dM_add_26 rfl rfl ?_
  obtain ⟨c_27, hf⟩ := chk_some hf
  refine al_53 C c_27 dM_add_27 ?_
  refine wk_if_ne (tgt := 39) C dM_add_28 rfl hf (fun c_28 hf => ?_) (fun c_28 hf => ?_)
  · refine wk_aload_n C 0 dM_add_39 rfl rfl ?_
    refine gf_M_32 C dM_add_40 ?_
    refine wk_iload_n C 1 dM_add_43 rfl rfl ?_
    obtain ⟨c_44, hf⟩ := chk_some hf
    refine al_53 C c_44 dM_add_44 ?_
    refine wk_if_ne (tgt := 65) C dM_add_45 rfl hf (fun c_45 hf => ?_) (fun c_45 hf => ?_)
    · refine wk_aload_n C 0 dM_add_65 rfl rfl ?_
      refine gf_M_29 C dM_add_66 ?_
      refine wk_iload_n C 1 dM_add_69 rfl rfl ?_
      obtain ⟨c_70, hf⟩ := chk_some hf
      refine al_52 C c_70 dM_add_70 ?_
      refine wk_aload_n C 0 dM_add_71 rfl rfl ?_
      refine gf_M_29 C dM_add_72 ?_
      refine wk_iload_n C 2 dM_add_75 rfl rfl ?_
      obtain ⟨c_76, hf⟩ := chk_some hf
      refine al_52 C c_76 dM_add_76 ?_
      refine wk_icmp_ge (tgt := 89) C dM_add_77 rfl hf (fun c_77 hf => ?_) (fun c_77 hf => ?_)
      · refine wk_aload_n C 0 dM_add_89 rfl rfl ?_
        refine gf_M_29 C dM_add_90 ?_
        refine wk_iload_n C 2 dM_add_93 rfl rfl ?_
        obtain ⟨c_94, hf⟩ := chk_some hf
        refine al_52 C c_94 dM_add_94 ?_
        exact wk_go (b_M_add_95 hI C hf hq) (And.intro rfl (And.intro rfl (And.intro rfl (And.intro rfl (And.intro rfl trivial)))))
      · refine wk_aload_n C 0 dM_add_80 rfl rfl ?_
        refine gf_M_29 C dM_add_81 ?_
        refine wk_iload_n C 1 dM_add_84 rfl rfl ?_
        obtain ⟨c_85, hf⟩ := chk_some hf
        refine al_52 C c_85 dM_add_85 ?_
        refine wk_goto (tgt := 95) C dM_add_86 rfl ?_
        exact wk_go (b_M_add_95 hI C hf hq) (And.intro rfl (And.intro rfl (And.intro rfl (And.intro rfl (And.intro rfl trivial)))))
    · refine wk_aload_n C 0 dM_add_48 rfl rfl ?_
      refine wk_iload_n C 2 dM_add_49 rfl rfl ?_
      refine wk_iload C dM_add_50 rfl ?_
      obtain ⟨r52, h52, e_52, hf⟩ := bd_some hf
      refine wk_callV (As := [.int v2, .int v4]) (rest := []) C lw_good cw_M_71 wi_M_copy (m_M_copy hI e_52) lz_46 (he_46 G (h 46)) rfl rfl rfl (Nat.le_of_ble_eq_true rfl) (by decide) dM_add_52 ?_
      refine wk_aload_n C 0 dM_add_55 rfl rfl ?_
      refine gf_M_32 C dM_add_56 ?_
      refine wk_iload C dM_add_59 rfl ?_
      refine wk_iload C dM_add_61 rfl ?_
      obtain ⟨c_63, hf⟩ := chk_some hf
      refine as_53 C c_63 dM_add_63 ?_
      cases hf
      exact wk_return C hq dM_add_64
  · refine wk_aload_n C 0 dM_add_31 rfl rfl ?_
    refine wk_iload_n C 1 dM_add_32 rfl rfl ?_
    refine wk_iload C dM_add_33 rfl ?_
    obtain ⟨r35, h35, e_35, hf⟩ := bd_some hf
    refine wk_callV (As := [.int v1, .int v4]) (rest := []) C lw_good cw_M_71 wi_M_copy (m_M_copy hI e_35) lz_46 (he_46 G (h 46)) rfl rfl rfl (Nat.le_of_ble_eq_true rfl) (by decide) dM_add_35 ?_
    cases hf
    exact wk_return C hq dM_add_38
set_option maxHeartbeats 4000000 in
set_option maxRecDepth 100000 in
theorem b_M_add {X : wk_X} {G : cGt} (hI : wd_inj (vC G)) (C : wk_C X (vC G) cM_add RM 13 2 44) {v1 : Int32} {v2 : Int32} {v3 : Int32} {v4 : Int32} {h : Hp} {q : Unit × Hp}  (hf : f_M_add v1 v2 v3 v4 h = some q) (hq : wk_Q X (vC G) none q.2 none) : WW X (vC G) h 0 [(0, .ref (cad G 46)), (1, .int v1), (2, .int v2), (3, .int v3), (4, .int v4)] [] := by
  unfold f_M_add at hf
  refine wk_iload_n C 3 dM_add_0 rfl rfl ?_
  refine wk_if_eq (tgt := 14) C dM_add_1 rfl hf (fun c_1 hf => ?_) (fun c_1 hf => ?_)
  · refine wk_aload_n C 0 dM_add_14 rfl rfl ?_
    refine gf_M_32 C dM_add_15 ?_
    refine wk_iload_n C 2 dM_add_18 rfl rfl ?_
    obtain ⟨c_19, hf⟩ := chk_some hf
    refine al_53 C c_19 dM_add_19 ?_
    exact wk_go (b_M_add_20 hI C hf hq) (And.intro rfl (And.intro rfl (And.intro rfl (And.intro rfl trivial))))
  · refine wk_aload_n C 0 dM_add_4 rfl rfl ?_
    refine gf_M_32 C dM_add_5 ?_
    refine wk_iload_n C 2 dM_add_8 rfl rfl ?_
    obtain ⟨c_9, hf⟩ := chk_some hf
    refine al_53 C c_9 dM_add_9 ?_
    refine wk_ineg C dM_add_10 ?_
    refine wk_goto (tgt := 20) C dM_add_11 rfl ?_
    exact wk_go (b_M_add_20 hI C hf hq) (And.intro rfl (And.intro rfl (And.intro rfl (And.intro rfl trivial))))
theorem m_M_add {l : Launch} {G : cGt} (hI : wd_inj (vC G)) {v1 : Int32} {v2 : Int32} {v3 : Int32} {v4 : Int32} {h h' : Hp} {r : Unit}  (hf : f_M_add v1 v2 v3 v4 h = some (r, h')) : wk_M l (vC G) yM_add cM_add 13 none 2 44 [.ref (cad G 46), .int v1, .int v2, .int v3, .int v4] h none h' :=
  wk_met hI (by decide +kernel) rfl (Nat.le_of_ble_eq_true rfl) (wk_cat1 rfl) (fun X hX C hq => by subst hX; exact b_M_add hI C  hf hq)
