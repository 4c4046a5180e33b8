theorem dN_clear_0 : decode cN_clear 0 = .ok (.aload_n 0, 1) := by decide +kernel
theorem dN_clear_1 : decode cN_clear 1 = .ok (.iconst 0, 1) := by decide +kernel
theorem dN_clear_2 : decode cN_clear 2 = .ok (.putfield 9, 3) := by decide +kernel
theorem dN_clear_5 : decode cN_clear 5 = .ok (.aload_n 0, 1) := by decide +kernel
theorem dN_clear_6 : decode cN_clear 6 = .ok (.iconst 0, 1) := by decide +kernel
theorem dN_clear_7 : decode cN_clear 7 = .ok (.putfield 15, 3) := by decide +kernel
theorem dN_clear_10 : decode cN_clear 10 = .ok (.aload_n 0, 1) := by decide +kernel
theorem dN_clear_11 : decode cN_clear 11 = .ok (.iconst 0, 1) := by decide +kernel
theorem dN_clear_12 : decode cN_clear 12 = .ok (.putfield 18, 3) := by decide +kernel
theorem dN_clear_15 : decode cN_clear 15 = .ok (.return_, 1) := by decide +kernel
theorem dN_push_0 : decode cN_push 0 = .ok (.aload_n 0, 1) := by decide +kernel
theorem dN_push_1 : decode cN_push 1 = .ok (.getfield 9, 3) := by decide +kernel
theorem dN_push_4 : decode cN_push 4 = .ok (.ifCond .gt 7, 3) := by decide +kernel
theorem dN_push_7 : decode cN_push 7 = .ok (.iload_n 1, 1) := by decide +kernel
theorem dN_push_8 : decode cN_push 8 = .ok (.ifCond .eq 7, 3) := by decide +kernel
theorem dN_push_11 : decode cN_push 11 = .ok (.iconst 1, 1) := by decide +kernel
theorem dN_push_12 : decode cN_push 12 = .ok (.goto 4, 3) := by decide +kernel
theorem dN_push_15 : decode cN_push 15 = .ok (.iconst 0, 1) := by decide +kernel
theorem dN_push_16 : decode cN_push 16 = .ok (.istore_n 2, 1) := by decide +kernel
theorem dN_push_17 : decode cN_push 17 = .ok (.iload_n 2, 1) := by decide +kernel
theorem dN_push_18 : decode cN_push 18 = .ok (.ifCond .eq 42, 3) := by decide +kernel
theorem dN_push_21 : decode cN_push 21 = .ok (.aload_n 0, 1) := by decide +kernel
theorem dN_push_22 : decode cN_push 22 = .ok (.getfield 9, 3) := by decide +kernel
theorem dN_push_25 : decode cN_push 25 = .ok (.ifCond .lt 35, 3) := by decide +kernel
theorem dN_push_28 : decode cN_push 28 = .ok (.aload_n 0, 1) := by decide +kernel
theorem dN_push_29 : decode cN_push 29 = .ok (.getfield 9, 3) := by decide +kernel
theorem dN_push_32 : decode cN_push 32 = .ok (.aload_n 0, 1) := by decide +kernel
theorem dN_push_33 : decode cN_push 33 = .ok (.getfield 27, 3) := by decide +kernel
theorem dN_push_36 : decode cN_push 36 = .ok (.arraylength, 1) := by decide +kernel
theorem dN_push_37 : decode cN_push 37 = .ok (.if_icmp .ge 23, 3) := by decide +kernel
theorem dN_push_40 : decode cN_push 40 = .ok (.aload_n 0, 1) := by decide +kernel
theorem dN_push_41 : decode cN_push 41 = .ok (.getfield 27, 3) := by decide +kernel
theorem dN_push_44 : decode cN_push 44 = .ok (.aload_n 0, 1) := by decide +kernel
theorem dN_push_45 : decode cN_push 45 = .ok (.getfield 9, 3) := by decide +kernel
theorem dN_push_48 : decode cN_push 48 = .ok (.iload_n 1, 1) := by decide +kernel
theorem dN_push_49 : decode cN_push 49 = .ok (.iastore, 1) := by decide +kernel
theorem dN_push_50 : decode cN_push 50 = .ok (.aload_n 0, 1) := by decide +kernel
theorem dN_push_51 : decode cN_push 51 = .ok (.dup, 1) := by decide +kernel
theorem dN_push_52 : decode cN_push 52 = .ok (.getfield 9, 3) := by decide +kernel
theorem dN_push_55 : decode cN_push 55 = .ok (.iconst 1, 1) := by decide +kernel
theorem dN_push_56 : decode cN_push 56 = .ok (.iadd, 1) := by decide +kernel
theorem dN_push_57 : decode cN_push 57 = .ok (.putfield 9, 3) := by decide +kernel
theorem dN_push_60 : decode cN_push 60 = .ok (.return_, 1) := by decide +kernel
theorem dN_becomeUnit_0 : decode cN_becomeUnit 0 = .ok (.aload_n 0, 1) := by decide +kernel
theorem dN_becomeUnit_1 : decode cN_becomeUnit 1 = .ok (.invokevirtual 31, 3) := by decide +kernel
theorem dN_becomeUnit_4 : decode cN_becomeUnit 4 = .ok (.iload_n 1, 1) := by decide +kernel
theorem dN_becomeUnit_5 : decode cN_becomeUnit 5 = .ok (.ifCond .eq 13, 3) := by decide +kernel
theorem dN_becomeUnit_8 : decode cN_becomeUnit 8 = .ok (.aload_n 0, 1) := by decide +kernel
theorem dN_becomeUnit_9 : decode cN_becomeUnit 9 = .ok (.iconst 1, 1) := by decide +kernel
theorem dN_becomeUnit_10 : decode cN_becomeUnit 10 = .ok (.invokevirtual 34, 3) := by decide +kernel
theorem dN_becomeUnit_13 : decode cN_becomeUnit 13 = .ok (.aload_n 0, 1) := by decide +kernel
theorem dN_becomeUnit_14 : decode cN_becomeUnit 14 = .ok (.iload_n 1, 1) := by decide +kernel
theorem dN_becomeUnit_15 : decode cN_becomeUnit 15 = .ok (.putfield 18, 3) := by decide +kernel
theorem dN_becomeUnit_18 : decode cN_becomeUnit 18 = .ok (.return_, 1) := by decide +kernel
theorem dN_settle_0 : decode cN_settle 0 = .ok (.aload_n 0, 1) := by decide +kernel
theorem dN_settle_1 : decode cN_settle 1 = .ok (.aload_n 0, 1) := by decide +kernel
theorem dN_settle_2 : decode cN_settle 2 = .ok (.getfield 9, 3) := by decide +kernel
theorem dN_settle_5 : decode cN_settle 5 = .ok (.ifCond .ne 7, 3) := by decide +kernel
theorem dN_settle_8 : decode cN_settle 8 = .ok (.iconst 0, 1) := by decide +kernel
theorem dN_settle_9 : decode cN_settle 9 = .ok (.goto 4, 3) := by decide +kernel
theorem dN_settle_12 : decode cN_settle 12 = .ok (.iload_n 1, 1) := by decide +kernel
theorem dN_settle_13 : decode cN_settle 13 = .ok (.putfield 18, 3) := by decide +kernel
theorem dN_settle_16 : decode cN_settle 16 = .ok (.aload_n 0, 1) := by decide +kernel
theorem dN_settle_17 : decode cN_settle 17 = .ok (.aload_n 0, 1) := by decide +kernel
theorem dN_settle_18 : decode cN_settle 18 = .ok (.getfield 9, 3) := by decide +kernel
theorem dN_settle_21 : decode cN_settle 21 = .ok (.ifCond .ne 7, 3) := by decide +kernel
theorem dN_settle_24 : decode cN_settle 24 = .ok (.iconst 0, 1) := by decide +kernel
theorem dN_settle_25 : decode cN_settle 25 = .ok (.goto 4, 3) := by decide +kernel
theorem dN_settle_28 : decode cN_settle 28 = .ok (.iload_n 2, 1) := by decide +kernel
theorem dN_settle_29 : decode cN_settle 29 = .ok (.putfield 15, 3) := by decide +kernel
theorem dN_settle_32 : decode cN_settle 32 = .ok (.return_, 1) := by decide +kernel
theorem dN_digit_0 : decode cN_digit 0 = .ok (.iload_n 1, 1) := by decide +kernel
theorem dN_digit_1 : decode cN_digit 1 = .ok (.ifCond .lt 20, 3) := by decide +kernel
theorem dN_digit_4 : decode cN_digit 4 = .ok (.iload_n 1, 1) := by decide +kernel
theorem dN_digit_5 : decode cN_digit 5 = .ok (.aload_n 0, 1) := by decide +kernel
theorem dN_digit_6 : decode cN_digit 6 = .ok (.getfield 9, 3) := by decide +kernel
theorem dN_digit_9 : decode cN_digit 9 = .ok (.if_icmp .ge 12, 3) := by decide +kernel
theorem dN_digit_12 : decode cN_digit 12 = .ok (.iload_n 1, 1) := by decide +kernel
theorem dN_digit_13 : decode cN_digit 13 = .ok (.aload_n 0, 1) := by decide +kernel
theorem dN_digit_14 : decode cN_digit 14 = .ok (.getfield 27, 3) := by decide +kernel
theorem dN_digit_17 : decode cN_digit 17 = .ok (.arraylength, 1) := by decide +kernel
theorem dN_digit_18 : decode cN_digit 18 = .ok (.if_icmp .lt 7, 3) := by decide +kernel
theorem dN_digit_21 : decode cN_digit 21 = .ok (.iconst 0, 1) := by decide +kernel
theorem dN_digit_22 : decode cN_digit 22 = .ok (.goto 9, 3) := by decide +kernel
theorem dN_digit_25 : decode cN_digit 25 = .ok (.aload_n 0, 1) := by decide +kernel
theorem dN_digit_26 : decode cN_digit 26 = .ok (.getfield 27, 3) := by decide +kernel
theorem dN_digit_29 : decode cN_digit 29 = .ok (.iload_n 1, 1) := by decide +kernel
theorem dN_digit_30 : decode cN_digit 30 = .ok (.iaload, 1) := by decide +kernel
theorem dN_digit_31 : decode cN_digit 31 = .ok (.ireturn, 1) := by decide +kernel
theorem dN_copy_0 : decode cN_copy 0 = .ok (.aload_n 0, 1) := by decide +kernel
theorem dN_copy_1 : decode cN_copy 1 = .ok (.invokevirtual 31, 3) := by decide +kernel
theorem dN_copy_4 : decode cN_copy 4 = .ok (.iconst 0, 1) := by decide +kernel
theorem dN_copy_5 : decode cN_copy 5 = .ok (.istore_n 2, 1) := by decide +kernel
theorem dN_copy_6 : decode cN_copy 6 = .ok (.iload_n 2, 1) := by decide +kernel
theorem dN_copy_7 : decode cN_copy 7 = .ok (.aload_n 1, 1) := by decide +kernel
theorem dN_copy_8 : decode cN_copy 8 = .ok (.getfield 9, 3) := by decide +kernel
theorem dN_copy_11 : decode cN_copy 11 = .ok (.if_icmp .ge 18, 3) := by decide +kernel
theorem dN_copy_14 : decode cN_copy 14 = .ok (.aload_n 0, 1) := by decide +kernel
theorem dN_copy_15 : decode cN_copy 15 = .ok (.aload_n 1, 1) := by decide +kernel
theorem dN_copy_16 : decode cN_copy 16 = .ok (.iload_n 2, 1) := by decide +kernel
theorem dN_copy_17 : decode cN_copy 17 = .ok (.invokevirtual 38, 3) := by decide +kernel
theorem dN_copy_20 : decode cN_copy 20 = .ok (.invokevirtual 34, 3) := by decide +kernel
theorem dN_copy_23 : decode cN_copy 23 = .ok (.iinc 2 1, 3) := by decide +kernel
theorem dN_copy_26 : decode cN_copy 26 = .ok (.goto (-20), 3) := by decide +kernel
theorem dN_copy_29 : decode cN_copy 29 = .ok (.aload_n 0, 1) := by decide +kernel
theorem dN_copy_30 : decode cN_copy 30 = .ok (.aload_n 1, 1) := by decide +kernel
theorem dN_copy_31 : decode cN_copy 31 = .ok (.getfield 18, 3) := by decide +kernel
theorem dN_copy_34 : decode cN_copy 34 = .ok (.aload_n 1, 1) := by decide +kernel
theorem dN_copy_35 : decode cN_copy 35 = .ok (.getfield 15, 3) := by decide +kernel
theorem dN_copy_38 : decode cN_copy 38 = .ok (.invokevirtual 42, 3) := by decide +kernel
theorem dN_copy_41 : decode cN_copy 41 = .ok (.return_, 1) := by decide +kernel
theorem dN_digitAtPower_0 : decode cN_digitAtPower 0 = .ok (.aload_n 0, 1) := by decide +kernel
theorem dN_digitAtPower_1 : decode cN_digitAtPower 1 = .ok (.aload_n 0, 1) := by decide +kernel
theorem dN_digitAtPower_2 : decode cN_digitAtPower 2 = .ok (.getfield 9, 3) := by decide +kernel
theorem dN_digitAtPower_5 : decode cN_digitAtPower 5 = .ok (.iconst 1, 1) := by decide +kernel
theorem dN_digitAtPower_6 : decode cN_digitAtPower 6 = .ok (.isub, 1) := by decide +kernel
theorem dN_digitAtPower_7 : decode cN_digitAtPower 7 = .ok (.iload_n 1, 1) := by decide +kernel
theorem dN_digitAtPower_8 : decode cN_digitAtPower 8 = .ok (.aload_n 0, 1) := by decide +kernel
theorem dN_digitAtPower_9 : decode cN_digitAtPower 9 = .ok (.getfield 15, 3) := by decide +kernel
theorem dN_digitAtPower_12 : decode cN_digitAtPower 12 = .ok (.isub, 1) := by decide +kernel
theorem dN_digitAtPower_13 : decode cN_digitAtPower 13 = .ok (.isub, 1) := by decide +kernel
theorem dN_digitAtPower_14 : decode cN_digitAtPower 14 = .ok (.invokevirtual 38, 3) := by decide +kernel
theorem dN_digitAtPower_17 : decode cN_digitAtPower 17 = .ok (.ireturn, 1) := by decide +kernel
theorem dN_ahead_0 : decode cN_ahead 0 = .ok (.aload_n 0, 1) := by decide +kernel
theorem dN_ahead_1 : decode cN_ahead 1 = .ok (.getfield 9, 3) := by decide +kernel
theorem dN_ahead_4 : decode cN_ahead 4 = .ok (.aload_n 0, 1) := by decide +kernel
theorem dN_ahead_5 : decode cN_ahead 5 = .ok (.getfield 15, 3) := by decide +kernel
theorem dN_ahead_8 : decode cN_ahead 8 = .ok (.iadd, 1) := by decide +kernel
theorem dN_ahead_9 : decode cN_ahead 9 = .ok (.ireturn, 1) := by decide +kernel
theorem dN_places_0 : decode cN_places 0 = .ok (.aload_n 0, 1) := by decide +kernel
theorem dN_places_1 : decode cN_places 1 = .ok (.getfield 15, 3) := by decide +kernel
theorem dN_places_4 : decode cN_places 4 = .ok (.ifCond .ge 11, 3) := by decide +kernel
theorem dN_places_7 : decode cN_places 7 = .ok (.aload_n 0, 1) := by decide +kernel
theorem dN_places_8 : decode cN_places 8 = .ok (.getfield 15, 3) := by decide +kernel
theorem dN_places_11 : decode cN_places 11 = .ok (.ineg, 1) := by decide +kernel
theorem dN_places_12 : decode cN_places 12 = .ok (.goto 4, 3) := by decide +kernel
theorem dN_places_15 : decode cN_places 15 = .ok (.iconst 0, 1) := by decide +kernel
theorem dN_places_16 : decode cN_places 16 = .ok (.ireturn, 1) := by decide +kernel
theorem dN_firstPower_0 : decode cN_firstPower 0 = .ok (.aload_n 0, 1) := by decide +kernel
theorem dN_firstPower_1 : decode cN_firstPower 1 = .ok (.getfield 9, 3) := by decide +kernel
theorem dN_firstPower_4 : decode cN_firstPower 4 = .ok (.ifCond .ne 7, 3) := by decide +kernel
theorem dN_firstPower_7 : decode cN_firstPower 7 = .ok (.iconst 0, 1) := by decide +kernel
theorem dN_firstPower_8 : decode cN_firstPower 8 = .ok (.goto 14, 3) := by decide +kernel
theorem dN_firstPower_11 : decode cN_firstPower 11 = .ok (.aload_n 0, 1) := by decide +kernel
theorem dN_firstPower_12 : decode cN_firstPower 12 = .ok (.getfield 9, 3) := by decide +kernel
theorem dN_firstPower_15 : decode cN_firstPower 15 = .ok (.aload_n 0, 1) := by decide +kernel
theorem dN_firstPower_16 : decode cN_firstPower 16 = .ok (.getfield 15, 3) := by decide +kernel
theorem dN_firstPower_19 : decode cN_firstPower 19 = .ok (.iadd, 1) := by decide +kernel
theorem dN_firstPower_20 : decode cN_firstPower 20 = .ok (.iconst 1, 1) := by decide +kernel
theorem dN_firstPower_21 : decode cN_firstPower 21 = .ok (.isub, 1) := by decide +kernel
theorem dN_firstPower_22 : decode cN_firstPower 22 = .ok (.ireturn, 1) := by decide +kernel
theorem dN_countUp_0 : decode cN_countUp 0 = .ok (.aload_n 0, 1) := by decide +kernel
theorem dN_countUp_1 : decode cN_countUp 1 = .ok (.getfield 9, 3) := by decide +kernel
theorem dN_countUp_4 : decode cN_countUp 4 = .ok (.aload_n 0, 1) := by decide +kernel
theorem dN_countUp_5 : decode cN_countUp 5 = .ok (.getfield 27, 3) := by decide +kernel
theorem dN_countUp_8 : decode cN_countUp 8 = .ok (.arraylength, 1) := by decide +kernel
theorem dN_countUp_9 : decode cN_countUp 9 = .ok (.invokestatic 62, 3) := by decide +kernel
theorem dN_countUp_12 : decode cN_countUp 12 = .ok (.iconst 1, 1) := by decide +kernel
theorem dN_countUp_13 : decode cN_countUp 13 = .ok (.isub, 1) := by decide +kernel
theorem dN_countUp_14 : decode cN_countUp 14 = .ok (.istore_n 1, 1) := by decide +kernel
theorem dN_countUp_15 : decode cN_countUp 15 = .ok (.iload_n 1, 1) := by decide +kernel
theorem dN_countUp_16 : decode cN_countUp 16 = .ok (.ifCond .lt 27, 3) := by decide +kernel
theorem dN_countUp_19 : decode cN_countUp 19 = .ok (.aload_n 0, 1) := by decide +kernel
theorem dN_countUp_20 : decode cN_countUp 20 = .ok (.getfield 27, 3) := by decide +kernel
theorem dN_countUp_23 : decode cN_countUp 23 = .ok (.iload_n 1, 1) := by decide +kernel
theorem dN_countUp_24 : decode cN_countUp 24 = .ok (.iaload, 1) := by decide +kernel
theorem dN_countUp_25 : decode cN_countUp 25 = .ok (.bipush 9, 2) := by decide +kernel
theorem dN_countUp_27 : decode cN_countUp 27 = .ok (.if_icmp .ne 16, 3) := by decide +kernel
theorem dN_countUp_30 : decode cN_countUp 30 = .ok (.aload_n 0, 1) := by decide +kernel
theorem dN_countUp_31 : decode cN_countUp 31 = .ok (.getfield 27, 3) := by decide +kernel
theorem dN_countUp_34 : decode cN_countUp 34 = .ok (.iload_n 1, 1) := by decide +kernel
theorem dN_countUp_35 : decode cN_countUp 35 = .ok (.iconst 0, 1) := by decide +kernel
theorem dN_countUp_36 : decode cN_countUp 36 = .ok (.iastore, 1) := by decide +kernel
theorem dN_countUp_37 : decode cN_countUp 37 = .ok (.iinc 1 (-1), 3) := by decide +kernel
theorem dN_countUp_40 : decode cN_countUp 40 = .ok (.goto (-25), 3) := by decide +kernel
theorem dN_countUp_43 : decode cN_countUp 43 = .ok (.iload_n 1, 1) := by decide +kernel
theorem dN_countUp_44 : decode cN_countUp 44 = .ok (.ifCond .lt 16, 3) := by decide +kernel
theorem dN_countUp_47 : decode cN_countUp 47 = .ok (.aload_n 0, 1) := by decide +kernel
theorem dN_countUp_48 : decode cN_countUp 48 = .ok (.getfield 27, 3) := by decide +kernel
theorem dN_countUp_51 : decode cN_countUp 51 = .ok (.iload_n 1, 1) := by decide +kernel
theorem dN_countUp_52 : decode cN_countUp 52 = .ok (.dup2, 1) := by decide +kernel
theorem dN_countUp_53 : decode cN_countUp 53 = .ok (.iaload, 1) := by decide +kernel
theorem dN_countUp_54 : decode cN_countUp 54 = .ok (.iconst 1, 1) := by decide +kernel
theorem dN_countUp_55 : decode cN_countUp 55 = .ok (.iadd, 1) := by decide +kernel
theorem dN_countUp_56 : decode cN_countUp 56 = .ok (.iastore, 1) := by decide +kernel
theorem dN_countUp_57 : decode cN_countUp 57 = .ok (.goto 20, 3) := by decide +kernel
theorem dN_countUp_60 : decode cN_countUp 60 = .ok (.aload_n 0, 1) := by decide +kernel
theorem dN_countUp_61 : decode cN_countUp 61 = .ok (.getfield 27, 3) := by decide +kernel
theorem dN_countUp_64 : decode cN_countUp 64 = .ok (.iconst 0, 1) := by decide +kernel
theorem dN_countUp_65 : decode cN_countUp 65 = .ok (.iconst 1, 1) := by decide +kernel
theorem dN_countUp_66 : decode cN_countUp 66 = .ok (.iastore, 1) := by decide +kernel
theorem dN_countUp_67 : decode cN_countUp 67 = .ok (.aload_n 0, 1) := by decide +kernel
theorem dN_countUp_68 : decode cN_countUp 68 = .ok (.dup, 1) := by decide +kernel
theorem dN_countUp_69 : decode cN_countUp 69 = .ok (.getfield 15, 3) := by decide +kernel
theorem dN_countUp_72 : decode cN_countUp 72 = .ok (.iconst 1, 1) := by decide +kernel
theorem dN_countUp_73 : decode cN_countUp 73 = .ok (.iadd, 1) := by decide +kernel
theorem dN_countUp_74 : decode cN_countUp 74 = .ok (.putfield 15, 3) := by decide +kernel
theorem dN_countUp_77 : decode cN_countUp 77 = .ok (.return_, 1) := by decide +kernel
theorem dN_roundTo_0 : decode cN_roundTo 0 = .ok (.iload_n 1, 1) := by decide +kernel
theorem dN_roundTo_1 : decode cN_roundTo 1 = .ok (.iconst 1, 1) := by decide +kernel
theorem dN_roundTo_2 : decode cN_roundTo 2 = .ok (.if_icmp .lt 11, 3) := by decide +kernel
theorem dN_roundTo_5 : decode cN_roundTo 5 = .ok (.aload_n 0, 1) := by decide +kernel
theorem dN_roundTo_6 : decode cN_roundTo 6 = .ok (.getfield 9, 3) := by decide +kernel
theorem dN_roundTo_9 : decode cN_roundTo 9 = .ok (.iload_n 1, 1) := by decide +kernel
theorem dN_roundTo_10 : decode cN_roundTo 10 = .ok (.if_icmp .gt 4, 3) := by decide +kernel
theorem dN_roundTo_13 : decode cN_roundTo 13 = .ok (.return_, 1) := by decide +kernel
theorem dN_roundTo_14 : decode cN_roundTo 14 = .ok (.aload_n 0, 1) := by decide +kernel
theorem dN_roundTo_15 : decode cN_roundTo 15 = .ok (.iload_n 1, 1) := by decide +kernel
theorem dN_roundTo_16 : decode cN_roundTo 16 = .ok (.invokevirtual 38, 3) := by decide +kernel
theorem dN_roundTo_19 : decode cN_roundTo 19 = .ok (.iconst 5, 1) := by decide +kernel
theorem dN_roundTo_20 : decode cN_roundTo 20 = .ok (.if_icmp .lt 7, 3) := by decide +kernel
theorem dN_roundTo_23 : decode cN_roundTo 23 = .ok (.iconst 1, 1) := by decide +kernel
theorem dN_roundTo_24 : decode cN_roundTo 24 = .ok (.goto 4, 3) := by decide +kernel
theorem dN_roundTo_27 : decode cN_roundTo 27 = .ok (.iconst 0, 1) := by decide +kernel
theorem dN_roundTo_28 : decode cN_roundTo 28 = .ok (.istore_n 2, 1) := by decide +kernel
theorem dN_roundTo_29 : decode cN_roundTo 29 = .ok (.aload_n 0, 1) := by decide +kernel
theorem dN_roundTo_30 : decode cN_roundTo 30 = .ok (.dup, 1) := by decide +kernel
theorem dN_roundTo_31 : decode cN_roundTo 31 = .ok (.getfield 15, 3) := by decide +kernel
theorem dN_roundTo_34 : decode cN_roundTo 34 = .ok (.aload_n 0, 1) := by decide +kernel
theorem dN_roundTo_35 : decode cN_roundTo 35 = .ok (.getfield 9, 3) := by decide +kernel
theorem dN_roundTo_38 : decode cN_roundTo 38 = .ok (.iload_n 1, 1) := by decide +kernel
theorem dN_roundTo_39 : decode cN_roundTo 39 = .ok (.isub, 1) := by decide +kernel
theorem dN_roundTo_40 : decode cN_roundTo 40 = .ok (.iadd, 1) := by decide +kernel
theorem dN_roundTo_41 : decode cN_roundTo 41 = .ok (.putfield 15, 3) := by decide +kernel
theorem dN_roundTo_44 : decode cN_roundTo 44 = .ok (.aload_n 0, 1) := by decide +kernel
theorem dN_roundTo_45 : decode cN_roundTo 45 = .ok (.iload_n 1, 1) := by decide +kernel
theorem dN_roundTo_46 : decode cN_roundTo 46 = .ok (.putfield 9, 3) := by decide +kernel
theorem dN_roundTo_49 : decode cN_roundTo 49 = .ok (.iload_n 2, 1) := by decide +kernel
theorem dN_roundTo_50 : decode cN_roundTo 50 = .ok (.ifCond .eq 7, 3) := by decide +kernel
theorem dN_roundTo_53 : decode cN_roundTo 53 = .ok (.aload_n 0, 1) := by decide +kernel
theorem dN_roundTo_54 : decode cN_roundTo 54 = .ok (.invokevirtual 46, 3) := by decide +kernel
theorem dN_roundTo_57 : decode cN_roundTo 57 = .ok (.return_, 1) := by decide +kernel
theorem dN_roundToPlaces_0 : decode cN_roundToPlaces 0 = .ok (.iload_n 1, 1) := by decide +kernel
theorem dN_roundToPlaces_1 : decode cN_roundToPlaces 1 = .ok (.aload_n 0, 1) := by decide +kernel
theorem dN_roundToPlaces_2 : decode cN_roundToPlaces 2 = .ok (.invokevirtual 49, 3) := by decide +kernel
theorem dN_roundToPlaces_5 : decode cN_roundToPlaces 5 = .ok (.if_icmp .lt 4, 3) := by decide +kernel
theorem dN_roundToPlaces_8 : decode cN_roundToPlaces 8 = .ok (.return_, 1) := by decide +kernel
theorem dN_roundToPlaces_9 : decode cN_roundToPlaces 9 = .ok (.aload_n 0, 1) := by decide +kernel
theorem dN_roundToPlaces_10 : decode cN_roundToPlaces 10 = .ok (.invokevirtual 53, 3) := by decide +kernel
theorem dN_roundToPlaces_13 : decode cN_roundToPlaces 13 = .ok (.iload_n 1, 1) := by decide +kernel
theorem dN_roundToPlaces_14 : decode cN_roundToPlaces 14 = .ok (.iadd, 1) := by decide +kernel
theorem dN_roundToPlaces_15 : decode cN_roundToPlaces 15 = .ok (.istore_n 2, 1) := by decide +kernel
theorem dN_roundToPlaces_16 : decode cN_roundToPlaces 16 = .ok (.iload_n 2, 1) := by decide +kernel
theorem dN_roundToPlaces_17 : decode cN_roundToPlaces 17 = .ok (.ifCond .le 9, 3) := by decide +kernel
theorem dN_roundToPlaces_20 : decode cN_roundToPlaces 20 = .ok (.aload_n 0, 1) := by decide +kernel
theorem dN_roundToPlaces_21 : decode cN_roundToPlaces 21 = .ok (.iload_n 2, 1) := by decide +kernel
theorem dN_roundToPlaces_22 : decode cN_roundToPlaces 22 = .ok (.invokevirtual 56, 3) := by decide +kernel
theorem dN_roundToPlaces_25 : decode cN_roundToPlaces 25 = .ok (.return_, 1) := by decide +kernel
theorem dN_roundToPlaces_26 : decode cN_roundToPlaces 26 = .ok (.iload_n 2, 1) := by decide +kernel
theorem dN_roundToPlaces_27 : decode cN_roundToPlaces 27 = .ok (.ifCond .ne 16, 3) := by decide +kernel
theorem dN_roundToPlaces_30 : decode cN_roundToPlaces 30 = .ok (.aload_n 0, 1) := by decide +kernel
theorem dN_roundToPlaces_31 : decode cN_roundToPlaces 31 = .ok (.iconst 0, 1) := by decide +kernel
theorem dN_roundToPlaces_32 : decode cN_roundToPlaces 32 = .ok (.invokevirtual 38, 3) := by decide +kernel
theorem dN_roundToPlaces_35 : decode cN_roundToPlaces 35 = .ok (.iconst 5, 1) := by decide +kernel
theorem dN_roundToPlaces_36 : decode cN_roundToPlaces 36 = .ok (.if_icmp .lt 7, 3) := by decide +kernel
theorem dN_roundToPlaces_39 : decode cN_roundToPlaces 39 = .ok (.iconst 1, 1) := by decide +kernel
theorem dN_roundToPlaces_40 : decode cN_roundToPlaces 40 = .ok (.goto 4, 3) := by decide +kernel
theorem dN_roundToPlaces_43 : decode cN_roundToPlaces 43 = .ok (.iconst 0, 1) := by decide +kernel
theorem dN_roundToPlaces_44 : decode cN_roundToPlaces 44 = .ok (.istore_n 3, 1) := by decide +kernel
theorem dN_roundToPlaces_45 : decode cN_roundToPlaces 45 = .ok (.iload_n 3, 1) := by decide +kernel
theorem dN_roundToPlaces_46 : decode cN_roundToPlaces 46 = .ok (.ifCond .eq 10, 3) := by decide +kernel
theorem dN_roundToPlaces_49 : decode cN_roundToPlaces 49 = .ok (.aload_n 0, 1) := by decide +kernel
theorem dN_roundToPlaces_50 : decode cN_roundToPlaces 50 = .ok (.getfield 18, 3) := by decide +kernel
theorem dN_roundToPlaces_53 : decode cN_roundToPlaces 53 = .ok (.goto 4, 3) := by decide +kernel
theorem dN_roundToPlaces_56 : decode cN_roundToPlaces 56 = .ok (.iconst 0, 1) := by decide +kernel
theorem dN_roundToPlaces_57 : decode cN_roundToPlaces 57 = .ok (.istore 4, 2) := by decide +kernel
theorem dN_roundToPlaces_59 : decode cN_roundToPlaces 59 = .ok (.aload_n 0, 1) := by decide +kernel
theorem dN_roundToPlaces_60 : decode cN_roundToPlaces 60 = .ok (.iload 4, 2) := by decide +kernel
theorem dN_roundToPlaces_62 : decode cN_roundToPlaces 62 = .ok (.invokevirtual 59, 3) := by decide +kernel
theorem dN_roundToPlaces_65 : decode cN_roundToPlaces 65 = .ok (.aload_n 0, 1) := by decide +kernel
theorem dN_roundToPlaces_66 : decode cN_roundToPlaces 66 = .ok (.iload 4, 2) := by decide +kernel
theorem dN_roundToPlaces_68 : decode cN_roundToPlaces 68 = .ok (.iload_n 1, 1) := by decide +kernel
theorem dN_roundToPlaces_69 : decode cN_roundToPlaces 69 = .ok (.ineg, 1) := by decide +kernel
theorem dN_roundToPlaces_70 : decode cN_roundToPlaces 70 = .ok (.invokevirtual 42, 3) := by decide +kernel
theorem dN_roundToPlaces_73 : decode cN_roundToPlaces 73 = .ok (.return_, 1) := by decide +kernel
theorem dN_dropEndZeros_0 : decode cN_dropEndZeros 0 = .ok (.aload_n 0, 1) := by decide +kernel
theorem dN_dropEndZeros_1 : decode cN_dropEndZeros 1 = .ok (.getfield 9, 3) := by decide +kernel
theorem dN_dropEndZeros_4 : decode cN_dropEndZeros 4 = .ok (.iconst 1, 1) := by decide +kernel
theorem dN_dropEndZeros_5 : decode cN_dropEndZeros 5 = .ok (.if_icmp .le 39, 3) := by decide +kernel
theorem dN_dropEndZeros_8 : decode cN_dropEndZeros 8 = .ok (.aload_n 0, 1) := by decide +kernel
theorem dN_dropEndZeros_9 : decode cN_dropEndZeros 9 = .ok (.aload_n 0, 1) := by decide +kernel
theorem dN_dropEndZeros_10 : decode cN_dropEndZeros 10 = .ok (.getfield 9, 3) := by decide +kernel
theorem dN_dropEndZeros_13 : decode cN_dropEndZeros 13 = .ok (.iconst 1, 1) := by decide +kernel
theorem dN_dropEndZeros_14 : decode cN_dropEndZeros 14 = .ok (.isub, 1) := by decide +kernel
theorem dN_dropEndZeros_15 : decode cN_dropEndZeros 15 = .ok (.invokevirtual 38, 3) := by decide +kernel
theorem dN_dropEndZeros_18 : decode cN_dropEndZeros 18 = .ok (.ifCond .ne 26, 3) := by decide +kernel
theorem dN_dropEndZeros_21 : decode cN_dropEndZeros 21 = .ok (.aload_n 0, 1) := by decide +kernel
theorem dN_dropEndZeros_22 : decode cN_dropEndZeros 22 = .ok (.dup, 1) := by decide +kernel
theorem dN_dropEndZeros_23 : decode cN_dropEndZeros 23 = .ok (.getfield 9, 3) := by decide +kernel
theorem dN_dropEndZeros_26 : decode cN_dropEndZeros 26 = .ok (.iconst 1, 1) := by decide +kernel
theorem dN_dropEndZeros_27 : decode cN_dropEndZeros 27 = .ok (.isub, 1) := by decide +kernel
theorem dN_dropEndZeros_28 : decode cN_dropEndZeros 28 = .ok (.putfield 9, 3) := by decide +kernel
theorem dN_dropEndZeros_31 : decode cN_dropEndZeros 31 = .ok (.aload_n 0, 1) := by decide +kernel
theorem dN_dropEndZeros_32 : decode cN_dropEndZeros 32 = .ok (.dup, 1) := by decide +kernel
theorem dN_dropEndZeros_33 : decode cN_dropEndZeros 33 = .ok (.getfield 15, 3) := by decide +kernel
theorem dN_dropEndZeros_36 : decode cN_dropEndZeros 36 = .ok (.iconst 1, 1) := by decide +kernel
theorem dN_dropEndZeros_37 : decode cN_dropEndZeros 37 = .ok (.iadd, 1) := by decide +kernel
theorem dN_dropEndZeros_38 : decode cN_dropEndZeros 38 = .ok (.putfield 15, 3) := by decide +kernel
theorem dN_dropEndZeros_41 : decode cN_dropEndZeros 41 = .ok (.goto (-41), 3) := by decide +kernel
theorem dN_dropEndZeros_44 : decode cN_dropEndZeros 44 = .ok (.return_, 1) := by decide +kernel
theorem dN_wholeValue_0 : decode cN_wholeValue 0 = .ok (.aload_n 0, 1) := by decide +kernel
theorem dN_wholeValue_1 : decode cN_wholeValue 1 = .ok (.invokevirtual 53, 3) := by decide +kernel
theorem dN_wholeValue_4 : decode cN_wholeValue 4 = .ok (.bipush 9, 2) := by decide +kernel
theorem dN_wholeValue_6 : decode cN_wholeValue 6 = .ok (.if_icmp .le 6, 3) := by decide +kernel
theorem dN_wholeValue_9 : decode cN_wholeValue 9 = .ok (.ldc 65, 2) := by decide +kernel
theorem dN_wholeValue_11 : decode cN_wholeValue 11 = .ok (.ireturn, 1) := by decide +kernel
theorem dN_wholeValue_12 : decode cN_wholeValue 12 = .ok (.iconst 0, 1) := by decide +kernel
theorem dN_wholeValue_13 : decode cN_wholeValue 13 = .ok (.istore_n 1, 1) := by decide +kernel
theorem dN_wholeValue_14 : decode cN_wholeValue 14 = .ok (.iconst 0, 1) := by decide +kernel
theorem dN_wholeValue_15 : decode cN_wholeValue 15 = .ok (.istore_n 2, 1) := by decide +kernel
theorem dN_wholeValue_16 : decode cN_wholeValue 16 = .ok (.iload_n 2, 1) := by decide +kernel
theorem dN_wholeValue_17 : decode cN_wholeValue 17 = .ok (.aload_n 0, 1) := by decide +kernel
theorem dN_wholeValue_18 : decode cN_wholeValue 18 = .ok (.getfield 9, 3) := by decide +kernel
theorem dN_wholeValue_21 : decode cN_wholeValue 21 = .ok (.if_icmp .ge 57, 3) := by decide +kernel
theorem dN_wholeValue_24 : decode cN_wholeValue 24 = .ok (.iload_n 2, 1) := by decide +kernel
theorem dN_wholeValue_25 : decode cN_wholeValue 25 = .ok (.aload_n 0, 1) := by decide +kernel
theorem dN_wholeValue_26 : decode cN_wholeValue 26 = .ok (.invokevirtual 53, 3) := by decide +kernel
theorem dN_wholeValue_29 : decode cN_wholeValue 29 = .ok (.if_icmp .lt 7, 3) := by decide +kernel
theorem dN_wholeValue_32 : decode cN_wholeValue 32 = .ok (.iconst 1, 1) := by decide +kernel
theorem dN_wholeValue_33 : decode cN_wholeValue 33 = .ok (.goto 4, 3) := by decide +kernel
theorem dN_wholeValue_36 : decode cN_wholeValue 36 = .ok (.iconst 0, 1) := by decide +kernel
theorem dN_wholeValue_37 : decode cN_wholeValue 37 = .ok (.istore_n 3, 1) := by decide +kernel
theorem dN_wholeValue_38 : decode cN_wholeValue 38 = .ok (.iload_n 3, 1) := by decide +kernel
theorem dN_wholeValue_39 : decode cN_wholeValue 39 = .ok (.ifCond .eq 14, 3) := by decide +kernel
theorem dN_wholeValue_42 : decode cN_wholeValue 42 = .ok (.aload_n 0, 1) := by decide +kernel
theorem dN_wholeValue_43 : decode cN_wholeValue 43 = .ok (.iload_n 2, 1) := by decide +kernel
theorem dN_wholeValue_44 : decode cN_wholeValue 44 = .ok (.invokevirtual 38, 3) := by decide +kernel
theorem dN_wholeValue_47 : decode cN_wholeValue 47 = .ok (.ifCond .eq 6, 3) := by decide +kernel
theorem dN_wholeValue_50 : decode cN_wholeValue 50 = .ok (.ldc 65, 2) := by decide +kernel
theorem dN_wholeValue_52 : decode cN_wholeValue 52 = .ok (.ireturn, 1) := by decide +kernel
theorem dN_wholeValue_53 : decode cN_wholeValue 53 = .ok (.iload_n 3, 1) := by decide +kernel
theorem dN_wholeValue_54 : decode cN_wholeValue 54 = .ok (.ifCond .eq 7, 3) := by decide +kernel
theorem dN_wholeValue_57 : decode cN_wholeValue 57 = .ok (.iload_n 1, 1) := by decide +kernel
theorem dN_wholeValue_58 : decode cN_wholeValue 58 = .ok (.goto 13, 3) := by decide +kernel
theorem dN_wholeValue_61 : decode cN_wholeValue 61 = .ok (.iload_n 1, 1) := by decide +kernel
theorem dN_wholeValue_62 : decode cN_wholeValue 62 = .ok (.bipush 10, 2) := by decide +kernel
theorem dN_wholeValue_64 : decode cN_wholeValue 64 = .ok (.imul, 1) := by decide +kernel
theorem dN_wholeValue_65 : decode cN_wholeValue 65 = .ok (.aload_n 0, 1) := by decide +kernel
theorem dN_wholeValue_66 : decode cN_wholeValue 66 = .ok (.iload_n 2, 1) := by decide +kernel
theorem dN_wholeValue_67 : decode cN_wholeValue 67 = .ok (.invokevirtual 38, 3) := by decide +kernel
theorem dN_wholeValue_70 : decode cN_wholeValue 70 = .ok (.iadd, 1) := by decide +kernel
theorem dN_wholeValue_71 : decode cN_wholeValue 71 = .ok (.istore_n 1, 1) := by decide +kernel
theorem dN_wholeValue_72 : decode cN_wholeValue 72 = .ok (.iinc 2 1, 3) := by decide +kernel
theorem dN_wholeValue_75 : decode cN_wholeValue 75 = .ok (.goto (-59), 3) := by decide +kernel
theorem dN_wholeValue_78 : decode cN_wholeValue 78 = .ok (.aload_n 0, 1) := by decide +kernel
theorem dN_wholeValue_79 : decode cN_wholeValue 79 = .ok (.getfield 15, 3) := by decide +kernel
theorem dN_wholeValue_82 : decode cN_wholeValue 82 = .ok (.istore_n 2, 1) := by decide +kernel
theorem dN_wholeValue_83 : decode cN_wholeValue 83 = .ok (.iload_n 2, 1) := by decide +kernel
theorem dN_wholeValue_84 : decode cN_wholeValue 84 = .ok (.ifCond .le 14, 3) := by decide +kernel
theorem dN_wholeValue_87 : decode cN_wholeValue 87 = .ok (.iload_n 1, 1) := by decide +kernel
theorem dN_wholeValue_88 : decode cN_wholeValue 88 = .ok (.bipush 10, 2) := by decide +kernel
theorem dN_wholeValue_90 : decode cN_wholeValue 90 = .ok (.imul, 1) := by decide +kernel
theorem dN_wholeValue_91 : decode cN_wholeValue 91 = .ok (.istore_n 1, 1) := by decide +kernel
theorem dN_wholeValue_92 : decode cN_wholeValue 92 = .ok (.iinc 2 (-1), 3) := by decide +kernel
theorem dN_wholeValue_95 : decode cN_wholeValue 95 = .ok (.goto (-12), 3) := by decide +kernel
theorem dN_wholeValue_98 : decode cN_wholeValue 98 = .ok (.aload_n 0, 1) := by decide +kernel
theorem dN_wholeValue_99 : decode cN_wholeValue 99 = .ok (.getfield 18, 3) := by decide +kernel
theorem dN_wholeValue_102 : decode cN_wholeValue 102 = .ok (.ifCond .ge 8, 3) := by decide +kernel
theorem dN_wholeValue_105 : decode cN_wholeValue 105 = .ok (.iload_n 1, 1) := by decide +kernel
theorem dN_wholeValue_106 : decode cN_wholeValue 106 = .ok (.ineg, 1) := by decide +kernel
theorem dN_wholeValue_107 : decode cN_wholeValue 107 = .ok (.goto 4, 3) := by decide +kernel
theorem dN_wholeValue_110 : decode cN_wholeValue 110 = .ok (.iload_n 1, 1) := by decide +kernel
theorem dN_wholeValue_111 : decode cN_wholeValue 111 = .ok (.ireturn, 1) := by decide +kernel
set_option maxHeartbeats 4000000 in
set_option maxRecDepth 100000 in
theorem b_N_clear {X : wk_X} {G : cGt} (hI : wd_inj (vC G)) (C : wk_C X (vC G) cN_clear RN 1 0 0) {v0 : Nat} {h : Hp} {q : Unit × Hp} (k_v0 : cNum v0) (hf : f_N_clear v0 h = some q) (hq : wk_Q X (vC G) none q.2 none) : WW X (vC G) h 0 [(0, .ref (cad G v0))] [] := by
  unfold f_N_clear at hf
  refine wk_aload_n C 0 dN_clear_0 rfl rfl ?_
  refine wk_iconst C dN_clear_1 kiconst_0 ?_
  refine pf_N_9 C k_v0 dN_clear_2 ?_
  refine wk_aload_n C 0 dN_clear_5 rfl rfl ?_
  refine wk_iconst C dN_clear_6 kiconst_0 ?_
  refine pf_N_15 C k_v0 dN_clear_7 ?_
  refine wk_aload_n C 0 dN_clear_10 rfl rfl ?_
  refine wk_iconst C dN_clear_11 kiconst_0 ?_
  refine pf_N_18 C k_v0 dN_clear_12 ?_
  cases hf
  exact wk_return C hq dN_clear_15
theorem m_N_clear {l : Launch} {G : cGt} (hI : wd_inj (vC G)) {v0 : Nat} {h h' : Hp} {r : Unit} (k_v0 : cNum v0) (hf : f_N_clear v0 h = some (r, h')) : wk_M l (vC G) yN_clear cN_clear 1 none 0 0 [.ref (cad G v0)] h none h' :=
  wk_met hI (by decide +kernel) rfl (Nat.le_of_ble_eq_true rfl) (wk_cat1 rfl) (fun X hX C hq => by subst hX; exact b_N_clear hI C k_v0 hf hq)
set_option maxHeartbeats 4000000 in
set_option maxRecDepth 100000 in
theorem b_N_push_16 {X : wk_X} {G : cGt} (hI : wd_inj (vC G)) (C : wk_C X (vC G) cN_push RN 3 0 0) {v0 : Nat} {v1 : Int32} {s0 : Int32} {h : Hp} {q : Unit × Hp} (k_v0 : cNum v0) (hf : f_N_push_16 v0 v1 s0 h = some q) (hq : wk_Q X (vC G) none q.2 none) : WW X (vC G) h 16 [(0, .ref (cad G v0)), (1, .int v1)] [.int s0] := by
  unfold f_N_push_16 at hf
  refine wk_istore_n C 2 dN_push_16 rfl (by decide) ?_
  refine wk_iload_n C 2 dN_push_17 rfl rfl ?_
  refine wk_if_eq (tgt := 60) C dN_push_18 rfl hf (fun c_18 hf => ?_) (fun c_18 hf => ?_)
  · cases hf
    exact wk_return C hq dN_push_60
  · refine wk_aload_n C 0 dN_push_21 rfl rfl ?_
    refine gf_N_9 C k_v0 dN_push_22 ?_
    refine wk_if_lt (tgt := 60) C dN_push_25 rfl hf (fun c_25 hf => ?_) (fun c_25 hf => ?_)
    · cases hf
      exact wk_return C hq dN_push_60
    · refine wk_aload_n C 0 dN_push_28 rfl rfl ?_
      refine gf_N_9 C k_v0 dN_push_29 ?_
      refine wk_aload_n C 0 dN_push_32 rfl rfl ?_
      refine gf_N_27 C k_v0 dN_push_33 ?_
      refine an_N C k_v0 dN_push_36 ?_
      refine wk_icmp_ge (tgt := 60) C dN_push_37 rfl hf (fun c_37 hf => ?_) (fun c_37 hf => ?_)
      · cases hf
        exact wk_return C hq dN_push_60
      · refine wk_aload_n C 0 dN_push_40 rfl rfl ?_
        refine gf_N_27 C k_v0 dN_push_41 ?_
        refine wk_aload_n C 0 dN_push_44 rfl rfl ?_
        refine gf_N_9 C k_v0 dN_push_45 ?_
        refine wk_iload_n C 1 dN_push_48 rfl rfl ?_
        obtain ⟨c_49, hf⟩ := chk_some hf
        refine as_N C k_v0 c_49 dN_push_49 ?_
        refine wk_aload_n C 0 dN_push_50 rfl rfl ?_
        refine wk_dup C dN_push_51 rfl ?_
        refine gf_N_9 C k_v0 dN_push_52 ?_
        refine wk_iconst C dN_push_55 kiconst_1 ?_
        refine wk_iadd C dN_push_56 ?_
        refine pf_N_9 C k_v0 dN_push_57 ?_
        cases hf
        exact wk_return C hq dN_push_60
set_option maxHeartbeats 4000000 in
set_option maxRecDepth 100000 in
theorem b_N_push {X : wk_X} {G : cGt} (hI : wd_inj (vC G)) (C : wk_C X (vC G) cN_push RN 3 0 0) {v0 : Nat} {v1 : Int32} {h : Hp} {q : Unit × Hp} (k_v0 : cNum v0) (hf : f_N_push v0 v1 h = some q) (hq : wk_Q X (vC G) none q.2 none) : WW X (vC G) h 0 [(0, .ref (cad G v0)), (1, .int v1)] [] := by
  unfold f_N_push at hf
  refine wk_aload_n C 0 dN_push_0 rfl rfl ?_
  refine gf_N_9 C k_v0 dN_push_1 ?_
  refine wk_if_gt (tgt := 11) C dN_push_4 rfl hf (fun c_4 hf => ?_) (fun c_4 hf => ?_)
  · refine wk_iconst C dN_push_11 kiconst_1 ?_
    refine wk_goto (tgt := 16) C dN_push_12 rfl ?_
    exact wk_go (b_N_push_16 hI C k_v0 hf hq) (And.intro rfl (And.intro rfl trivial))
  · refine wk_iload_n C 1 dN_push_7 rfl rfl ?_
    refine wk_if_eq (tgt := 15) C dN_push_8 rfl hf (fun c_8 hf => ?_) (fun c_8 hf => ?_)
    · refine wk_iconst C dN_push_15 kiconst_0 ?_
      exact wk_go (b_N_push_16 hI C k_v0 hf hq) (And.intro rfl (And.intro rfl trivial))
    · refine wk_iconst C dN_push_11 kiconst_1 ?_
      refine wk_goto (tgt := 16) C dN_push_12 rfl ?_
      exact wk_go (b_N_push_16 hI C k_v0 hf hq) (And.intro rfl (And.intro rfl trivial))
theorem m_N_push {l : Launch} {G : cGt} (hI : wd_inj (vC G)) {v0 : Nat} {v1 : Int32} {h h' : Hp} {r : Unit} (k_v0 : cNum v0) (hf : f_N_push v0 v1 h = some (r, h')) : wk_M l (vC G) yN_push cN_push 3 none 0 0 [.ref (cad G v0), .int v1] h none h' :=
  wk_met hI (by decide +kernel) rfl (Nat.le_of_ble_eq_true rfl) (wk_cat1 rfl) (fun X hX C hq => by subst hX; exact b_N_push hI C k_v0 hf hq)
set_option maxHeartbeats 4000000 in
set_option maxRecDepth 100000 in
theorem b_N_becomeUnit {X : wk_X} {G : cGt} (hI : wd_inj (vC G)) (C : wk_C X (vC G) cN_becomeUnit RN 2 1 22) {v0 : Nat} {v1 : Int32} {h : Hp} {q : Unit × Hp} (k_v0 : cNum v0) (hf : f_N_becomeUnit v0 v1 h = some q) (hq : wk_Q X (vC G) none q.2 none) : WW X (vC G) h 0 [(0, .ref (cad G v0)), (1, .int v1)] [] := by
  unfold f_N_becomeUnit at hf
  refine wk_aload_n C 0 dN_becomeUnit_0 rfl rfl ?_
  obtain ⟨r1, h1, e_1, hf⟩ := bd_some hf
  refine wk_callV (As := []) (rest := []) C lw_good cw_N_31 wi_N_clear (m_N_clear hI k_v0 e_1) (lz_cNum k_v0) (he_cNum k_v0) rfl rfl rfl (Nat.le_of_ble_eq_true rfl) (by decide) dN_becomeUnit_1 ?_
  refine wk_iload_n C 1 dN_becomeUnit_4 rfl rfl ?_
  refine wk_if_eq (tgt := 18) C dN_becomeUnit_5 rfl hf (fun c_5 hf => ?_) (fun c_5 hf => ?_)
  · cases hf
    exact wk_return C hq dN_becomeUnit_18
  · refine wk_aload_n C 0 dN_becomeUnit_8 rfl rfl ?_
    refine wk_iconst C dN_becomeUnit_9 kiconst_1 ?_
    obtain ⟨r10, h10, e_10, hf⟩ := bd_some hf
    refine wk_callV (As := [.int 1]) (rest := []) C lw_good cw_N_34 wi_N_push (m_N_push hI k_v0 e_10) (lz_cNum k_v0) (he_cNum k_v0) rfl rfl rfl (Nat.le_of_ble_eq_true rfl) (by decide) dN_becomeUnit_10 ?_
    refine wk_aload_n C 0 dN_becomeUnit_13 rfl rfl ?_
    refine wk_iload_n C 1 dN_becomeUnit_14 rfl rfl ?_
    refine pf_N_18 C k_v0 dN_becomeUnit_15 ?_
    cases hf
    exact wk_return C hq dN_becomeUnit_18
theorem m_N_becomeUnit {l : Launch} {G : cGt} (hI : wd_inj (vC G)) {v0 : Nat} {v1 : Int32} {h h' : Hp} {r : Unit} (k_v0 : cNum v0) (hf : f_N_becomeUnit v0 v1 h = some (r, h')) : wk_M l (vC G) yN_becomeUnit cN_becomeUnit 2 none 1 22 [.ref (cad G v0), .int v1] h none h' :=
  wk_met hI (by decide +kernel) rfl (Nat.le_of_ble_eq_true rfl) (wk_cat1 rfl) (fun X hX C hq => by subst hX; exact b_N_becomeUnit hI C k_v0 hf hq)
set_option maxHeartbeats 4000000 in
set_option maxRecDepth 100000 in
theorem b_N_settle_13 {X : wk_X} {G : cGt} (hI : wd_inj (vC G)) (C : wk_C X (vC G) cN_settle RN 3 0 0) {v0 : Nat} {v2 : Int32} {s0 : Nat} {s1 : Int32} {h : Hp} {q : Unit × Hp} (k_v0 : cNum v0) (k_s0 : cNum s0) (hf : f_N_settle_13 v0 v2 s0 s1 h = some q) (hq : wk_Q X (vC G) none q.2 none) : WW X (vC G) h 13 [(0, .ref (cad G v0)), (2, .int v2)] [.int s1, .ref (cad G s0)] := by
  unfold f_N_settle_13 at hf
  refine pf_N_18 C k_s0 dN_settle_13 ?_
  refine wk_aload_n C 0 dN_settle_16 rfl rfl ?_
  refine wk_aload_n C 0 dN_settle_17 rfl rfl ?_
  refine gf_N_9 C k_v0 dN_settle_18 ?_
  refine wk_if_ne (tgt := 28) C dN_settle_21 rfl hf (fun c_21 hf => ?_) (fun c_21 hf => ?_)
  · refine wk_iload_n C 2 dN_settle_28 rfl rfl ?_
    refine pf_N_15 C k_v0 dN_settle_29 ?_
    cases hf
    exact wk_return C hq dN_settle_32
  · refine wk_iconst C dN_settle_24 kiconst_0 ?_
    refine wk_goto (tgt := 29) C dN_settle_25 rfl ?_
    refine pf_N_15 C k_v0 dN_settle_29 ?_
    cases hf
    exact wk_return C hq dN_settle_32
set_option maxHeartbeats 4000000 in
set_option maxRecDepth 100000 in
theorem b_N_settle {X : wk_X} {G : cGt} (hI : wd_inj (vC G)) (C : wk_C X (vC G) cN_settle RN 3 0 0) {v0 : Nat} {v1 : Int32} {v2 : Int32} {h : Hp} {q : Unit × Hp} (k_v0 : cNum v0) (hf : f_N_settle v0 v1 v2 h = some q) (hq : wk_Q X (vC G) none q.2 none) : WW X (vC G) h 0 [(0, .ref (cad G v0)), (1, .int v1), (2, .int v2)] [] := by
  unfold f_N_settle at hf
  refine wk_aload_n C 0 dN_settle_0 rfl rfl ?_
  refine wk_aload_n C 0 dN_settle_1 rfl rfl ?_
  refine gf_N_9 C k_v0 dN_settle_2 ?_
  refine wk_if_ne (tgt := 12) C dN_settle_5 rfl hf (fun c_5 hf => ?_) (fun c_5 hf => ?_)
  · refine wk_iload_n C 1 dN_settle_12 rfl rfl ?_
    exact wk_go (b_N_settle_13 hI C k_v0 k_v0 hf hq) (And.intro rfl (And.intro rfl trivial))
  · refine wk_iconst C dN_settle_8 kiconst_0 ?_
    refine wk_goto (tgt := 13) C dN_settle_9 rfl ?_
    exact wk_go (b_N_settle_13 hI C k_v0 k_v0 hf hq) (And.intro rfl (And.intro rfl trivial))
theorem m_N_settle {l : Launch} {G : cGt} (hI : wd_inj (vC G)) {v0 : Nat} {v1 : Int32} {v2 : Int32} {h h' : Hp} {r : Unit} (k_v0 : cNum v0) (hf : f_N_settle v0 v1 v2 h = some (r, h')) : wk_M l (vC G) yN_settle cN_settle 3 none 0 0 [.ref (cad G v0), .int v1, .int v2] h none h' :=
  wk_met hI (by decide +kernel) rfl (Nat.le_of_ble_eq_true rfl) (wk_cat1 rfl) (fun X hX C hq => by subst hX; exact b_N_settle hI C k_v0 hf hq)
set_option maxHeartbeats 4000000 in
set_option maxRecDepth 100000 in
theorem b_N_digit {X : wk_X} {G : cGt} (hI : wd_inj (vC G)) (C : wk_C X (vC G) cN_digit RN 2 0 0) {v0 : Nat} {v1 : Int32} {h : Hp} {q : Int32 × Hp} (k_v0 : cNum v0) (hf : f_N_digit v0 v1 h = some q) (hq : wk_Q X (vC G) (some (.int q.1)) q.2 (some .int)) : WW X (vC G) h 0 [(0, .ref (cad G v0)), (1, .int v1)] [] := by
  unfold f_N_digit at hf
  refine wk_iload_n C 1 dN_digit_0 rfl rfl ?_
  refine wk_if_lt (tgt := 21) C dN_digit_1 rfl hf (fun c_1 hf => ?_) (fun c_1 hf => ?_)
  · refine wk_iconst C dN_digit_21 kiconst_0 ?_
    refine wk_goto (tgt := 31) C dN_digit_22 rfl ?_
    cases hf
    exact wk_ireturn C hq dN_digit_31
  · refine wk_iload_n C 1 dN_digit_4 rfl rfl ?_
    refine wk_aload_n C 0 dN_digit_5 rfl rfl ?_
    refine gf_N_9 C k_v0 dN_digit_6 ?_
    refine wk_icmp_ge (tgt := 21) C dN_digit_9 rfl hf (fun c_9 hf => ?_) (fun c_9 hf => ?_)
    · refine wk_iconst C dN_digit_21 kiconst_0 ?_
      refine wk_goto (tgt := 31) C dN_digit_22 rfl ?_
      cases hf
      exact wk_ireturn C hq dN_digit_31
    · refine wk_iload_n C 1 dN_digit_12 rfl rfl ?_
      refine wk_aload_n C 0 dN_digit_13 rfl rfl ?_
      refine gf_N_27 C k_v0 dN_digit_14 ?_
      refine an_N C k_v0 dN_digit_17 ?_
      refine wk_icmp_lt (tgt := 25) C dN_digit_18 rfl hf (fun c_18 hf => ?_) (fun c_18 hf => ?_)
      · refine wk_aload_n C 0 dN_digit_25 rfl rfl ?_
        refine gf_N_27 C k_v0 dN_digit_26 ?_
        refine wk_iload_n C 1 dN_digit_29 rfl rfl ?_
        obtain ⟨c_30, hf⟩ := chk_some hf
        refine al_N C k_v0 c_30 dN_digit_30 ?_
        cases hf
        exact wk_ireturn C hq dN_digit_31
      · refine wk_iconst C dN_digit_21 kiconst_0 ?_
        refine wk_goto (tgt := 31) C dN_digit_22 rfl ?_
        cases hf
        exact wk_ireturn C hq dN_digit_31
theorem m_N_digit {l : Launch} {G : cGt} (hI : wd_inj (vC G)) {v0 : Nat} {v1 : Int32} {h h' : Hp} {r : Int32} (k_v0 : cNum v0) (hf : f_N_digit v0 v1 h = some (r, h')) : wk_M l (vC G) yN_digit cN_digit 2 (some .int) 0 0 [.ref (cad G v0), .int v1] h (some (.int r)) h' :=
  wk_met hI (by decide +kernel) rfl (Nat.le_of_ble_eq_true rfl) (wk_cat1 rfl) (fun X hX C hq => by subst hX; exact b_N_digit hI C k_v0 hf hq)
set_option maxHeartbeats 4000000 in
set_option maxRecDepth 100000 in
theorem b_N_copy_6 {X : wk_X} {G : cGt} (hI : wd_inj (vC G)) (C : wk_C X (vC G) cN_copy RN 3 1 22) : ∀ (n : Nat) {v0 : Nat} {v1 : Nat} {v2 : Int32} {h : Hp} {q : Unit × Hp} (k_v0 : cNum v0) (k_v1 : cNum v1) (hf : f_N_copy_6 n v0 v1 v2 h = some q) (hq : wk_Q X (vC G) none q.2 none), WW X (vC G) h 6 [(0, .ref (cad G v0)), (1, .ref (cad G v1)), (2, .int v2)] [] := by
  intro n
  induction n with
  | zero =>
    intros
    rename_i hf _
    cases hf
  | succ n ih =>
    intro v0 v1 v2 h q k_v0 k_v1 hf hq
    rw [f_N_copy_6] at hf
    refine wk_iload_n C 2 dN_copy_6 rfl rfl ?_
    refine wk_aload_n C 1 dN_copy_7 rfl rfl ?_
    refine gf_N_9 C k_v1 dN_copy_8 ?_
    refine wk_icmp_ge (tgt := 29) C dN_copy_11 rfl hf (fun c_11 hf => ?_) (fun c_11 hf => ?_)
    · refine wk_aload_n C 0 dN_copy_29 rfl rfl ?_
      refine wk_aload_n C 1 dN_copy_30 rfl rfl ?_
      refine gf_N_18 C k_v1 dN_copy_31 ?_
      refine wk_aload_n C 1 dN_copy_34 rfl rfl ?_
      refine gf_N_15 C k_v1 dN_copy_35 ?_
      obtain ⟨r38, h38, e_38, hf⟩ := bd_some hf
      refine wk_callV (As := [.int (h v1 3), .int (h v1 2)]) (rest := []) C lw_good cw_N_42 wi_N_settle (m_N_settle hI k_v0 e_38) (lz_cNum k_v0) (he_cNum k_v0) rfl rfl rfl (Nat.le_of_ble_eq_true rfl) (by decide) dN_copy_38 ?_
      cases hf
      exact wk_return C hq dN_copy_41
    · refine wk_aload_n C 0 dN_copy_14 rfl rfl ?_
      refine wk_aload_n C 1 dN_copy_15 rfl rfl ?_
      refine wk_iload_n C 2 dN_copy_16 rfl rfl ?_
      obtain ⟨r17, h17, e_17, hf⟩ := bd_some hf
      refine wk_callV (As := [.int v2]) (rest := [.ref (cad G v0)]) C lw_good cw_N_38 wi_N_digit (m_N_digit hI k_v1 e_17) (lz_cNum k_v1) (he_cNum k_v1) rfl rfl rfl (Nat.le_of_ble_eq_true rfl) (by decide) dN_copy_17 ?_
      obtain ⟨r20, h20, e_20, hf⟩ := bd_some hf
      refine wk_callV (As := [.int r17]) (rest := []) C lw_good cw_N_34 wi_N_push (m_N_push hI k_v0 e_20) (lz_cNum k_v0) (he_cNum k_v0) rfl rfl rfl (Nat.le_of_ble_eq_true rfl) (by decide) dN_copy_20 ?_
      refine wk_iinc C dN_copy_23 rfl kiconst_1 (by decide) ?_
      refine wk_goto (tgt := 6) C dN_copy_26 rfl ?_
      exact wk_go (ih k_v0 k_v1 hf hq) (And.intro rfl (And.intro rfl (And.intro rfl trivial)))
set_option maxHeartbeats 4000000 in
set_option maxRecDepth 100000 in
theorem b_N_copy {X : wk_X} {G : cGt} (hI : wd_inj (vC G)) (C : wk_C X (vC G) cN_copy RN 3 1 22) {v0 : Nat} {v1 : Nat} {h : Hp} {q : Unit × Hp} (k_v0 : cNum v0) (k_v1 : cNum v1) (hf : f_N_copy v0 v1 h = some q) (hq : wk_Q X (vC G) none q.2 none) : WW X (vC G) h 0 [(0, .ref (cad G v0)), (1, .ref (cad G v1))] [] := by
  unfold f_N_copy at hf
  refine wk_aload_n C 0 dN_copy_0 rfl rfl ?_
  obtain ⟨r1, h1, e_1, hf⟩ := bd_some hf
  refine wk_callV (As := []) (rest := []) C lw_good cw_N_31 wi_N_clear (m_N_clear hI k_v0 e_1) (lz_cNum k_v0) (he_cNum k_v0) rfl rfl rfl (Nat.le_of_ble_eq_true rfl) (by decide) dN_copy_1 ?_
  refine wk_iconst C dN_copy_4 kiconst_0 ?_
  refine wk_istore_n C 2 dN_copy_5 rfl (by decide) ?_
  exact wk_go (b_N_copy_6 hI C fuel k_v0 k_v1 hf hq) (And.intro rfl (And.intro rfl (And.intro rfl trivial)))
theorem m_N_copy {l : Launch} {G : cGt} (hI : wd_inj (vC G)) {v0 : Nat} {v1 : Nat} {h h' : Hp} {r : Unit} (k_v0 : cNum v0) (k_v1 : cNum v1) (hf : f_N_copy v0 v1 h = some (r, h')) : wk_M l (vC G) yN_copy cN_copy 3 none 1 22 [.ref (cad G v0), .ref (cad G v1)] h none h' :=
  wk_met hI (by decide +kernel) rfl (Nat.le_of_ble_eq_true rfl) (wk_cat1 rfl) (fun X hX C hq => by subst hX; exact b_N_copy hI C k_v0 k_v1 hf hq)
set_option maxHeartbeats 4000000 in
set_option maxRecDepth 100000 in
theorem b_N_digitAtPower {X : wk_X} {G : cGt} (hI : wd_inj (vC G)) (C : wk_C X (vC G) cN_digitAtPower RN 2 1 21) {v0 : Nat} {v1 : Int32} {h : Hp} {q : Int32 × Hp} (k_v0 : cNum v0) (hf : f_N_digitAtPower v0 v1 h = some q) (hq : wk_Q X (vC G) (some (.int q.1)) q.2 (some .int)) : WW X (vC G) h 0 [(0, .ref (cad G v0)), (1, .int v1)] [] := by
  unfold f_N_digitAtPower at hf
  refine wk_aload_n C 0 dN_digitAtPower_0 rfl rfl ?_
  refine wk_aload_n C 0 dN_digitAtPower_1 rfl rfl ?_
  refine gf_N_9 C k_v0 dN_digitAtPower_2 ?_
  refine wk_iconst C dN_digitAtPower_5 kiconst_1 ?_
  refine wk_isub C dN_digitAtPower_6 ?_
  refine wk_iload_n C 1 dN_digitAtPower_7 rfl rfl ?_
  refine wk_aload_n C 0 dN_digitAtPower_8 rfl rfl ?_
  refine gf_N_15 C k_v0 dN_digitAtPower_9 ?_
  refine wk_isub C dN_digitAtPower_12 ?_
  refine wk_isub C dN_digitAtPower_13 ?_
  obtain ⟨r14, h14, e_14, hf⟩ := bd_some hf
  refine wk_callV (As := [.int (((h v0 1) - 1) - (v1 - (h v0 2)))]) (rest := []) C lw_good cw_N_38 wi_N_digit (m_N_digit hI k_v0 e_14) (lz_cNum k_v0) (he_cNum k_v0) rfl rfl rfl (Nat.le_of_ble_eq_true rfl) (by decide) dN_digitAtPower_14 ?_
  cases hf
  exact wk_ireturn C hq dN_digitAtPower_17
theorem m_N_digitAtPower {l : Launch} {G : cGt} (hI : wd_inj (vC G)) {v0 : Nat} {v1 : Int32} {h h' : Hp} {r : Int32} (k_v0 : cNum v0) (hf : f_N_digitAtPower v0 v1 h = some (r, h')) : wk_M l (vC G) yN_digitAtPower cN_digitAtPower 2 (some .int) 1 21 [.ref (cad G v0), .int v1] h (some (.int r)) h' :=
  wk_met hI (by decide +kernel) rfl (Nat.le_of_ble_eq_true rfl) (wk_cat1 rfl) (fun X hX C hq => by subst hX; exact b_N_digitAtPower hI C k_v0 hf hq)
set_option maxHeartbeats 4000000 in
set_option maxRecDepth 100000 in
theorem b_N_ahead {X : wk_X} {G : cGt} (hI : wd_inj (vC G)) (C : wk_C X (vC G) cN_ahead RN 1 0 0) {v0 : Nat} {h : Hp} {q : Int32 × Hp} (k_v0 : cNum v0) (hf : f_N_ahead v0 h = some q) (hq : wk_Q X (vC G) (some (.int q.1)) q.2 (some .int)) : WW X (vC G) h 0 [(0, .ref (cad G v0))] [] := by
  unfold f_N_ahead at hf
  refine wk_aload_n C 0 dN_ahead_0 rfl rfl ?_
  refine gf_N_9 C k_v0 dN_ahead_1 ?_
  refine wk_aload_n C 0 dN_ahead_4 rfl rfl ?_
  refine gf_N_15 C k_v0 dN_ahead_5 ?_
  refine wk_iadd C dN_ahead_8 ?_
  cases hf
  exact wk_ireturn C hq dN_ahead_9
theorem m_N_ahead {l : Launch} {G : cGt} (hI : wd_inj (vC G)) {v0 : Nat} {h h' : Hp} {r : Int32} (k_v0 : cNum v0) (hf : f_N_ahead v0 h = some (r, h')) : wk_M l (vC G) yN_ahead cN_ahead 1 (some .int) 0 0 [.ref (cad G v0)] h (some (.int r)) h' :=
  wk_met hI (by decide +kernel) rfl (Nat.le_of_ble_eq_true rfl) (wk_cat1 rfl) (fun X hX C hq => by subst hX; exact b_N_ahead hI C k_v0 hf hq)
set_option maxHeartbeats 4000000 in
set_option maxRecDepth 100000 in
theorem b_N_places {X : wk_X} {G : cGt} (hI : wd_inj (vC G)) (C : wk_C X (vC G) cN_places RN 1 0 0) {v0 : Nat} {h : Hp} {q : Int32 × Hp} (k_v0 : cNum v0) (hf : f_N_places v0 h = some q) (hq : wk_Q X (vC G) (some (.int q.1)) q.2 (some .int)) : WW X (vC G) h 0 [(0, .ref (cad G v0))] [] := by
  unfold f_N_places at hf
  refine wk_aload_n C 0 dN_places_0 rfl rfl ?_
  refine gf_N_15 C k_v0 dN_places_1 ?_
  refine wk_if_ge (tgt := 15) C dN_places_4 rfl hf (fun c_4 hf => ?_) (fun c_4 hf => ?_)
  · refine wk_iconst C dN_places_15 kiconst_0 ?_
    cases hf
    exact wk_ireturn C hq dN_places_16
  · refine wk_aload_n C 0 dN_places_7 rfl rfl ?_
    refine gf_N_15 C k_v0 dN_places_8 ?_
    refine wk_ineg C dN_places_11 ?_
    refine wk_goto (tgt := 16) C dN_places_12 rfl ?_
    cases hf
    exact wk_ireturn C hq dN_places_16
theorem m_N_places {l : Launch} {G : cGt} (hI : wd_inj (vC G)) {v0 : Nat} {h h' : Hp} {r : Int32} (k_v0 : cNum v0) (hf : f_N_places v0 h = some (r, h')) : wk_M l (vC G) yN_places cN_places 1 (some .int) 0 0 [.ref (cad G v0)] h (some (.int r)) h' :=
  wk_met hI (by decide +kernel) rfl (Nat.le_of_ble_eq_true rfl) (wk_cat1 rfl) (fun X hX C hq => by subst hX; exact b_N_places hI C k_v0 hf hq)
set_option maxHeartbeats 4000000 in
set_option maxRecDepth 100000 in
theorem b_N_firstPower {X : wk_X} {G : cGt} (hI : wd_inj (vC G)) (C : wk_C X (vC G) cN_firstPower RN 1 0 0) {v0 : Nat} {h : Hp} {q : Int32 × Hp} (k_v0 : cNum v0) (hf : f_N_firstPower v0 h = some q) (hq : wk_Q X (vC G) (some (.int q.1)) q.2 (some .int)) : WW X (vC G) h 0 [(0, .ref (cad G v0))] [] := by
  unfold f_N_firstPower at hf
  refine wk_aload_n C 0 dN_firstPower_0 rfl rfl ?_
  refine gf_N_9 C k_v0 dN_firstPower_1 ?_
  refine wk_if_ne (tgt := 11) C dN_firstPower_4 rfl hf (fun c_4 hf => ?_) (fun c_4 hf => ?_)
  · refine wk_aload_n C 0 dN_firstPower_11 rfl rfl ?_
    refine gf_N_9 C k_v0 dN_firstPower_12 ?_
    refine wk_aload_n C 0 dN_firstPower_15 rfl rfl ?_
    refine gf_N_15 C k_v0 dN_firstPower_16 ?_
    refine wk_iadd C dN_firstPower_19 ?_
    refine wk_iconst C dN_firstPower_20 kiconst_1 ?_
    refine wk_isub C dN_firstPower_21 ?_
    cases hf
    exact wk_ireturn C hq dN_firstPower_22
  · refine wk_iconst C dN_firstPower_7 kiconst_0 ?_
    refine wk_goto (tgt := 22) C dN_firstPower_8 rfl ?_
    cases hf
    exact wk_ireturn C hq dN_firstPower_22
theorem m_N_firstPower {l : Launch} {G : cGt} (hI : wd_inj (vC G)) {v0 : Nat} {h h' : Hp} {r : Int32} (k_v0 : cNum v0) (hf : f_N_firstPower v0 h = some (r, h')) : wk_M l (vC G) yN_firstPower cN_firstPower 1 (some .int) 0 0 [.ref (cad G v0)] h (some (.int r)) h' :=
  wk_met hI (by decide +kernel) rfl (Nat.le_of_ble_eq_true rfl) (wk_cat1 rfl) (fun X hX C hq => by subst hX; exact b_N_firstPower hI C k_v0 hf hq)
set_option maxHeartbeats 4000000 in
set_option maxRecDepth 100000 in
theorem b_N_countUp_43 {X : wk_X} {G : cGt} (hI : wd_inj (vC G)) (C : wk_C X (vC G) cN_countUp RN 2 1 13) {v0 : Nat} {v1 : Int32} {h : Hp} {q : Unit × Hp} (k_v0 : cNum v0) (hf : f_N_countUp_43 v0 v1 h = some q) (hq : wk_Q X (vC G) none q.2 none) : WW X (vC G) h 43 [(0, .ref (cad G v0)), (1, .int v1)] [] := by
  unfold f_N_countUp_43 at hf
  refine wk_iload_n C 1 dN_countUp_43 rfl rfl ?_
  refine wk_if_lt (tgt := 60) C dN_countUp_44 rfl hf (fun c_44 hf => ?_) (fun c_44 hf => ?_)
  · refine wk_aload_n C 0 dN_countUp_60 rfl rfl ?_
    refine gf_N_27 C k_v0 dN_countUp_61 ?_
    refine wk_iconst C dN_countUp_64 kiconst_0 ?_
    refine wk_iconst C dN_countUp_65 kiconst_1 ?_
    obtain ⟨c_66, hf⟩ := chk_some hf
    refine as_N C k_v0 c_66 dN_countUp_66 ?_
    refine wk_aload_n C 0 dN_countUp_67 rfl rfl ?_
    refine wk_dup C dN_countUp_68 rfl ?_
    refine gf_N_15 C k_v0 dN_countUp_69 ?_
    refine wk_iconst C dN_countUp_72 kiconst_1 ?_
    refine wk_iadd C dN_countUp_73 ?_
    refine pf_N_15 C k_v0 dN_countUp_74 ?_
    cases hf
    exact wk_return C hq dN_countUp_77
  · refine wk_aload_n C 0 dN_countUp_47 rfl rfl ?_
    refine gf_N_27 C k_v0 dN_countUp_48 ?_
    refine wk_iload_n C 1 dN_countUp_51 rfl rfl ?_
    refine wk_dup2 C dN_countUp_52 rfl rfl ?_
    obtain ⟨c_53, hf⟩ := chk_some hf
    refine al_N C k_v0 c_53 dN_countUp_53 ?_
    refine wk_iconst C dN_countUp_54 kiconst_1 ?_
    refine wk_iadd C dN_countUp_55 ?_
    obtain ⟨c_56, hf⟩ := chk_some hf
    refine as_N C k_v0 c_56 dN_countUp_56 ?_
    refine wk_goto (tgt := 77) C dN_countUp_57 rfl ?_
    cases hf
    exact wk_return C hq dN_countUp_77
set_option maxHeartbeats 4000000 in
set_option maxRecDepth 100000 in
theorem b_N_countUp_15 {X : wk_X} {G : cGt} (hI : wd_inj (vC G)) (C : wk_C X (vC G) cN_countUp RN 2 1 13) : ∀ (n : Nat) {v0 : Nat} {v1 : Int32} {h : Hp} {q : Unit × Hp} (k_v0 : cNum v0) (hf : f_N_countUp_15 n v0 v1 h = some q) (hq : wk_Q X (vC G) none q.2 none), WW X (vC G) h 15 [(0, .ref (cad G v0)), (1, .int v1)] [] := by
  intro n
  induction n with
  | zero =>
    intros
    rename_i hf _
    cases hf
  | succ n ih =>
    intro v0 v1 h q k_v0 hf hq
    rw [f_N_countUp_15] at hf
    refine wk_iload_n C 1 dN_countUp_15 rfl rfl ?_
    refine wk_if_lt (tgt := 43) C dN_countUp_16 rfl hf (fun c_16 hf => ?_) (fun c_16 hf => ?_)
    · exact wk_go (b_N_countUp_43 hI C k_v0 hf hq) (And.intro rfl (And.intro rfl trivial))
    · refine wk_aload_n C 0 dN_countUp_19 rfl rfl ?_
      refine gf_N_27 C k_v0 dN_countUp_20 ?_
      refine wk_iload_n C 1 dN_countUp_23 rfl rfl ?_
      obtain ⟨c_24, hf⟩ := chk_some hf
      refine al_N C k_v0 c_24 dN_countUp_24 ?_
      refine wk_bipush C dN_countUp_25 kbipush_9 ?_
      refine wk_icmp_ne (tgt := 43) C dN_countUp_27 rfl hf (fun c_27 hf => ?_) (fun c_27 hf => ?_)
      · exact wk_go (b_N_countUp_43 hI C k_v0 hf hq) (And.intro rfl (And.intro rfl trivial))
      · refine wk_aload_n C 0 dN_countUp_30 rfl rfl ?_
        refine gf_N_27 C k_v0 dN_countUp_31 ?_
        refine wk_iload_n C 1 dN_countUp_34 rfl rfl ?_
        refine wk_iconst C dN_countUp_35 kiconst_0 ?_
        obtain ⟨c_36, hf⟩ := chk_some hf
        refine as_N C k_v0 c_36 dN_countUp_36 ?_
        refine wk_iinc C dN_countUp_37 rfl kiconst_m1 (by decide) ?_
        refine wk_goto (tgt := 15) C dN_countUp_40 rfl ?_
        exact wk_go (ih k_v0 hf hq) (And.intro rfl (And.intro rfl trivial))
set_option maxHeartbeats 4000000 in
set_option maxRecDepth 100000 in
theorem b_N_countUp {X : wk_X} {G : cGt} (hI : wd_inj (vC G)) (C : wk_C X (vC G) cN_countUp RN 2 1 13) {v0 : Nat} {h : Hp} {q : Unit × Hp} (k_v0 : cNum v0) (hf : f_N_countUp v0 h = some q) (hq : wk_Q X (vC G) none q.2 none) : WW X (vC G) h 0 [(0, .ref (cad G v0))] [] := by
  unfold f_N_countUp at hf
  refine wk_aload_n C 0 dN_countUp_0 rfl rfl ?_
  refine gf_N_9 C k_v0 dN_countUp_1 ?_
  refine wk_aload_n C 0 dN_countUp_4 rfl rfl ?_
  refine gf_N_27 C k_v0 dN_countUp_5 ?_
  refine an_N C k_v0 dN_countUp_8 ?_
  refine wk_mmin C mw_N_62 ⟨Nat.le_of_ble_eq_true rfl, Nat.le_of_ble_eq_true rfl⟩ dN_countUp_9 ?_
  refine wk_iconst C dN_countUp_12 kiconst_1 ?_
  refine wk_isub C dN_countUp_13 ?_
  refine wk_istore_n C 1 dN_countUp_14 rfl (by decide) ?_
  exact wk_go (b_N_countUp_15 hI C fuel k_v0 hf hq) (And.intro rfl (And.intro rfl trivial))
theorem m_N_countUp {l : Launch} {G : cGt} (hI : wd_inj (vC G)) {v0 : Nat} {h h' : Hp} {r : Unit} (k_v0 : cNum v0) (hf : f_N_countUp v0 h = some (r, h')) : wk_M l (vC G) yN_countUp cN_countUp 2 none 1 13 [.ref (cad G v0)] h none h' :=
  wk_met hI (by decide +kernel) rfl (Nat.le_of_ble_eq_true rfl) (wk_cat1 rfl) (fun X hX C hq => by subst hX; exact b_N_countUp hI C k_v0 hf hq)
set_option maxHeartbeats 4000000 in
set_option maxRecDepth 100000 in
theorem b_N_roundTo_28 {X : wk_X} {G : cGt} (hI : wd_inj (vC G)) (C : wk_C X (vC G) cN_roundTo RN 3 2 34) {v0 : Nat} {v1 : Int32} {s0 : Int32} {h : Hp} {q : Unit × Hp} (k_v0 : cNum v0) (hf : f_N_roundTo_28 v0 v1 s0 h = some q) (hq : wk_Q X (vC G) none q.2 none) : WW X (vC G) h 28 [(0, .ref (cad G v0)), (1, .int v1)] [.int s0] := by
  unfold f_N_roundTo_28 at hf
  refine wk_istore_n C 2 dN_roundTo_28 rfl (by decide) ?_
  refine wk_aload_n C 0 dN_roundTo_29 rfl rfl ?_
  refine wk_dup C dN_roundTo_30 rfl ?_
  refine gf_N_15 C k_v0 dN_roundTo_31 ?_
  refine wk_aload_n C 0 dN_roundTo_34 rfl rfl ?_
  refine gf_N_9 C k_v0 dN_roundTo_35 ?_
  refine wk_iload_n C 1 dN_roundTo_38 rfl rfl ?_
  refine wk_isub C dN_roundTo_39 ?_
  refine wk_iadd C dN_roundTo_40 ?_
  refine pf_N_15 C k_v0 dN_roundTo_41 ?_
  refine wk_aload_n C 0 dN_roundTo_44 rfl rfl ?_
  refine wk_iload_n C 1 dN_roundTo_45 rfl rfl ?_
  refine pf_N_9 C k_v0 dN_roundTo_46 ?_
  refine wk_iload_n C 2 dN_roundTo_49 rfl rfl ?_
  refine wk_if_eq (tgt := 57) C dN_roundTo_50 rfl hf (fun c_50 hf => ?_) (fun c_50 hf => ?_)
  · cases hf
    exact wk_return C hq dN_roundTo_57
  · refine wk_aload_n C 0 dN_roundTo_53 rfl rfl ?_
    obtain ⟨r54, h54, e_54, hf⟩ := bd_some hf
    refine wk_callV (As := []) (rest := []) C lw_good cw_N_46 wi_N_countUp (m_N_countUp hI k_v0 e_54) (lz_cNum k_v0) (he_cNum k_v0) rfl rfl rfl (Nat.le_of_ble_eq_true rfl) (by decide) dN_roundTo_54 ?_
    cases hf
    exact wk_return C hq dN_roundTo_57
set_option maxHeartbeats 4000000 in
set_option maxRecDepth 100000 in
theorem b_N_roundTo {X : wk_X} {G : cGt} (hI : wd_inj (vC G)) (C : wk_C X (vC G) cN_roundTo RN 3 2 34) {v0 : Nat} {v1 : Int32} {h : Hp} {q : Unit × Hp} (k_v0 : cNum v0) (hf : f_N_roundTo v0 v1 h = some q) (hq : wk_Q X (vC G) none q.2 none) : WW X (vC G) h 0 [(0, .ref (cad G v0)), (1, .int v1)] [] := by
  unfold f_N_roundTo at hf
  refine wk_iload_n C 1 dN_roundTo_0 rfl rfl ?_
  refine wk_iconst C dN_roundTo_1 kiconst_1 ?_
  refine wk_icmp_lt (tgt := 13) C dN_roundTo_2 rfl hf (fun c_2 hf => ?_) (fun c_2 hf => ?_)
  · cases hf
    exact wk_return C hq dN_roundTo_13
  · refine wk_aload_n C 0 dN_roundTo_5 rfl rfl ?_
    refine gf_N_9 C k_v0 dN_roundTo_6 ?_
    refine wk_iload_n C 1 dN_roundTo_9 rfl rfl ?_
    refine wk_icmp_gt (tgt := 14) C dN_roundTo_10 rfl hf (fun c_10 hf => ?_) (fun c_10 hf => ?_)
    · refine wk_aload_n C 0 dN_roundTo_14 rfl rfl ?_
      refine wk_iload_n C 1 dN_roundTo_15 rfl rfl ?_
      obtain ⟨r16, h16, e_16, hf⟩ := bd_some hf
      refine wk_callV (As := [.int v1]) (rest := []) C lw_good cw_N_38 wi_N_digit (m_N_digit hI k_v0 e_16) (lz_cNum k_v0) (he_cNum k_v0) rfl rfl rfl (Nat.le_of_ble_eq_true rfl) (by decide) dN_roundTo_16 ?_
      refine wk_iconst C dN_roundTo_19 kiconst_5 ?_
      refine wk_icmp_lt (tgt := 27) C dN_roundTo_20 rfl hf (fun c_20 hf => ?_) (fun c_20 hf => ?_)
      · refine wk_iconst C dN_roundTo_27 kiconst_0 ?_
        exact wk_go (b_N_roundTo_28 hI C k_v0 hf hq) (And.intro rfl (And.intro rfl trivial))
      · refine wk_iconst C dN_roundTo_23 kiconst_1 ?_
        refine wk_goto (tgt := 28) C dN_roundTo_24 rfl ?_
        exact wk_go (b_N_roundTo_28 hI C k_v0 hf hq) (And.intro rfl (And.intro rfl trivial))
    · cases hf
      exact wk_return C hq dN_roundTo_13
theorem m_N_roundTo {l : Launch} {G : cGt} (hI : wd_inj (vC G)) {v0 : Nat} {v1 : Int32} {h h' : Hp} {r : Unit} (k_v0 : cNum v0) (hf : f_N_roundTo v0 v1 h = some (r, h')) : wk_M l (vC G) yN_roundTo cN_roundTo 3 none 2 34 [.ref (cad G v0), .int v1] h none h' :=
  wk_met hI (by decide +kernel) rfl (Nat.le_of_ble_eq_true rfl) (wk_cat1 rfl) (fun X hX C hq => by subst hX; exact b_N_roundTo hI C k_v0 hf hq)
set_option maxHeartbeats 4000000 in
set_option maxRecDepth 100000 in
theorem b_N_roundToPlaces_57 {X : wk_X} {G : cGt} (hI : wd_inj (vC G)) (C : wk_C X (vC G) cN_roundToPlaces RN 5 3 56) {v0 : Nat} {v1 : Int32} {s0 : Int32} {h : Hp} {q : Unit × Hp} (k_v0 : cNum v0) (hf : f_N_roundToPlaces_57 v0 v1 s0 h = some q) (hq : wk_Q X (vC G) none q.2 none) : WW X (vC G) h 57 [(0, .ref (cad G v0)), (1, .int v1)] [.int s0] := by
  unfold f_N_roundToPlaces_57 at hf
  refine wk_istore C dN_roundToPlaces_57 (by decide) ?_
  refine wk_aload_n C 0 dN_roundToPlaces_59 rfl rfl ?_
  refine wk_iload C dN_roundToPlaces_60 rfl ?_
  obtain ⟨r62, h62, e_62, hf⟩ := bd_some hf
  refine wk_callV (As := [.int s0]) (rest := []) C lw_good cw_N_59 wi_N_becomeUnit (m_N_becomeUnit hI k_v0 e_62) (lz_cNum k_v0) (he_cNum k_v0) rfl rfl rfl (Nat.le_of_ble_eq_true rfl) (by decide) dN_roundToPlaces_62 ?_
  refine wk_aload_n C 0 dN_roundToPlaces_65 rfl rfl ?_
  refine wk_iload C dN_roundToPlaces_66 rfl ?_
  refine wk_iload_n C 1 dN_roundToPlaces_68 rfl rfl ?_
  refine wk_ineg C dN_roundToPlaces_69 ?_
  obtain ⟨r70, h70, e_70, hf⟩ := bd_some hf
  refine wk_callV (As := [.int s0, .int (-v1)]) (rest := []) C lw_good cw_N_42 wi_N_settle (m_N_settle hI k_v0 e_70) (lz_cNum k_v0) (he_cNum k_v0) rfl rfl rfl (Nat.le_of_ble_eq_true rfl) (by decide) dN_roundToPlaces_70 ?_
  cases hf
  exact wk_return C hq dN_roundToPlaces_73
set_option maxHeartbeats 4000000 in
set_option maxRecDepth 100000 in
theorem b_N_roundToPlaces {X : wk_X} {G : cGt} (hI : wd_inj (vC G)) (C : wk_C X (vC G) cN_roundToPlaces RN 5 3 56) {v0 : Nat} {v1 : Int32} {h : Hp} {q : Unit × Hp} (k_v0 : cNum v0) (hf : f_N_roundToPlaces v0 v1 h = some q) (hq : wk_Q X (vC G) none q.2 none) : WW X (vC G) h 0 [(0, .ref (cad G v0)), (1, .int v1)] [] := by
  unfold f_N_roundToPlaces at hf
  refine wk_iload_n C 1 dN_roundToPlaces_0 rfl rfl ?_
  refine wk_aload_n C 0 dN_roundToPlaces_1 rfl rfl ?_
  obtain ⟨r2, h2, e_2, hf⟩ := bd_some hf
  refine wk_callV (As := []) (rest := [.int v1]) C lw_good cw_N_49 wi_N_places (m_N_places hI k_v0 e_2) (lz_cNum k_v0) (he_cNum k_v0) rfl rfl rfl (Nat.le_of_ble_eq_true rfl) (by decide) dN_roundToPlaces_2 ?_
  refine wk_icmp_lt (tgt := 9) C dN_roundToPlaces_5 rfl hf (fun c_5 hf => ?_) (fun c_5 hf => ?_)
  · refine wk_aload_n C 0 dN_roundToPlaces_9 rfl rfl ?_
    obtain ⟨r10, h10, e_10, hf⟩ := bd_some hf
    refine wk_callV (As := []) (rest := []) C lw_good cw_N_53 wi_N_ahead (m_N_ahead hI k_v0 e_10) (lz_cNum k_v0) (he_cNum k_v0) rfl rfl rfl (Nat.le_of_ble_eq_true rfl) (by decide) dN_roundToPlaces_10 ?_
    refine wk_iload_n C 1 dN_roundToPlaces_13 rfl rfl ?_
    refine wk_iadd C dN_roundToPlaces_14 ?_
    refine wk_istore_n C 2 dN_roundToPlaces_15 rfl (by decide) ?_
    refine wk_iload_n C 2 dN_roundToPlaces_16 rfl rfl ?_
    refine wk_if_le (tgt := 26) C dN_roundToPlaces_17 rfl hf (fun c_17 hf => ?_) (fun c_17 hf => ?_)
    · refine wk_iload_n C 2 dN_roundToPlaces_26 rfl rfl ?_
      refine wk_if_ne (tgt := 43) C dN_roundToPlaces_27 rfl hf (fun c_27 hf => ?_) (fun c_27 hf => ?_)
      · refine wk_iconst C dN_roundToPlaces_43 kiconst_0 ?_
        refine wk_istore_n C 3 dN_roundToPlaces_44 rfl (by decide) ?_
        refine wk_iload_n C 3 dN_roundToPlaces_45 rfl rfl ?_
        refine wk_if_eq (tgt := 56) C dN_roundToPlaces_46 rfl hf (fun c_46 hf => ?_) (fun c_46 hf => ?_)
        · refine wk_iconst C dN_roundToPlaces_56 kiconst_0 ?_
          exact wk_go (b_N_roundToPlaces_57 hI C k_v0 hf hq) (And.intro rfl (And.intro rfl trivial))
        · refine wk_aload_n C 0 dN_roundToPlaces_49 rfl rfl ?_
          refine gf_N_18 C k_v0 dN_roundToPlaces_50 ?_
          refine wk_goto (tgt := 57) C dN_roundToPlaces_53 rfl ?_
          exact wk_go (b_N_roundToPlaces_57 hI C k_v0 hf hq) (And.intro rfl (And.intro rfl trivial))
      · refine wk_aload_n C 0 dN_roundToPlaces_30 rfl rfl ?_
        refine wk_iconst C dN_roundToPlaces_31 kiconst_0 ?_
        obtain ⟨r32, h32, e_32, hf⟩ := bd_some hf
        refine wk_callV (As := [.int 0]) (rest := []) C lw_good cw_N_38 wi_N_digit (m_N_digit hI k_v0 e_32) (lz_cNum k_v0) (he_cNum k_v0) rfl rfl rfl (Nat.le_of_ble_eq_true rfl) (by decide) dN_roundToPlaces_32 ?_
        refine wk_iconst C dN_roundToPlaces_35 kiconst_5 ?_
        refine wk_icmp_lt (tgt := 43) C dN_roundToPlaces_36 rfl hf (fun c_36 hf => ?_) (fun c_36 hf => ?_)
        · refine wk_iconst C dN_roundToPlaces_43 kiconst_0 ?_
          refine wk_istore_n C 3 dN_roundToPlaces_44 rfl (by decide) ?_
          refine wk_iload_n C 3 dN_roundToPlaces_45 rfl rfl ?_
          refine wk_if_eq (tgt := 56) C dN_roundToPlaces_46 rfl hf (fun c_46 hf => ?_) (fun c_46 hf => ?_)
          · refine wk_iconst C dN_roundToPlaces_56 kiconst_0 ?_
            exact wk_go (b_N_roundToPlaces_57 hI C k_v0 hf hq) (And.intro rfl (And.intro rfl trivial))
          · refine wk_aload_n C 0 dN_roundToPlaces_49 rfl rfl ?_
            refine gf_N_18 C k_v0 dN_roundToPlaces_50 ?_
            refine wk_goto (tgt := 57) C dN_roundToPlaces_53 rfl ?_
            exact wk_go (b_N_roundToPlaces_57 hI C k_v0 hf hq) (And.intro rfl (And.intro rfl trivial))
        · refine wk_iconst C dN_roundToPlaces_39 kiconst_1 ?_
          refine wk_goto (tgt := 44) C dN_roundToPlaces_40 rfl ?_
          refine wk_istore_n C 3 dN_roundToPlaces_44 rfl (by decide) ?_
          refine wk_iload_n C 3 dN_roundToPlaces_45 rfl rfl ?_
          refine wk_if_eq (tgt := 56) C dN_roundToPlaces_46 rfl hf (fun c_46 hf => ?_) (fun c_46 hf => ?_)
          · refine wk_iconst C dN_roundToPlaces_56 kiconst_0 ?_
            exact wk_go (b_N_roundToPlaces_57 hI C k_v0 hf hq) (And.intro rfl (And.intro rfl trivial))
          · refine wk_aload_n C 0 dN_roundToPlaces_49 rfl rfl ?_
            refine gf_N_18 C k_v0 dN_roundToPlaces_50 ?_
            refine wk_goto (tgt := 57) C dN_roundToPlaces_53 rfl ?_
            exact wk_go (b_N_roundToPlaces_57 hI C k_v0 hf hq) (And.intro rfl (And.intro rfl trivial))
    · refine wk_aload_n C 0 dN_roundToPlaces_20 rfl rfl ?_
      refine wk_iload_n C 2 dN_roundToPlaces_21 rfl rfl ?_
      obtain ⟨r22, h22, e_22, hf⟩ := bd_some hf
      refine wk_callV (As := [.int (r10 + v1)]) (rest := []) C lw_good cw_N_56 wi_N_roundTo (m_N_roundTo hI k_v0 e_22) (lz_cNum k_v0) (he_cNum k_v0) rfl rfl rfl (Nat.le_of_ble_eq_true rfl) (by decide) dN_roundToPlaces_22 ?_
      cases hf
      exact wk_return C hq dN_roundToPlaces_25
  · cases hf
    exact wk_return C hq dN_roundToPlaces_8
theorem m_N_roundToPlaces {l : Launch} {G : cGt} (hI : wd_inj (vC G)) {v0 : Nat} {v1 : Int32} {h h' : Hp} {r : Unit} (k_v0 : cNum v0) (hf : f_N_roundToPlaces v0 v1 h = some (r, h')) : wk_M l (vC G) yN_roundToPlaces cN_roundToPlaces 5 none 3 56 [.ref (cad G v0), .int v1] h none h' :=
  wk_met hI (by decide +kernel) rfl (Nat.le_of_ble_eq_true rfl) (wk_cat1 rfl) (fun X hX C hq => by subst hX; exact b_N_roundToPlaces hI C k_v0 hf hq)
set_option maxHeartbeats 4000000 in
set_option maxRecDepth 100000 in
theorem b_N_dropEndZeros_0 {X : wk_X} {G : cGt} (hI : wd_inj (vC G)) (C : wk_C X (vC G) cN_dropEndZeros RN 1 1 21) : ∀ (n : Nat) {v0 : Nat} {h : Hp} {q : Unit × Hp} (k_v0 : cNum v0) (hf : f_N_dropEndZeros_0 n v0 h = some q) (hq : wk_Q X (vC G) none q.2 none), WW X (vC G) h 0 [(0, .ref (cad G v0))] [] := by
  intro n
  induction n with
  | zero =>
    intros
    rename_i hf _
    cases hf
  | succ n ih =>
    intro v0 h q k_v0 hf hq
    rw [f_N_dropEndZeros_0] at hf
    refine wk_aload_n C 0 dN_dropEndZeros_0 rfl rfl ?_
    refine gf_N_9 C k_v0 dN_dropEndZeros_1 ?_
    refine wk_iconst C dN_dropEndZeros_4 kiconst_1 ?_
    refine wk_icmp_le (tgt := 44) C dN_dropEndZeros_5 rfl hf (fun c_5 hf => ?_) (fun c_5 hf => ?_)
    · cases hf
      exact wk_return C hq dN_dropEndZeros_44
    · refine wk_aload_n C 0 dN_dropEndZeros_8 rfl rfl ?_
      refine wk_aload_n C 0 dN_dropEndZeros_9 rfl rfl ?_
      refine gf_N_9 C k_v0 dN_dropEndZeros_10 ?_
      refine wk_iconst C dN_dropEndZeros_13 kiconst_1 ?_
      refine wk_isub C dN_dropEndZeros_14 ?_
      obtain ⟨r15, h15, e_15, hf⟩ := bd_some hf
      refine wk_callV (As := [.int ((h v0 1) - 1)]) (rest := []) C lw_good cw_N_38 wi_N_digit (m_N_digit hI k_v0 e_15) (lz_cNum k_v0) (he_cNum k_v0) rfl rfl rfl (Nat.le_of_ble_eq_true rfl) (by decide) dN_dropEndZeros_15 ?_
      refine wk_if_ne (tgt := 44) C dN_dropEndZeros_18 rfl hf (fun c_18 hf => ?_) (fun c_18 hf => ?_)
      · cases hf
        exact wk_return C hq dN_dropEndZeros_44
      · refine wk_aload_n C 0 dN_dropEndZeros_21 rfl rfl ?_
        refine wk_dup C dN_dropEndZeros_22 rfl ?_
        refine gf_N_9 C k_v0 dN_dropEndZeros_23 ?_
        refine wk_iconst C dN_dropEndZeros_26 kiconst_1 ?_
        refine wk_isub C dN_dropEndZeros_27 ?_
        refine pf_N_9 C k_v0 dN_dropEndZeros_28 ?_
        refine wk_aload_n C 0 dN_dropEndZeros_31 rfl rfl ?_
        refine wk_dup C dN_dropEndZeros_32 rfl ?_
        refine gf_N_15 C k_v0 dN_dropEndZeros_33 ?_
        refine wk_iconst C dN_dropEndZeros_36 kiconst_1 ?_
        refine wk_iadd C dN_dropEndZeros_37 ?_
        refine pf_N_15 C k_v0 dN_dropEndZeros_38 ?_
        refine wk_goto (tgt := 0) C dN_dropEndZeros_41 rfl ?_
        exact wk_go (ih k_v0 hf hq) (And.intro rfl trivial)
set_option maxHeartbeats 4000000 in
set_option maxRecDepth 100000 in
theorem b_N_dropEndZeros {X : wk_X} {G : cGt} (hI : wd_inj (vC G)) (C : wk_C X (vC G) cN_dropEndZeros RN 1 1 21) {v0 : Nat} {h : Hp} {q : Unit × Hp} (k_v0 : cNum v0) (hf : f_N_dropEndZeros v0 h = some q) (hq : wk_Q X (vC G) none q.2 none) : WW X (vC G) h 0 [(0, .ref (cad G v0))] [] := by
  unfold f_N_dropEndZeros at hf
  exact wk_go (b_N_dropEndZeros_0 hI C fuel k_v0 hf hq) (And.intro rfl trivial)
theorem m_N_dropEndZeros {l : Launch} {G : cGt} (hI : wd_inj (vC G)) {v0 : Nat} {h h' : Hp} {r : Unit} (k_v0 : cNum v0) (hf : f_N_dropEndZeros v0 h = some (r, h')) : wk_M l (vC G) yN_dropEndZeros cN_dropEndZeros 1 none 1 21 [.ref (cad G v0)] h none h' :=
  wk_met hI (by decide +kernel) rfl (Nat.le_of_ble_eq_true rfl) (wk_cat1 rfl) (fun X hX C hq => by subst hX; exact b_N_dropEndZeros hI C k_v0 hf hq)
set_option maxHeartbeats 4000000 in
set_option maxRecDepth 100000 in
theorem b_N_wholeValue_83 {X : wk_X} {G : cGt} (hI : wd_inj (vC G)) (C : wk_C X (vC G) cN_wholeValue RN 4 1 21) : ∀ (n : Nat) {v0 : Nat} {v1 : Int32} {v2 : Int32} {h : Hp} {q : Int32 × Hp} (k_v0 : cNum v0) (hf : f_N_wholeValue_83 n v0 v1 v2 h = some q) (hq : wk_Q X (vC G) (some (.int q.1)) q.2 (some .int)), WW X (vC G) h 83 [(0, .ref (cad G v0)), (1, .int v1), (2, .int v2)] [] := by
  intro n
  induction n with
  | zero =>
    intros
    rename_i hf _
    cases hf
  | succ n ih =>
    intro v0 v1 v2 h q k_v0 hf hq
    rw [f_N_wholeValue_83] at hf
    refine wk_iload_n C 2 dN_wholeValue_83 rfl rfl ?_
    refine wk_if_le (tgt := 98) C dN_wholeValue_84 rfl hf (fun c_84 hf => ?_) (fun c_84 hf => ?_)
    · refine wk_aload_n C 0 dN_wholeValue_98 rfl rfl ?_
      refine gf_N_18 C k_v0 dN_wholeValue_99 ?_
      refine wk_if_ge (tgt := 110) C dN_wholeValue_102 rfl hf (fun c_102 hf => ?_) (fun c_102 hf => ?_)
      · refine wk_iload_n C 1 dN_wholeValue_110 rfl rfl ?_
        cases hf
        exact wk_ireturn C hq dN_wholeValue_111
      · refine wk_iload_n C 1 dN_wholeValue_105 rfl rfl ?_
        refine wk_ineg C dN_wholeValue_106 ?_
        refine wk_goto (tgt := 111) C dN_wholeValue_107 rfl ?_
        cases hf
        exact wk_ireturn C hq dN_wholeValue_111
    · refine wk_iload_n C 1 dN_wholeValue_87 rfl rfl ?_
      refine wk_bipush C dN_wholeValue_88 kbipush_10 ?_
      refine wk_imul C dN_wholeValue_90 ?_
      refine wk_istore_n C 1 dN_wholeValue_91 rfl (by decide) ?_
      refine wk_iinc C dN_wholeValue_92 rfl kiconst_m1 (by decide) ?_
      refine wk_goto (tgt := 83) C dN_wholeValue_95 rfl ?_
      exact wk_go (ih k_v0 hf hq) (And.intro rfl (And.intro rfl (And.intro rfl trivial)))
set_option maxHeartbeats 4000000 in
set_option maxRecDepth 100000 in
theorem b_N_wholeValue_53 {X : wk_X} {G : cGt} (hI : wd_inj (vC G)) (C : wk_C X (vC G) cN_wholeValue RN 4 1 21) {k16 : Nat → Int32 → Int32 → Hp → Option (Int32 × Hp)} (hk16 : ∀ (v0 : Nat) (v1 : Int32) (v2 : Int32) (h : Hp) (q : Int32 × Hp), cNum v0 → k16 v0 v1 v2 h = some q → wk_Q X (vC G) (some (.int q.1)) q.2 (some .int) → WW X (vC G) h 16 [(0, .ref (cad G v0)), (1, .int v1), (2, .int v2)] []) {v0 : Nat} {v1 : Int32} {v2 : Int32} {v3 : Int32} {h : Hp} {q : Int32 × Hp} (k_v0 : cNum v0) (hf : f_N_wholeValue_53 k16 v0 v1 v2 v3 h = some q) (hq : wk_Q X (vC G) (some (.int q.1)) q.2 (some .int)) : WW X (vC G) h 53 [(0, .ref (cad G v0)), (1, .int v1), (2, .int v2), (3, .int v3)] [] := by
  unfold f_N_wholeValue_53 at hf
  refine wk_iload_n C 3 dN_wholeValue_53 rfl rfl ?_
  refine wk_if_eq (tgt := 61) C dN_wholeValue_54 rfl hf (fun c_54 hf => ?_) (fun c_54 hf => ?_)
  · refine wk_iload_n C 1 dN_wholeValue_61 rfl rfl ?_
    refine wk_bipush C dN_wholeValue_62 kbipush_10 ?_
    refine wk_imul C dN_wholeValue_64 ?_
    refine wk_aload_n C 0 dN_wholeValue_65 rfl rfl ?_
    refine wk_iload_n C 2 dN_wholeValue_66 rfl rfl ?_
    obtain ⟨r67, h67, e_67, hf⟩ := bd_some hf
    refine wk_callV (As := [.int v2]) (rest := [.int (v1 * 10)]) C lw_good cw_N_38 wi_N_digit (m_N_digit hI k_v0 e_67) (lz_cNum k_v0) (he_cNum k_v0) rfl rfl rfl (Nat.le_of_ble_eq_true rfl) (by decide) dN_wholeValue_67 ?_
    refine wk_iadd C dN_wholeValue_70 ?_
    refine wk_istore_n C 1 dN_wholeValue_71 rfl (by decide) ?_
    refine wk_iinc C dN_wholeValue_72 rfl kiconst_1 (by decide) ?_
    refine wk_goto (tgt := 16) C dN_wholeValue_75 rfl ?_
    exact wk_go (hk16 _ _ _ _ _ k_v0 hf hq) (And.intro rfl (And.intro rfl (And.intro rfl trivial)))
  · refine wk_iload_n C 1 dN_wholeValue_57 rfl rfl ?_
    refine wk_goto (tgt := 71) C dN_wholeValue_58 rfl ?_
    refine wk_istore_n C 1 dN_wholeValue_71 rfl (by decide) ?_
    refine wk_iinc C dN_wholeValue_72 rfl kiconst_1 (by decide) ?_
    refine wk_goto (tgt := 16) C dN_wholeValue_75 rfl ?_
    exact wk_go (hk16 _ _ _ _ _ k_v0 hf hq) (And.intro rfl (And.intro rfl (And.intro rfl trivial)))
set_option maxHeartbeats 4000000 in
set_option maxRecDepth 100000 in
theorem b_N_wholeValue_37 {X : wk_X} {G : cGt} (hI : wd_inj (vC G)) (C : wk_C X (vC G) cN_wholeValue RN 4 1 21) {k16 : Nat → Int32 → Int32 → Hp → Option (Int32 × Hp)} (hk16 : ∀ (v0 : Nat) (v1 : Int32) (v2 : Int32) (h : Hp) (q : Int32 × Hp), cNum v0 → k16 v0 v1 v2 h = some q → wk_Q X (vC G) (some (.int q.1)) q.2 (some .int) → WW X (vC G) h 16 [(0, .ref (cad G v0)), (1, .int v1), (2, .int v2)] []) {v0 : Nat} {v1 : Int32} {v2 : Int32} {s0 : Int32} {h : Hp} {q : Int32 × Hp} (k_v0 : cNum v0) (hf : f_N_wholeValue_37 k16 v0 v1 v2 s0 h = some q) (hq : wk_Q X (vC G) (some (.int q.1)) q.2 (some .int)) : WW X (vC G) h 37 [(0, .ref (cad G v0)), (1, .int v1), (2, .int v2)] [.int s0] := by
  unfold f_N_wholeValue_37 at hf
  refine wk_istore_n C 3 dN_wholeValue_37 rfl (by decide) ?_
  refine wk_iload_n C 3 dN_wholeValue_38 rfl rfl ?_
  refine wk_if_eq (tgt := 53) C dN_wholeValue_39 rfl hf (fun c_39 hf => ?_) (fun c_39 hf => ?_)
  · exact wk_go (b_N_wholeValue_53 hI C hk16 k_v0 hf hq) (And.intro rfl (And.intro rfl (And.intro rfl (And.intro rfl trivial))))
  · refine wk_aload_n C 0 dN_wholeValue_42 rfl rfl ?_
    refine wk_iload_n C 2 dN_wholeValue_43 rfl rfl ?_
    obtain ⟨r44, h44, e_44, hf⟩ := bd_some hf
    refine wk_callV (As := [.int v2]) (rest := []) C lw_good cw_N_38 wi_N_digit (m_N_digit hI k_v0 e_44) (lz_cNum k_v0) (he_cNum k_v0) rfl rfl rfl (Nat.le_of_ble_eq_true rfl) (by decide) dN_wholeValue_44 ?_
    refine wk_if_eq (tgt := 53) C dN_wholeValue_47 rfl hf (fun c_47 hf => ?_) (fun c_47 hf => ?_)
    · exact wk_go (b_N_wholeValue_53 hI C hk16 k_v0 hf hq) (And.intro rfl (And.intro rfl (And.intro rfl (And.intro rfl trivial))))
    · refine wk_ldc C dN_wholeValue_50 wc_N_65 ?_
      cases hf
      exact wk_ireturn C hq dN_wholeValue_52
set_option maxHeartbeats 4000000 in
set_option maxRecDepth 100000 in
theorem b_N_wholeValue_16 {X : wk_X} {G : cGt} (hI : wd_inj (vC G)) (C : wk_C X (vC G) cN_wholeValue RN 4 1 21) : ∀ (n : Nat) {v0 : Nat} {v1 : Int32} {v2 : Int32} {h : Hp} {q : Int32 × Hp} (k_v0 : cNum v0) (hf : f_N_wholeValue_16 n v0 v1 v2 h = some q) (hq : wk_Q X (vC G) (some (.int q.1)) q.2 (some .int)), WW X (vC G) h 16 [(0, .ref (cad G v0)), (1, .int v1), (2, .int v2)] [] := by
  intro n
  induction n with
  | zero =>
    intros
    rename_i hf _
    cases hf
  | succ n ih =>
    intro v0 v1 v2 h q k_v0 hf hq
    rw [f_N_wholeValue_16] at hf
    refine wk_iload_n C 2 dN_wholeValue_16 rfl rfl ?_
    refine wk_aload_n C 0 dN_wholeValue_17 rfl rfl ?_
    refine gf_N_9 C k_v0 dN_wholeValue_18 ?_
    refine wk_icmp_ge (tgt := 78) C dN_wholeValue_21 rfl hf (fun c_21 hf => ?_) (fun c_21 hf => ?_)
    · refine wk_aload_n C 0 dN_wholeValue_78 rfl rfl ?_
      refine gf_N_15 C k_v0 dN_wholeValue_79 ?_
      refine wk_istore_n C 2 dN_wholeValue_82 rfl (by decide) ?_
      exact wk_go (b_N_wholeValue_83 hI C fuel k_v0 hf hq) (And.intro rfl (And.intro rfl (And.intro rfl trivial)))
    · refine wk_iload_n C 2 dN_wholeValue_24 rfl rfl ?_
      refine wk_aload_n C 0 dN_wholeValue_25 rfl rfl ?_
      obtain ⟨r26, h26, e_26, hf⟩ := bd_some hf
      refine wk_callV (As := []) (rest := [.int v2]) C lw_good cw_N_53 wi_N_ahead (m_N_ahead hI k_v0 e_26) (lz_cNum k_v0) (he_cNum k_v0) rfl rfl rfl (Nat.le_of_ble_eq_true rfl) (by decide) dN_wholeValue_26 ?_
      refine wk_icmp_lt (tgt := 36) C dN_wholeValue_29 rfl hf (fun c_29 hf => ?_) (fun c_29 hf => ?_)
      · refine wk_iconst C dN_wholeValue_36 kiconst_0 ?_
        exact wk_go (b_N_wholeValue_37 hI C (fun _ _ _ _ _ k_v0 hf hq => ih k_v0 hf hq) k_v0 hf hq) (And.intro rfl (And.intro rfl (And.intro rfl trivial)))
      · refine wk_iconst C dN_wholeValue_32 kiconst_1 ?_
        refine wk_goto (tgt := 37) C dN_wholeValue_33 rfl ?_
        exact wk_go (b_N_wholeValue_37 hI C (fun _ _ _ _ _ k_v0 hf hq => ih k_v0 hf hq) k_v0 hf hq) (And.intro rfl (And.intro rfl (And.intro rfl trivial)))
set_option maxHeartbeats 4000000 in
set_option maxRecDepth 100000 in
theorem b_N_wholeValue {X : wk_X} {G : cGt} (hI : wd_inj (vC G)) (C : wk_C X (vC G) cN_wholeValue RN 4 1 21) {v0 : Nat} {h : Hp} {q : Int32 × Hp} (k_v0 : cNum v0) (hf : f_N_wholeValue v0 h = some q) (hq : wk_Q X (vC G) (some (.int q.1)) q.2 (some .int)) : WW X (vC G) h 0 [(0, .ref (cad G v0))] [] := by
  unfold f_N_wholeValue at hf
  refine wk_aload_n C 0 dN_wholeValue_0 rfl rfl ?_
  obtain ⟨r1, h1, e_1, hf⟩ := bd_some hf
  refine wk_callV (As := []) (rest := []) C lw_good cw_N_53 wi_N_ahead (m_N_ahead hI k_v0 e_1) (lz_cNum k_v0) (he_cNum k_v0) rfl rfl rfl (Nat.le_of_ble_eq_true rfl) (by decide) dN_wholeValue_1 ?_
  refine wk_bipush C dN_wholeValue_4 kbipush_9 ?_
  refine wk_icmp_le (tgt := 12) C dN_wholeValue_6 rfl hf (fun c_6 hf => ?_) (fun c_6 hf => ?_)
  · refine wk_iconst C dN_wholeValue_12 kiconst_0 ?_
    refine wk_istore_n C 1 dN_wholeValue_13 rfl (by decide) ?_
    refine wk_iconst C dN_wholeValue_14 kiconst_0 ?_
    refine wk_istore_n C 2 dN_wholeValue_15 rfl (by decide) ?_
    exact wk_go (b_N_wholeValue_16 hI C fuel k_v0 hf hq) (And.intro rfl (And.intro rfl (And.intro rfl trivial)))
  · refine wk_ldc C dN_wholeValue_9 wc_N_65 ?_
    cases hf
    exact wk_ireturn C hq dN_wholeValue_11
theorem m_N_wholeValue {l : Launch} {G : cGt} (hI : wd_inj (vC G)) {v0 : Nat} {h h' : Hp} {r : Int32} (k_v0 : cNum v0) (hf : f_N_wholeValue v0 h = some (r, h')) : wk_M l (vC G) yN_wholeValue cN_wholeValue 4 (some .int) 1 21 [.ref (cad G v0)] h (some (.int r)) h' :=
  wk_met hI (by decide +kernel) rfl (Nat.le_of_ble_eq_true rfl) (wk_cat1 rfl) (fun X hX C hq => by subst hX; exact b_N_wholeValue hI C k_v0 hf hq)
