theorem dK_takeAwayOnce_0 : decode cK_takeAwayOnce 0 = .ok (.iconst 0, 1) := by decide +kernel
theorem dK_takeAwayOnce_1 : decode cK_takeAwayOnce 1 = .ok (.istore_n 2, 1) := by decide +kernel
theorem dK_takeAwayOnce_2 : decode cK_takeAwayOnce 2 = .ok (.iload_n 1, 1) := by decide +kernel
theorem dK_takeAwayOnce_3 : decode cK_takeAwayOnce 3 = .ok (.iconst 1, 1) := by decide +kernel
theorem dK_takeAwayOnce_4 : decode cK_takeAwayOnce 4 = .ok (.isub, 1) := by decide +kernel
theorem dK_takeAwayOnce_5 : decode cK_takeAwayOnce 5 = .ok (.istore_n 3, 1) := by decide +kernel
theorem dK_takeAwayOnce_6 : decode cK_takeAwayOnce 6 = .ok (.iload_n 3, 1) := by decide +kernel
theorem dK_takeAwayOnce_7 : decode cK_takeAwayOnce 7 = .ok (.ifCond .lt 50, 3) := by decide +kernel
theorem dK_takeAwayOnce_10 : decode cK_takeAwayOnce 10 = .ok (.aload_n 0, 1) := by decide +kernel
theorem dK_takeAwayOnce_11 : decode cK_takeAwayOnce 11 = .ok (.getfield 18, 3) := by decide +kernel
theorem dK_takeAwayOnce_14 : decode cK_takeAwayOnce 14 = .ok (.iload_n 3, 1) := by decide +kernel
theorem dK_takeAwayOnce_15 : decode cK_takeAwayOnce 15 = .ok (.iaload, 1) := by decide +kernel
theorem dK_takeAwayOnce_16 : decode cK_takeAwayOnce 16 = .ok (.aload_n 0, 1) := by decide +kernel
theorem dK_takeAwayOnce_17 : decode cK_takeAwayOnce 17 = .ok (.getfield 15, 3) := by decide +kernel
theorem dK_takeAwayOnce_20 : decode cK_takeAwayOnce 20 = .ok (.iload_n 3, 1) := by decide +kernel
theorem dK_takeAwayOnce_21 : decode cK_takeAwayOnce 21 = .ok (.iaload, 1) := by decide +kernel
theorem dK_takeAwayOnce_22 : decode cK_takeAwayOnce 22 = .ok (.isub, 1) := by decide +kernel
theorem dK_takeAwayOnce_23 : decode cK_takeAwayOnce 23 = .ok (.iload_n 2, 1) := by decide +kernel
theorem dK_takeAwayOnce_24 : decode cK_takeAwayOnce 24 = .ok (.isub, 1) := by decide +kernel
theorem dK_takeAwayOnce_25 : decode cK_takeAwayOnce 25 = .ok (.istore 4, 2) := by decide +kernel
theorem dK_takeAwayOnce_27 : decode cK_takeAwayOnce 27 = .ok (.iload 4, 2) := by decide +kernel
theorem dK_takeAwayOnce_29 : decode cK_takeAwayOnce 29 = .ok (.ifCond .ge 7, 3) := by decide +kernel
theorem dK_takeAwayOnce_32 : decode cK_takeAwayOnce 32 = .ok (.iconst 1, 1) := by decide +kernel
theorem dK_takeAwayOnce_33 : decode cK_takeAwayOnce 33 = .ok (.goto 4, 3) := by decide +kernel
theorem dK_takeAwayOnce_36 : decode cK_takeAwayOnce 36 = .ok (.iconst 0, 1) := by decide +kernel
theorem dK_takeAwayOnce_37 : decode cK_takeAwayOnce 37 = .ok (.istore_n 2, 1) := by decide +kernel
theorem dK_takeAwayOnce_38 : decode cK_takeAwayOnce 38 = .ok (.aload_n 0, 1) := by decide +kernel
theorem dK_takeAwayOnce_39 : decode cK_takeAwayOnce 39 = .ok (.getfield 18, 3) := by decide +kernel
theorem dK_takeAwayOnce_42 : decode cK_takeAwayOnce 42 = .ok (.iload_n 3, 1) := by decide +kernel
theorem dK_takeAwayOnce_43 : decode cK_takeAwayOnce 43 = .ok (.iload 4, 2) := by decide +kernel
theorem dK_takeAwayOnce_45 : decode cK_takeAwayOnce 45 = .ok (.bipush 10, 2) := by decide +kernel
theorem dK_takeAwayOnce_47 : decode cK_takeAwayOnce 47 = .ok (.iload_n 2, 1) := by decide +kernel
theorem dK_takeAwayOnce_48 : decode cK_takeAwayOnce 48 = .ok (.imul, 1) := by decide +kernel
theorem dK_takeAwayOnce_49 : decode cK_takeAwayOnce 49 = .ok (.iadd, 1) := by decide +kernel
theorem dK_takeAwayOnce_50 : decode cK_takeAwayOnce 50 = .ok (.iastore, 1) := by decide +kernel
theorem dK_takeAwayOnce_51 : decode cK_takeAwayOnce 51 = .ok (.iinc 3 (-1), 3) := by decide +kernel
theorem dK_takeAwayOnce_54 : decode cK_takeAwayOnce 54 = .ok (.goto (-48), 3) := by decide +kernel
theorem dK_takeAwayOnce_57 : decode cK_takeAwayOnce 57 = .ok (.return_, 1) := by decide +kernel
theorem dK_holdsDivisor_0 : decode cK_holdsDivisor 0 = .ok (.iconst 0, 1) := by decide +kernel
theorem dK_holdsDivisor_1 : decode cK_holdsDivisor 1 = .ok (.istore_n 2, 1) := by decide +kernel
theorem dK_holdsDivisor_2 : decode cK_holdsDivisor 2 = .ok (.iconst 0, 1) := by decide +kernel
theorem dK_holdsDivisor_3 : decode cK_holdsDivisor 3 = .ok (.istore_n 3, 1) := by decide +kernel
theorem dK_holdsDivisor_4 : decode cK_holdsDivisor 4 = .ok (.iload_n 3, 1) := by decide +kernel
theorem dK_holdsDivisor_5 : decode cK_holdsDivisor 5 = .ok (.iload_n 1, 1) := by decide +kernel
theorem dK_holdsDivisor_6 : decode cK_holdsDivisor 6 = .ok (.if_icmp .ge 27, 3) := by decide +kernel
theorem dK_holdsDivisor_9 : decode cK_holdsDivisor 9 = .ok (.iload_n 2, 1) := by decide +kernel
theorem dK_holdsDivisor_10 : decode cK_holdsDivisor 10 = .ok (.ifCond .ne 23, 3) := by decide +kernel
theorem dK_holdsDivisor_13 : decode cK_holdsDivisor 13 = .ok (.aload_n 0, 1) := by decide +kernel
theorem dK_holdsDivisor_14 : decode cK_holdsDivisor 14 = .ok (.getfield 18, 3) := by decide +kernel
theorem dK_holdsDivisor_17 : decode cK_holdsDivisor 17 = .ok (.iload_n 3, 1) := by decide +kernel
theorem dK_holdsDivisor_18 : decode cK_holdsDivisor 18 = .ok (.iaload, 1) := by decide +kernel
theorem dK_holdsDivisor_19 : decode cK_holdsDivisor 19 = .ok (.aload_n 0, 1) := by decide +kernel
theorem dK_holdsDivisor_20 : decode cK_holdsDivisor 20 = .ok (.getfield 15, 3) := by decide +kernel
theorem dK_holdsDivisor_23 : decode cK_holdsDivisor 23 = .ok (.iload_n 3, 1) := by decide +kernel
theorem dK_holdsDivisor_24 : decode cK_holdsDivisor 24 = .ok (.iaload, 1) := by decide +kernel
theorem dK_holdsDivisor_25 : decode cK_holdsDivisor 25 = .ok (.isub, 1) := by decide +kernel
theorem dK_holdsDivisor_26 : decode cK_holdsDivisor 26 = .ok (.istore_n 2, 1) := by decide +kernel
theorem dK_holdsDivisor_27 : decode cK_holdsDivisor 27 = .ok (.iinc 3 1, 3) := by decide +kernel
theorem dK_holdsDivisor_30 : decode cK_holdsDivisor 30 = .ok (.goto (-26), 3) := by decide +kernel
theorem dK_holdsDivisor_33 : decode cK_holdsDivisor 33 = .ok (.iload_n 2, 1) := by decide +kernel
theorem dK_holdsDivisor_34 : decode cK_holdsDivisor 34 = .ok (.ifCond .lt 7, 3) := by decide +kernel
theorem dK_holdsDivisor_37 : decode cK_holdsDivisor 37 = .ok (.iconst 1, 1) := by decide +kernel
theorem dK_holdsDivisor_38 : decode cK_holdsDivisor 38 = .ok (.goto 4, 3) := by decide +kernel
theorem dK_holdsDivisor_41 : decode cK_holdsDivisor 41 = .ok (.iconst 0, 1) := by decide +kernel
theorem dK_holdsDivisor_42 : decode cK_holdsDivisor 42 = .ok (.ireturn, 1) := by decide +kernel
theorem dK_takeAwayAll_0 : decode cK_takeAwayAll 0 = .ok (.iconst 0, 1) := by decide +kernel
theorem dK_takeAwayAll_1 : decode cK_takeAwayAll 1 = .ok (.istore_n 2, 1) := by decide +kernel
theorem dK_takeAwayAll_2 : decode cK_takeAwayAll 2 = .ok (.iload_n 2, 1) := by decide +kernel
theorem dK_takeAwayAll_3 : decode cK_takeAwayAll 3 = .ok (.bipush 9, 2) := by decide +kernel
theorem dK_takeAwayAll_5 : decode cK_takeAwayAll 5 = .ok (.if_icmp .ge 22, 3) := by decide +kernel
theorem dK_takeAwayAll_8 : decode cK_takeAwayAll 8 = .ok (.aload_n 0, 1) := by decide +kernel
theorem dK_takeAwayAll_9 : decode cK_takeAwayAll 9 = .ok (.iload_n 1, 1) := by decide +kernel
theorem dK_takeAwayAll_10 : decode cK_takeAwayAll 10 = .ok (.invokevirtual 155, 3) := by decide +kernel
theorem dK_takeAwayAll_13 : decode cK_takeAwayAll 13 = .ok (.ifCond .eq 14, 3) := by decide +kernel
theorem dK_takeAwayAll_16 : decode cK_takeAwayAll 16 = .ok (.aload_n 0, 1) := by decide +kernel
theorem dK_takeAwayAll_17 : decode cK_takeAwayAll 17 = .ok (.iload_n 1, 1) := by decide +kernel
theorem dK_takeAwayAll_18 : decode cK_takeAwayAll 18 = .ok (.invokevirtual 159, 3) := by decide +kernel
theorem dK_takeAwayAll_21 : decode cK_takeAwayAll 21 = .ok (.iinc 2 1, 3) := by decide +kernel
theorem dK_takeAwayAll_24 : decode cK_takeAwayAll 24 = .ok (.goto (-22), 3) := by decide +kernel
theorem dK_takeAwayAll_27 : decode cK_takeAwayAll 27 = .ok (.iload_n 2, 1) := by decide +kernel
theorem dK_takeAwayAll_28 : decode cK_takeAwayAll 28 = .ok (.ireturn, 1) := by decide +kernel
theorem dK_bringDown_0 : decode cK_bringDown 0 = .ok (.iconst 1, 1) := by decide +kernel
theorem dK_bringDown_1 : decode cK_bringDown 1 = .ok (.istore_n 3, 1) := by decide +kernel
theorem dK_bringDown_2 : decode cK_bringDown 2 = .ok (.iload_n 3, 1) := by decide +kernel
theorem dK_bringDown_3 : decode cK_bringDown 3 = .ok (.iload_n 2, 1) := by decide +kernel
theorem dK_bringDown_4 : decode cK_bringDown 4 = .ok (.if_icmp .ge 23, 3) := by decide +kernel
theorem dK_bringDown_7 : decode cK_bringDown 7 = .ok (.aload_n 0, 1) := by decide +kernel
theorem dK_bringDown_8 : decode cK_bringDown 8 = .ok (.getfield 18, 3) := by decide +kernel
theorem dK_bringDown_11 : decode cK_bringDown 11 = .ok (.iload_n 3, 1) := by decide +kernel
theorem dK_bringDown_12 : decode cK_bringDown 12 = .ok (.iconst 1, 1) := by decide +kernel
theorem dK_bringDown_13 : decode cK_bringDown 13 = .ok (.isub, 1) := by decide +kernel
theorem dK_bringDown_14 : decode cK_bringDown 14 = .ok (.aload_n 0, 1) := by decide +kernel
theorem dK_bringDown_15 : decode cK_bringDown 15 = .ok (.getfield 18, 3) := by decide +kernel
theorem dK_bringDown_18 : decode cK_bringDown 18 = .ok (.iload_n 3, 1) := by decide +kernel
theorem dK_bringDown_19 : decode cK_bringDown 19 = .ok (.iaload, 1) := by decide +kernel
theorem dK_bringDown_20 : decode cK_bringDown 20 = .ok (.iastore, 1) := by decide +kernel
theorem dK_bringDown_21 : decode cK_bringDown 21 = .ok (.iinc 3 1, 3) := by decide +kernel
theorem dK_bringDown_24 : decode cK_bringDown 24 = .ok (.goto (-22), 3) := by decide +kernel
theorem dK_bringDown_27 : decode cK_bringDown 27 = .ok (.iload_n 2, 1) := by decide +kernel
theorem dK_bringDown_28 : decode cK_bringDown 28 = .ok (.ifCond .le 12, 3) := by decide +kernel
theorem dK_bringDown_31 : decode cK_bringDown 31 = .ok (.aload_n 0, 1) := by decide +kernel
theorem dK_bringDown_32 : decode cK_bringDown 32 = .ok (.getfield 18, 3) := by decide +kernel
theorem dK_bringDown_35 : decode cK_bringDown 35 = .ok (.iload_n 2, 1) := by decide +kernel
theorem dK_bringDown_36 : decode cK_bringDown 36 = .ok (.iconst 1, 1) := by decide +kernel
theorem dK_bringDown_37 : decode cK_bringDown 37 = .ok (.isub, 1) := by decide +kernel
theorem dK_bringDown_38 : decode cK_bringDown 38 = .ok (.iload_n 1, 1) := by decide +kernel
theorem dK_bringDown_39 : decode cK_bringDown 39 = .ok (.iastore, 1) := by decide +kernel
theorem dK_bringDown_40 : decode cK_bringDown 40 = .ok (.return_, 1) := by decide +kernel
theorem dK_divide_0 : decode cK_divide 0 = .ok (.aload_n 2, 1) := by decide +kernel
theorem dK_divide_1 : decode cK_divide 1 = .ok (.getfield 111, 3) := by decide +kernel
theorem dK_divide_4 : decode cK_divide 4 = .ok (.iconst 1, 1) := by decide +kernel
theorem dK_divide_5 : decode cK_divide 5 = .ok (.iadd, 1) := by decide +kernel
theorem dK_divide_6 : decode cK_divide 6 = .ok (.bipush 100, 2) := by decide +kernel
theorem dK_divide_8 : decode cK_divide 8 = .ok (.invokestatic 84, 3) := by decide +kernel
theorem dK_divide_11 : decode cK_divide 11 = .ok (.istore 6, 2) := by decide +kernel
theorem dK_divide_13 : decode cK_divide 13 = .ok (.iconst 0, 1) := by decide +kernel
theorem dK_divide_14 : decode cK_divide 14 = .ok (.istore 7, 2) := by decide +kernel
theorem dK_divide_16 : decode cK_divide 16 = .ok (.iload 7, 2) := by decide +kernel
theorem dK_divide_18 : decode cK_divide 18 = .ok (.iload 6, 2) := by decide +kernel
theorem dK_divide_20 : decode cK_divide 20 = .ok (.if_icmp .ge 32, 3) := by decide +kernel
theorem dK_divide_23 : decode cK_divide 23 = .ok (.aload_n 0, 1) := by decide +kernel
theorem dK_divide_24 : decode cK_divide 24 = .ok (.getfield 15, 3) := by decide +kernel
theorem dK_divide_27 : decode cK_divide 27 = .ok (.iload 7, 2) := by decide +kernel
theorem dK_divide_29 : decode cK_divide 29 = .ok (.aload_n 2, 1) := by decide +kernel
theorem dK_divide_30 : decode cK_divide 30 = .ok (.iload 7, 2) := by decide +kernel
theorem dK_divide_32 : decode cK_divide 32 = .ok (.iconst 1, 1) := by decide +kernel
theorem dK_divide_33 : decode cK_divide 33 = .ok (.isub, 1) := by decide +kernel
theorem dK_divide_34 : decode cK_divide 34 = .ok (.invokevirtual 114, 3) := by decide +kernel
theorem dK_divide_37 : decode cK_divide 37 = .ok (.iastore, 1) := by decide +kernel
theorem dK_divide_38 : decode cK_divide 38 = .ok (.aload_n 0, 1) := by decide +kernel
theorem dK_divide_39 : decode cK_divide 39 = .ok (.getfield 18, 3) := by decide +kernel
theorem dK_divide_42 : decode cK_divide 42 = .ok (.iload 7, 2) := by decide +kernel
theorem dK_divide_44 : decode cK_divide 44 = .ok (.iconst 0, 1) := by decide +kernel
theorem dK_divide_45 : decode cK_divide 45 = .ok (.iastore, 1) := by decide +kernel
theorem dK_divide_46 : decode cK_divide 46 = .ok (.iinc 7 1, 3) := by decide +kernel
theorem dK_divide_49 : decode cK_divide 49 = .ok (.goto (-33), 3) := by decide +kernel
theorem dK_divide_52 : decode cK_divide 52 = .ok (.aload 5, 2) := by decide +kernel
theorem dK_divide_54 : decode cK_divide 54 = .ok (.invokevirtual 121, 3) := by decide +kernel
theorem dK_divide_57 : decode cK_divide 57 = .ok (.iconst 0, 1) := by decide +kernel
theorem dK_divide_58 : decode cK_divide 58 = .ok (.istore 7, 2) := by decide +kernel
theorem dK_divide_60 : decode cK_divide 60 = .ok (.iload 7, 2) := by decide +kernel
theorem dK_divide_62 : decode cK_divide 62 = .ok (.iload_n 3, 1) := by decide +kernel
theorem dK_divide_63 : decode cK_divide 63 = .ok (.if_icmp .ge 42, 3) := by decide +kernel
theorem dK_divide_66 : decode cK_divide 66 = .ok (.aload 5, 2) := by decide +kernel
theorem dK_divide_68 : decode cK_divide 68 = .ok (.getfield 111, 3) := by decide +kernel
theorem dK_divide_71 : decode cK_divide 71 = .ok (.iload 4, 2) := by decide +kernel
theorem dK_divide_73 : decode cK_divide 73 = .ok (.if_icmp .ge 32, 3) := by decide +kernel
theorem dK_divide_76 : decode cK_divide 76 = .ok (.aload_n 0, 1) := by decide +kernel
theorem dK_divide_77 : decode cK_divide 77 = .ok (.aload_n 1, 1) := by decide +kernel
theorem dK_divide_78 : decode cK_divide 78 = .ok (.iload 7, 2) := by decide +kernel
theorem dK_divide_80 : decode cK_divide 80 = .ok (.invokevirtual 114, 3) := by decide +kernel
theorem dK_divide_83 : decode cK_divide 83 = .ok (.iload 6, 2) := by decide +kernel
theorem dK_divide_85 : decode cK_divide 85 = .ok (.invokevirtual 149, 3) := by decide +kernel
theorem dK_divide_88 : decode cK_divide 88 = .ok (.aload 5, 2) := by decide +kernel
theorem dK_divide_90 : decode cK_divide 90 = .ok (.aload_n 0, 1) := by decide +kernel
theorem dK_divide_91 : decode cK_divide 91 = .ok (.iload 6, 2) := by decide +kernel
theorem dK_divide_93 : decode cK_divide 93 = .ok (.invokevirtual 152, 3) := by decide +kernel
theorem dK_divide_96 : decode cK_divide 96 = .ok (.invokevirtual 124, 3) := by decide +kernel
theorem dK_divide_99 : decode cK_divide 99 = .ok (.iinc 7 1, 3) := by decide +kernel
theorem dK_divide_102 : decode cK_divide 102 = .ok (.goto (-42), 3) := by decide +kernel
theorem dK_divide_105 : decode cK_divide 105 = .ok (.iload 7, 2) := by decide +kernel
theorem dK_divide_107 : decode cK_divide 107 = .ok (.ireturn, 1) := by decide +kernel
theorem dK_takeCells_0 : decode cK_takeCells 0 = .ok (.aload 4, 2) := by decide +kernel
theorem dK_takeCells_2 : decode cK_takeCells 2 = .ok (.invokevirtual 121, 3) := by decide +kernel
theorem dK_takeCells_5 : decode cK_takeCells 5 = .ok (.iload_n 1, 1) := by decide +kernel
theorem dK_takeCells_6 : decode cK_takeCells 6 = .ok (.aload_n 0, 1) := by decide +kernel
theorem dK_takeCells_7 : decode cK_takeCells 7 = .ok (.getfield 9, 3) := by decide +kernel
theorem dK_takeCells_10 : decode cK_takeCells 10 = .ok (.arraylength, 1) := by decide +kernel
theorem dK_takeCells_11 : decode cK_takeCells 11 = .ok (.invokestatic 84, 3) := by decide +kernel
theorem dK_takeCells_14 : decode cK_takeCells 14 = .ok (.iconst 1, 1) := by decide +kernel
theorem dK_takeCells_15 : decode cK_takeCells 15 = .ok (.isub, 1) := by decide +kernel
theorem dK_takeCells_16 : decode cK_takeCells 16 = .ok (.istore 5, 2) := by decide +kernel
theorem dK_takeCells_18 : decode cK_takeCells 18 = .ok (.iload 5, 2) := by decide +kernel
theorem dK_takeCells_20 : decode cK_takeCells 20 = .ok (.ifCond .lt 21, 3) := by decide +kernel
theorem dK_takeCells_23 : decode cK_takeCells 23 = .ok (.aload 4, 2) := by decide +kernel
theorem dK_takeCells_25 : decode cK_takeCells 25 = .ok (.aload_n 0, 1) := by decide +kernel
theorem dK_takeCells_26 : decode cK_takeCells 26 = .ok (.getfield 9, 3) := by decide +kernel
theorem dK_takeCells_29 : decode cK_takeCells 29 = .ok (.iload 5, 2) := by decide +kernel
theorem dK_takeCells_31 : decode cK_takeCells 31 = .ok (.iaload, 1) := by decide +kernel
theorem dK_takeCells_32 : decode cK_takeCells 32 = .ok (.invokevirtual 124, 3) := by decide +kernel
theorem dK_takeCells_35 : decode cK_takeCells 35 = .ok (.iinc 5 (-1), 3) := by decide +kernel
theorem dK_takeCells_38 : decode cK_takeCells 38 = .ok (.goto (-20), 3) := by decide +kernel
theorem dK_takeCells_41 : decode cK_takeCells 41 = .ok (.aload 4, 2) := by decide +kernel
theorem dK_takeCells_43 : decode cK_takeCells 43 = .ok (.iload_n 3, 1) := by decide +kernel
theorem dK_takeCells_44 : decode cK_takeCells 44 = .ok (.iload_n 2, 1) := by decide +kernel
theorem dK_takeCells_45 : decode cK_takeCells 45 = .ok (.invokevirtual 127, 3) := by decide +kernel
theorem dK_takeCells_48 : decode cK_takeCells 48 = .ok (.return_, 1) := by decide +kernel
theorem dK_crossSum_0 : decode cK_crossSum 0 = .ok (.iconst 0, 1) := by decide +kernel
theorem dK_crossSum_1 : decode cK_crossSum 1 = .ok (.istore_n 3, 1) := by decide +kernel
theorem dK_crossSum_2 : decode cK_crossSum 2 = .ok (.iconst 0, 1) := by decide +kernel
theorem dK_crossSum_3 : decode cK_crossSum 3 = .ok (.iload_n 2, 1) := by decide +kernel
theorem dK_crossSum_4 : decode cK_crossSum 4 = .ok (.aload_n 1, 1) := by decide +kernel
theorem dK_crossSum_5 : decode cK_crossSum 5 = .ok (.getfield 111, 3) := by decide +kernel
theorem dK_crossSum_8 : decode cK_crossSum 8 = .ok (.isub, 1) := by decide +kernel
theorem dK_crossSum_9 : decode cK_crossSum 9 = .ok (.iconst 1, 1) := by decide +kernel
theorem dK_crossSum_10 : decode cK_crossSum 10 = .ok (.iadd, 1) := by decide +kernel
theorem dK_crossSum_11 : decode cK_crossSum 11 = .ok (.invokestatic 93, 3) := by decide +kernel
theorem dK_crossSum_14 : decode cK_crossSum 14 = .ok (.istore 4, 2) := by decide +kernel
theorem dK_crossSum_16 : decode cK_crossSum 16 = .ok (.iload 4, 2) := by decide +kernel
theorem dK_crossSum_18 : decode cK_crossSum 18 = .ok (.iload_n 2, 1) := by decide +kernel
theorem dK_crossSum_19 : decode cK_crossSum 19 = .ok (.if_icmp .gt 50, 3) := by decide +kernel
theorem dK_crossSum_22 : decode cK_crossSum 22 = .ok (.iload 4, 2) := by decide +kernel
theorem dK_crossSum_24 : decode cK_crossSum 24 = .ok (.aload_n 0, 1) := by decide +kernel
theorem dK_crossSum_25 : decode cK_crossSum 25 = .ok (.getfield 111, 3) := by decide +kernel
theorem dK_crossSum_28 : decode cK_crossSum 28 = .ok (.if_icmp .ge 41, 3) := by decide +kernel
theorem dK_crossSum_31 : decode cK_crossSum 31 = .ok (.iload_n 3, 1) := by decide +kernel
theorem dK_crossSum_32 : decode cK_crossSum 32 = .ok (.aload_n 0, 1) := by decide +kernel
theorem dK_crossSum_33 : decode cK_crossSum 33 = .ok (.aload_n 0, 1) := by decide +kernel
theorem dK_crossSum_34 : decode cK_crossSum 34 = .ok (.getfield 111, 3) := by decide +kernel
theorem dK_crossSum_37 : decode cK_crossSum 37 = .ok (.iconst 1, 1) := by decide +kernel
theorem dK_crossSum_38 : decode cK_crossSum 38 = .ok (.isub, 1) := by decide +kernel
theorem dK_crossSum_39 : decode cK_crossSum 39 = .ok (.iload 4, 2) := by decide +kernel
theorem dK_crossSum_41 : decode cK_crossSum 41 = .ok (.isub, 1) := by decide +kernel
theorem dK_crossSum_42 : decode cK_crossSum 42 = .ok (.invokevirtual 114, 3) := by decide +kernel
theorem dK_crossSum_45 : decode cK_crossSum 45 = .ok (.aload_n 1, 1) := by decide +kernel
theorem dK_crossSum_46 : decode cK_crossSum 46 = .ok (.aload_n 1, 1) := by decide +kernel
theorem dK_crossSum_47 : decode cK_crossSum 47 = .ok (.getfield 111, 3) := by decide +kernel
theorem dK_crossSum_50 : decode cK_crossSum 50 = .ok (.iconst 1, 1) := by decide +kernel
theorem dK_crossSum_51 : decode cK_crossSum 51 = .ok (.isub, 1) := by decide +kernel
theorem dK_crossSum_52 : decode cK_crossSum 52 = .ok (.iload_n 2, 1) := by decide +kernel
theorem dK_crossSum_53 : decode cK_crossSum 53 = .ok (.iload 4, 2) := by decide +kernel
theorem dK_crossSum_55 : decode cK_crossSum 55 = .ok (.isub, 1) := by decide +kernel
theorem dK_crossSum_56 : decode cK_crossSum 56 = .ok (.isub, 1) := by decide +kernel
theorem dK_crossSum_57 : decode cK_crossSum 57 = .ok (.invokevirtual 114, 3) := by decide +kernel
theorem dK_crossSum_60 : decode cK_crossSum 60 = .ok (.imul, 1) := by decide +kernel
theorem dK_crossSum_61 : decode cK_crossSum 61 = .ok (.iadd, 1) := by decide +kernel
theorem dK_crossSum_62 : decode cK_crossSum 62 = .ok (.istore_n 3, 1) := by decide +kernel
theorem dK_crossSum_63 : decode cK_crossSum 63 = .ok (.iinc 4 1, 3) := by decide +kernel
theorem dK_crossSum_66 : decode cK_crossSum 66 = .ok (.goto (-50), 3) := by decide +kernel
theorem dK_crossSum_69 : decode cK_crossSum 69 = .ok (.iload_n 3, 1) := by decide +kernel
theorem dK_crossSum_70 : decode cK_crossSum 70 = .ok (.ireturn, 1) := by decide +kernel
theorem dK_product_0 : decode cK_product 0 = .ok (.aload_n 1, 1) := by decide +kernel
theorem dK_product_1 : decode cK_product 1 = .ok (.getfield 111, 3) := by decide +kernel
theorem dK_product_4 : decode cK_product 4 = .ok (.aload_n 2, 1) := by decide +kernel
theorem dK_product_5 : decode cK_product 5 = .ok (.getfield 111, 3) := by decide +kernel
theorem dK_product_8 : decode cK_product 8 = .ok (.iadd, 1) := by decide +kernel
theorem dK_product_9 : decode cK_product 9 = .ok (.aload_n 0, 1) := by decide +kernel
theorem dK_product_10 : decode cK_product 10 = .ok (.getfield 9, 3) := by decide +kernel
theorem dK_product_13 : decode cK_product 13 = .ok (.arraylength, 1) := by decide +kernel
theorem dK_product_14 : decode cK_product 14 = .ok (.invokestatic 84, 3) := by decide +kernel
theorem dK_product_17 : decode cK_product 17 = .ok (.istore 4, 2) := by decide +kernel
theorem dK_product_19 : decode cK_product 19 = .ok (.iconst 0, 1) := by decide +kernel
theorem dK_product_20 : decode cK_product 20 = .ok (.istore 5, 2) := by decide +kernel
theorem dK_product_22 : decode cK_product 22 = .ok (.iconst 0, 1) := by decide +kernel
theorem dK_product_23 : decode cK_product 23 = .ok (.istore 6, 2) := by decide +kernel
theorem dK_product_25 : decode cK_product 25 = .ok (.iload 6, 2) := by decide +kernel
theorem dK_product_27 : decode cK_product 27 = .ok (.iload 4, 2) := by decide +kernel
theorem dK_product_29 : decode cK_product 29 = .ok (.if_icmp .ge 40, 3) := by decide +kernel
theorem dK_product_32 : decode cK_product 32 = .ok (.iload 5, 2) := by decide +kernel
theorem dK_product_34 : decode cK_product 34 = .ok (.aload_n 1, 1) := by decide +kernel
theorem dK_product_35 : decode cK_product 35 = .ok (.aload_n 2, 1) := by decide +kernel
theorem dK_product_36 : decode cK_product 36 = .ok (.iload 6, 2) := by decide +kernel
theorem dK_product_38 : decode cK_product 38 = .ok (.invokestatic 131, 3) := by decide +kernel
theorem dK_product_41 : decode cK_product 41 = .ok (.iadd, 1) := by decide +kernel
theorem dK_product_42 : decode cK_product 42 = .ok (.istore 7, 2) := by decide +kernel
theorem dK_product_44 : decode cK_product 44 = .ok (.iload 7, 2) := by decide +kernel
theorem dK_product_46 : decode cK_product 46 = .ok (.bipush 10, 2) := by decide +kernel
theorem dK_product_48 : decode cK_product 48 = .ok (.idiv, 1) := by decide +kernel
theorem dK_product_49 : decode cK_product 49 = .ok (.istore 5, 2) := by decide +kernel
theorem dK_product_51 : decode cK_product 51 = .ok (.aload_n 0, 1) := by decide +kernel
theorem dK_product_52 : decode cK_product 52 = .ok (.getfield 9, 3) := by decide +kernel
theorem dK_product_55 : decode cK_product 55 = .ok (.iload 6, 2) := by decide +kernel
theorem dK_product_57 : decode cK_product 57 = .ok (.iload 7, 2) := by decide +kernel
theorem dK_product_59 : decode cK_product 59 = .ok (.bipush 10, 2) := by decide +kernel
theorem dK_product_61 : decode cK_product 61 = .ok (.irem, 1) := by decide +kernel
theorem dK_product_62 : decode cK_product 62 = .ok (.iastore, 1) := by decide +kernel
theorem dK_product_63 : decode cK_product 63 = .ok (.iinc 6 1, 3) := by decide +kernel
theorem dK_product_66 : decode cK_product 66 = .ok (.goto (-41), 3) := by decide +kernel
theorem dK_product_69 : decode cK_product 69 = .ok (.aload_n 0, 1) := by decide +kernel
theorem dK_product_70 : decode cK_product 70 = .ok (.iload 4, 2) := by decide +kernel
theorem dK_product_72 : decode cK_product 72 = .ok (.aload_n 1, 1) := by decide +kernel
theorem dK_product_73 : decode cK_product 73 = .ok (.getfield 81, 3) := by decide +kernel
theorem dK_product_76 : decode cK_product 76 = .ok (.aload_n 2, 1) := by decide +kernel
theorem dK_product_77 : decode cK_product 77 = .ok (.getfield 81, 3) := by decide +kernel
theorem dK_product_80 : decode cK_product 80 = .ok (.iadd, 1) := by decide +kernel
theorem dK_product_81 : decode cK_product 81 = .ok (.aload_n 1, 1) := by decide +kernel
theorem dK_product_82 : decode cK_product 82 = .ok (.getfield 39, 3) := by decide +kernel
theorem dK_product_85 : decode cK_product 85 = .ok (.aload_n 2, 1) := by decide +kernel
theorem dK_product_86 : decode cK_product 86 = .ok (.getfield 39, 3) := by decide +kernel
theorem dK_product_89 : decode cK_product 89 = .ok (.imul, 1) := by decide +kernel
theorem dK_product_90 : decode cK_product 90 = .ok (.aload_n 3, 1) := by decide +kernel
theorem dK_product_91 : decode cK_product 91 = .ok (.invokevirtual 100, 3) := by decide +kernel
theorem dK_product_94 : decode cK_product 94 = .ok (.return_, 1) := by decide +kernel
theorem dK_multiplyInto_0 : decode cK_multiplyInto 0 = .ok (.aload_n 0, 1) := by decide +kernel
theorem dK_multiplyInto_1 : decode cK_multiplyInto 1 = .ok (.aload_n 1, 1) := by decide +kernel
theorem dK_multiplyInto_2 : decode cK_multiplyInto 2 = .ok (.aload_n 2, 1) := by decide +kernel
theorem dK_multiplyInto_3 : decode cK_multiplyInto 3 = .ok (.aload_n 0, 1) := by decide +kernel
theorem dK_multiplyInto_4 : decode cK_multiplyInto 4 = .ok (.getfield 33, 3) := by decide +kernel
theorem dK_multiplyInto_7 : decode cK_multiplyInto 7 = .ok (.invokevirtual 47, 3) := by decide +kernel
theorem dK_multiplyInto_10 : decode cK_multiplyInto 10 = .ok (.aload_n 0, 1) := by decide +kernel
theorem dK_multiplyInto_11 : decode cK_multiplyInto 11 = .ok (.getfield 33, 3) := by decide +kernel
theorem dK_multiplyInto_14 : decode cK_multiplyInto 14 = .ok (.iload_n 3, 1) := by decide +kernel
theorem dK_multiplyInto_15 : decode cK_multiplyInto 15 = .ok (.invokevirtual 70, 3) := by decide +kernel
theorem dK_multiplyInto_18 : decode cK_multiplyInto 18 = .ok (.aload_n 1, 1) := by decide +kernel
theorem dK_multiplyInto_19 : decode cK_multiplyInto 19 = .ok (.aload_n 0, 1) := by decide +kernel
theorem dK_multiplyInto_20 : decode cK_multiplyInto 20 = .ok (.getfield 33, 3) := by decide +kernel
theorem dK_multiplyInto_23 : decode cK_multiplyInto 23 = .ok (.invokevirtual 73, 3) := by decide +kernel
theorem dK_multiplyInto_26 : decode cK_multiplyInto 26 = .ok (.return_, 1) := by decide +kernel
theorem dK_isBelow_0 : decode cK_isBelow 0 = .ok (.aload_n 0, 1) := by decide +kernel
theorem dK_isBelow_1 : decode cK_isBelow 1 = .ok (.invokevirtual 90, 3) := by decide +kernel
theorem dK_isBelow_4 : decode cK_isBelow 4 = .ok (.aload_n 1, 1) := by decide +kernel
theorem dK_isBelow_5 : decode cK_isBelow 5 = .ok (.invokevirtual 90, 3) := by decide +kernel
theorem dK_isBelow_8 : decode cK_isBelow 8 = .ok (.if_icmp .eq 20, 3) := by decide +kernel
theorem dK_isBelow_11 : decode cK_isBelow 11 = .ok (.aload_n 0, 1) := by decide +kernel
theorem dK_isBelow_12 : decode cK_isBelow 12 = .ok (.invokevirtual 90, 3) := by decide +kernel
theorem dK_isBelow_15 : decode cK_isBelow 15 = .ok (.aload_n 1, 1) := by decide +kernel
theorem dK_isBelow_16 : decode cK_isBelow 16 = .ok (.invokevirtual 90, 3) := by decide +kernel
theorem dK_isBelow_19 : decode cK_isBelow 19 = .ok (.if_icmp .ge 7, 3) := by decide +kernel
theorem dK_isBelow_22 : decode cK_isBelow 22 = .ok (.iconst 1, 1) := by decide +kernel
theorem dK_isBelow_23 : decode cK_isBelow 23 = .ok (.goto 4, 3) := by decide +kernel
theorem dK_isBelow_26 : decode cK_isBelow 26 = .ok (.iconst 0, 1) := by decide +kernel
theorem dK_isBelow_27 : decode cK_isBelow 27 = .ok (.ireturn, 1) := by decide +kernel
theorem dK_isBelow_28 : decode cK_isBelow 28 = .ok (.aload_n 0, 1) := by decide +kernel
theorem dK_isBelow_29 : decode cK_isBelow 29 = .ok (.getfield 111, 3) := by decide +kernel
theorem dK_isBelow_32 : decode cK_isBelow 32 = .ok (.aload_n 1, 1) := by decide +kernel
theorem dK_isBelow_33 : decode cK_isBelow 33 = .ok (.getfield 111, 3) := by decide +kernel
theorem dK_isBelow_36 : decode cK_isBelow 36 = .ok (.invokestatic 93, 3) := by decide +kernel
theorem dK_isBelow_39 : decode cK_isBelow 39 = .ok (.istore_n 2, 1) := by decide +kernel
theorem dK_isBelow_40 : decode cK_isBelow 40 = .ok (.iconst 0, 1) := by decide +kernel
theorem dK_isBelow_41 : decode cK_isBelow 41 = .ok (.istore_n 3, 1) := by decide +kernel
theorem dK_isBelow_42 : decode cK_isBelow 42 = .ok (.iconst 0, 1) := by decide +kernel
theorem dK_isBelow_43 : decode cK_isBelow 43 = .ok (.istore 4, 2) := by decide +kernel
theorem dK_isBelow_45 : decode cK_isBelow 45 = .ok (.iload 4, 2) := by decide +kernel
theorem dK_isBelow_47 : decode cK_isBelow 47 = .ok (.iload_n 2, 1) := by decide +kernel
theorem dK_isBelow_48 : decode cK_isBelow 48 = .ok (.if_icmp .ge 27, 3) := by decide +kernel
theorem dK_isBelow_51 : decode cK_isBelow 51 = .ok (.iload_n 3, 1) := by decide +kernel
theorem dK_isBelow_52 : decode cK_isBelow 52 = .ok (.ifCond .ne 23, 3) := by decide +kernel
theorem dK_isBelow_55 : decode cK_isBelow 55 = .ok (.aload_n 0, 1) := by decide +kernel
theorem dK_isBelow_56 : decode cK_isBelow 56 = .ok (.iload 4, 2) := by decide +kernel
theorem dK_isBelow_58 : decode cK_isBelow 58 = .ok (.invokevirtual 114, 3) := by decide +kernel
theorem dK_isBelow_61 : decode cK_isBelow 61 = .ok (.aload_n 1, 1) := by decide +kernel
theorem dK_isBelow_62 : decode cK_isBelow 62 = .ok (.iload 4, 2) := by decide +kernel
theorem dK_isBelow_64 : decode cK_isBelow 64 = .ok (.invokevirtual 114, 3) := by decide +kernel
theorem dK_isBelow_67 : decode cK_isBelow 67 = .ok (.isub, 1) := by decide +kernel
theorem dK_isBelow_68 : decode cK_isBelow 68 = .ok (.istore_n 3, 1) := by decide +kernel
theorem dK_isBelow_69 : decode cK_isBelow 69 = .ok (.iinc 4 1, 3) := by decide +kernel
theorem dK_isBelow_72 : decode cK_isBelow 72 = .ok (.goto (-27), 3) := by decide +kernel
theorem dK_isBelow_75 : decode cK_isBelow 75 = .ok (.iload_n 3, 1) := by decide +kernel
theorem dK_isBelow_76 : decode cK_isBelow 76 = .ok (.ifCond .ge 7, 3) := by decide +kernel
theorem dK_isBelow_79 : decode cK_isBelow 79 = .ok (.iconst 1, 1) := by decide +kernel
theorem dK_isBelow_80 : decode cK_isBelow 80 = .ok (.goto 4, 3) := by decide +kernel
theorem dK_isBelow_83 : decode cK_isBelow 83 = .ok (.iconst 0, 1) := by decide +kernel
theorem dK_isBelow_84 : decode cK_isBelow 84 = .ok (.ireturn, 1) := by decide +kernel
theorem dK_fillCells_0 : decode cK_fillCells 0 = .ok (.iconst 0, 1) := by decide +kernel
theorem dK_fillCells_1 : decode cK_fillCells 1 = .ok (.istore 6, 2) := by decide +kernel
theorem dK_fillCells_3 : decode cK_fillCells 3 = .ok (.iconst 0, 1) := by decide +kernel
theorem dK_fillCells_4 : decode cK_fillCells 4 = .ok (.istore 7, 2) := by decide +kernel
theorem dK_fillCells_6 : decode cK_fillCells 6 = .ok (.iload 7, 2) := by decide +kernel
theorem dK_fillCells_8 : decode cK_fillCells 8 = .ok (.iload 5, 2) := by decide +kernel
theorem dK_fillCells_10 : decode cK_fillCells 10 = .ok (.if_icmp .ge 83, 3) := by decide +kernel
theorem dK_fillCells_13 : decode cK_fillCells 13 = .ok (.iload 7, 2) := by decide +kernel
theorem dK_fillCells_15 : decode cK_fillCells 15 = .ok (.aload_n 0, 1) := by decide +kernel
theorem dK_fillCells_16 : decode cK_fillCells 16 = .ok (.getfield 9, 3) := by decide +kernel
theorem dK_fillCells_19 : decode cK_fillCells 19 = .ok (.arraylength, 1) := by decide +kernel
theorem dK_fillCells_20 : decode cK_fillCells 20 = .ok (.if_icmp .ge 73, 3) := by decide +kernel
theorem dK_fillCells_23 : decode cK_fillCells 23 = .ok (.aload_n 1, 1) := by decide +kernel
theorem dK_fillCells_24 : decode cK_fillCells 24 = .ok (.iload 4, 2) := by decide +kernel
theorem dK_fillCells_26 : decode cK_fillCells 26 = .ok (.iload 7, 2) := by decide +kernel
theorem dK_fillCells_28 : decode cK_fillCells 28 = .ok (.iadd, 1) := by decide +kernel
theorem dK_fillCells_29 : decode cK_fillCells 29 = .ok (.invokevirtual 118, 3) := by decide +kernel
theorem dK_fillCells_32 : decode cK_fillCells 32 = .ok (.iload_n 3, 1) := by decide +kernel
theorem dK_fillCells_33 : decode cK_fillCells 33 = .ok (.aload_n 2, 1) := by decide +kernel
theorem dK_fillCells_34 : decode cK_fillCells 34 = .ok (.iload 4, 2) := by decide +kernel
theorem dK_fillCells_36 : decode cK_fillCells 36 = .ok (.iload 7, 2) := by decide +kernel
theorem dK_fillCells_38 : decode cK_fillCells 38 = .ok (.iadd, 1) := by decide +kernel
theorem dK_fillCells_39 : decode cK_fillCells 39 = .ok (.invokevirtual 118, 3) := by decide +kernel
theorem dK_fillCells_42 : decode cK_fillCells 42 = .ok (.imul, 1) := by decide +kernel
theorem dK_fillCells_43 : decode cK_fillCells 43 = .ok (.iadd, 1) := by decide +kernel
theorem dK_fillCells_44 : decode cK_fillCells 44 = .ok (.iload 6, 2) := by decide +kernel
theorem dK_fillCells_46 : decode cK_fillCells 46 = .ok (.iadd, 1) := by decide +kernel
theorem dK_fillCells_47 : decode cK_fillCells 47 = .ok (.istore 8, 2) := by decide +kernel
theorem dK_fillCells_49 : decode cK_fillCells 49 = .ok (.iload 8, 2) := by decide +kernel
theorem dK_fillCells_51 : decode cK_fillCells 51 = .ok (.ifCond .ge 7, 3) := by decide +kernel
theorem dK_fillCells_54 : decode cK_fillCells 54 = .ok (.iconst (-1), 1) := by decide +kernel
theorem dK_fillCells_55 : decode cK_fillCells 55 = .ok (.goto 15, 3) := by decide +kernel
theorem dK_fillCells_58 : decode cK_fillCells 58 = .ok (.iload 8, 2) := by decide +kernel
theorem dK_fillCells_60 : decode cK_fillCells 60 = .ok (.bipush 9, 2) := by decide +kernel
theorem dK_fillCells_62 : decode cK_fillCells 62 = .ok (.if_icmp .le 7, 3) := by decide +kernel
theorem dK_fillCells_65 : decode cK_fillCells 65 = .ok (.iconst 1, 1) := by decide +kernel
theorem dK_fillCells_66 : decode cK_fillCells 66 = .ok (.goto 4, 3) := by decide +kernel
theorem dK_fillCells_69 : decode cK_fillCells 69 = .ok (.iconst 0, 1) := by decide +kernel
theorem dK_fillCells_70 : decode cK_fillCells 70 = .ok (.istore 6, 2) := by decide +kernel
theorem dK_fillCells_72 : decode cK_fillCells 72 = .ok (.aload_n 0, 1) := by decide +kernel
theorem dK_fillCells_73 : decode cK_fillCells 73 = .ok (.getfield 9, 3) := by decide +kernel
theorem dK_fillCells_76 : decode cK_fillCells 76 = .ok (.iload 7, 2) := by decide +kernel
theorem dK_fillCells_78 : decode cK_fillCells 78 = .ok (.iload 8, 2) := by decide +kernel
theorem dK_fillCells_80 : decode cK_fillCells 80 = .ok (.bipush 10, 2) := by decide +kernel
theorem dK_fillCells_82 : decode cK_fillCells 82 = .ok (.iload 6, 2) := by decide +kernel
theorem dK_fillCells_84 : decode cK_fillCells 84 = .ok (.imul, 1) := by decide +kernel
theorem dK_fillCells_85 : decode cK_fillCells 85 = .ok (.isub, 1) := by decide +kernel
theorem dK_fillCells_86 : decode cK_fillCells 86 = .ok (.iastore, 1) := by decide +kernel
theorem dK_fillCells_87 : decode cK_fillCells 87 = .ok (.iinc 7 1, 3) := by decide +kernel
theorem dK_fillCells_90 : decode cK_fillCells 90 = .ok (.goto (-84), 3) := by decide +kernel
theorem dK_fillCells_93 : decode cK_fillCells 93 = .ok (.return_, 1) := by decide +kernel
theorem dK_nearTo_0 : decode cK_nearTo 0 = .ok (.aload_n 1, 1) := by decide +kernel
theorem dK_nearTo_1 : decode cK_nearTo 1 = .ok (.getfield 81, 3) := by decide +kernel
theorem dK_nearTo_4 : decode cK_nearTo 4 = .ok (.bipush 30, 2) := by decide +kernel
theorem dK_nearTo_6 : decode cK_nearTo 6 = .ok (.isub, 1) := by decide +kernel
theorem dK_nearTo_7 : decode cK_nearTo 7 = .ok (.istore_n 3, 1) := by decide +kernel
theorem dK_nearTo_8 : decode cK_nearTo 8 = .ok (.aload_n 2, 1) := by decide +kernel
theorem dK_nearTo_9 : decode cK_nearTo 9 = .ok (.invokevirtual 90, 3) := by decide +kernel
theorem dK_nearTo_12 : decode cK_nearTo 12 = .ok (.iload_n 3, 1) := by decide +kernel
theorem dK_nearTo_13 : decode cK_nearTo 13 = .ok (.if_icmp .le 5, 3) := by decide +kernel
theorem dK_nearTo_16 : decode cK_nearTo 16 = .ok (.aload_n 2, 1) := by decide +kernel
theorem dK_nearTo_17 : decode cK_nearTo 17 = .ok (.areturn, 1) := by decide +kernel
theorem dK_nearTo_18 : decode cK_nearTo 18 = .ok (.aload_n 0, 1) := by decide +kernel
theorem dK_nearTo_19 : decode cK_nearTo 19 = .ok (.getfield 26, 3) := by decide +kernel
theorem dK_nearTo_22 : decode cK_nearTo 22 = .ok (.iconst 1, 1) := by decide +kernel
theorem dK_nearTo_23 : decode cK_nearTo 23 = .ok (.invokevirtual 108, 3) := by decide +kernel
theorem dK_nearTo_26 : decode cK_nearTo 26 = .ok (.aload_n 0, 1) := by decide +kernel
theorem dK_nearTo_27 : decode cK_nearTo 27 = .ok (.getfield 26, 3) := by decide +kernel
theorem dK_nearTo_30 : decode cK_nearTo 30 = .ok (.iload_n 3, 1) := by decide +kernel
theorem dK_nearTo_31 : decode cK_nearTo 31 = .ok (.iconst 1, 1) := by decide +kernel
theorem dK_nearTo_32 : decode cK_nearTo 32 = .ok (.isub, 1) := by decide +kernel
theorem dK_nearTo_33 : decode cK_nearTo 33 = .ok (.putfield 81, 3) := by decide +kernel
theorem dK_nearTo_36 : decode cK_nearTo 36 = .ok (.aload_n 0, 1) := by decide +kernel
theorem dK_nearTo_37 : decode cK_nearTo 37 = .ok (.getfield 26, 3) := by decide +kernel
theorem dK_nearTo_40 : decode cK_nearTo 40 = .ok (.areturn, 1) := by decide +kernel
theorem dK_sum_0 : decode cK_sum 0 = .ok (.iload_n 3, 1) := by decide +kernel
theorem dK_sum_1 : decode cK_sum 1 = .ok (.ifCond .eq 11, 3) := by decide +kernel
theorem dK_sum_4 : decode cK_sum 4 = .ok (.aload_n 2, 1) := by decide +kernel
theorem dK_sum_5 : decode cK_sum 5 = .ok (.getfield 39, 3) := by decide +kernel
theorem dK_sum_8 : decode cK_sum 8 = .ok (.ineg, 1) := by decide +kernel
theorem dK_sum_9 : decode cK_sum 9 = .ok (.goto 7, 3) := by decide +kernel
theorem dK_sum_12 : decode cK_sum 12 = .ok (.aload_n 2, 1) := by decide +kernel
theorem dK_sum_13 : decode cK_sum 13 = .ok (.getfield 39, 3) := by decide +kernel
theorem dK_sum_16 : decode cK_sum 16 = .ok (.istore 5, 2) := by decide +kernel
theorem dK_sum_18 : decode cK_sum 18 = .ok (.aload_n 2, 1) := by decide +kernel
theorem dK_sum_19 : decode cK_sum 19 = .ok (.getfield 39, 3) := by decide +kernel
theorem dK_sum_22 : decode cK_sum 22 = .ok (.ifCond .ne 10, 3) := by decide +kernel
theorem dK_sum_25 : decode cK_sum 25 = .ok (.aload 4, 2) := by decide +kernel
theorem dK_sum_27 : decode cK_sum 27 = .ok (.aload_n 1, 1) := by decide +kernel
theorem dK_sum_28 : decode cK_sum 28 = .ok (.invokevirtual 73, 3) := by decide +kernel
theorem dK_sum_31 : decode cK_sum 31 = .ok (.return_, 1) := by decide +kernel
theorem dK_sum_32 : decode cK_sum 32 = .ok (.aload_n 1, 1) := by decide +kernel
theorem dK_sum_33 : decode cK_sum 33 = .ok (.getfield 39, 3) := by decide +kernel
theorem dK_sum_36 : decode cK_sum 36 = .ok (.ifCond .ne 17, 3) := by decide +kernel
theorem dK_sum_39 : decode cK_sum 39 = .ok (.aload 4, 2) := by decide +kernel
theorem dK_sum_41 : decode cK_sum 41 = .ok (.aload_n 2, 1) := by decide +kernel
theorem dK_sum_42 : decode cK_sum 42 = .ok (.invokevirtual 73, 3) := by decide +kernel
theorem dK_sum_45 : decode cK_sum 45 = .ok (.aload 4, 2) := by decide +kernel
theorem dK_sum_47 : decode cK_sum 47 = .ok (.iload 5, 2) := by decide +kernel
theorem dK_sum_49 : decode cK_sum 49 = .ok (.putfield 39, 3) := by decide +kernel
theorem dK_sum_52 : decode cK_sum 52 = .ok (.return_, 1) := by decide +kernel
theorem dK_sum_53 : decode cK_sum 53 = .ok (.aload_n 0, 1) := by decide +kernel
theorem dK_sum_54 : decode cK_sum 54 = .ok (.aload_n 2, 1) := by decide +kernel
theorem dK_sum_55 : decode cK_sum 55 = .ok (.aload_n 1, 1) := by decide +kernel
theorem dK_sum_56 : decode cK_sum 56 = .ok (.invokevirtual 77, 3) := by decide +kernel
theorem dK_sum_59 : decode cK_sum 59 = .ok (.astore 6, 2) := by decide +kernel
theorem dK_sum_61 : decode cK_sum 61 = .ok (.aload_n 0, 1) := by decide +kernel
theorem dK_sum_62 : decode cK_sum 62 = .ok (.aload_n 1, 1) := by decide +kernel
theorem dK_sum_63 : decode cK_sum 63 = .ok (.aload_n 2, 1) := by decide +kernel
theorem dK_sum_64 : decode cK_sum 64 = .ok (.invokevirtual 77, 3) := by decide +kernel
theorem dK_sum_67 : decode cK_sum 67 = .ok (.astore 7, 2) := by decide +kernel
theorem dK_sum_69 : decode cK_sum 69 = .ok (.aload 6, 2) := by decide +kernel
theorem dK_sum_71 : decode cK_sum 71 = .ok (.getfield 81, 3) := by decide +kernel
theorem dK_sum_74 : decode cK_sum 74 = .ok (.aload 7, 2) := by decide +kernel
theorem dK_sum_76 : decode cK_sum 76 = .ok (.getfield 81, 3) := by decide +kernel
theorem dK_sum_79 : decode cK_sum 79 = .ok (.invokestatic 84, 3) := by decide +kernel
theorem dK_sum_82 : decode cK_sum 82 = .ok (.istore 8, 2) := by decide +kernel
theorem dK_sum_84 : decode cK_sum 84 = .ok (.aload 6, 2) := by decide +kernel
theorem dK_sum_86 : decode cK_sum 86 = .ok (.invokevirtual 90, 3) := by decide +kernel
theorem dK_sum_89 : decode cK_sum 89 = .ok (.aload 7, 2) := by decide +kernel
theorem dK_sum_91 : decode cK_sum 91 = .ok (.invokevirtual 90, 3) := by decide +kernel
theorem dK_sum_94 : decode cK_sum 94 = .ok (.invokestatic 93, 3) := by decide +kernel
theorem dK_sum_97 : decode cK_sum 97 = .ok (.iload 8, 2) := by decide +kernel
theorem dK_sum_99 : decode cK_sum 99 = .ok (.isub, 1) := by decide +kernel
theorem dK_sum_100 : decode cK_sum 100 = .ok (.iconst 1, 1) := by decide +kernel
theorem dK_sum_101 : decode cK_sum 101 = .ok (.iadd, 1) := by decide +kernel
theorem dK_sum_102 : decode cK_sum 102 = .ok (.istore 9, 2) := by decide +kernel
theorem dK_sum_104 : decode cK_sum 104 = .ok (.aload_n 1, 1) := by decide +kernel
theorem dK_sum_105 : decode cK_sum 105 = .ok (.getfield 39, 3) := by decide +kernel
theorem dK_sum_108 : decode cK_sum 108 = .ok (.iload 5, 2) := by decide +kernel
theorem dK_sum_110 : decode cK_sum 110 = .ok (.if_icmp .ne 33, 3) := by decide +kernel
theorem dK_sum_113 : decode cK_sum 113 = .ok (.aload_n 0, 1) := by decide +kernel
theorem dK_sum_114 : decode cK_sum 114 = .ok (.aload 6, 2) := by decide +kernel
theorem dK_sum_116 : decode cK_sum 116 = .ok (.aload 7, 2) := by decide +kernel
theorem dK_sum_118 : decode cK_sum 118 = .ok (.iconst 1, 1) := by decide +kernel
theorem dK_sum_119 : decode cK_sum 119 = .ok (.iload 8, 2) := by decide +kernel
theorem dK_sum_121 : decode cK_sum 121 = .ok (.iload 9, 2) := by decide +kernel
theorem dK_sum_123 : decode cK_sum 123 = .ok (.invokevirtual 96, 3) := by decide +kernel
theorem dK_sum_126 : decode cK_sum 126 = .ok (.aload_n 0, 1) := by decide +kernel
theorem dK_sum_127 : decode cK_sum 127 = .ok (.iload 9, 2) := by decide +kernel
theorem dK_sum_129 : decode cK_sum 129 = .ok (.iload 8, 2) := by decide +kernel
theorem dK_sum_131 : decode cK_sum 131 = .ok (.aload_n 1, 1) := by decide +kernel
theorem dK_sum_132 : decode cK_sum 132 = .ok (.getfield 39, 3) := by decide +kernel
theorem dK_sum_135 : decode cK_sum 135 = .ok (.aload 4, 2) := by decide +kernel
theorem dK_sum_137 : decode cK_sum 137 = .ok (.invokevirtual 100, 3) := by decide +kernel
theorem dK_sum_140 : decode cK_sum 140 = .ok (.goto 68, 3) := by decide +kernel
theorem dK_sum_143 : decode cK_sum 143 = .ok (.aload 6, 2) := by decide +kernel
theorem dK_sum_145 : decode cK_sum 145 = .ok (.aload 7, 2) := by decide +kernel
theorem dK_sum_147 : decode cK_sum 147 = .ok (.invokestatic 104, 3) := by decide +kernel
theorem dK_sum_150 : decode cK_sum 150 = .ok (.ifCond .eq 31, 3) := by decide +kernel
theorem dK_sum_153 : decode cK_sum 153 = .ok (.aload_n 0, 1) := by decide +kernel
theorem dK_sum_154 : decode cK_sum 154 = .ok (.aload 7, 2) := by decide +kernel
theorem dK_sum_156 : decode cK_sum 156 = .ok (.aload 6, 2) := by decide +kernel
theorem dK_sum_158 : decode cK_sum 158 = .ok (.iconst (-1), 1) := by decide +kernel
theorem dK_sum_159 : decode cK_sum 159 = .ok (.iload 8, 2) := by decide +kernel
theorem dK_sum_161 : decode cK_sum 161 = .ok (.iload 9, 2) := by decide +kernel
theorem dK_sum_163 : decode cK_sum 163 = .ok (.invokevirtual 96, 3) := by decide +kernel
theorem dK_sum_166 : decode cK_sum 166 = .ok (.aload_n 0, 1) := by decide +kernel
theorem dK_sum_167 : decode cK_sum 167 = .ok (.iload 9, 2) := by decide +kernel
theorem dK_sum_169 : decode cK_sum 169 = .ok (.iload 8, 2) := by decide +kernel
theorem dK_sum_171 : decode cK_sum 171 = .ok (.iload 5, 2) := by decide +kernel
theorem dK_sum_173 : decode cK_sum 173 = .ok (.aload 4, 2) := by decide +kernel
theorem dK_sum_175 : decode cK_sum 175 = .ok (.invokevirtual 100, 3) := by decide +kernel
theorem dK_sum_178 : decode cK_sum 178 = .ok (.goto 30, 3) := by decide +kernel
theorem dK_sum_181 : decode cK_sum 181 = .ok (.aload_n 0, 1) := by decide +kernel
theorem dK_sum_182 : decode cK_sum 182 = .ok (.aload 6, 2) := by decide +kernel
theorem dK_sum_184 : decode cK_sum 184 = .ok (.aload 7, 2) := by decide +kernel
theorem dK_sum_186 : decode cK_sum 186 = .ok (.iconst (-1), 1) := by decide +kernel
theorem dK_sum_187 : decode cK_sum 187 = .ok (.iload 8, 2) := by decide +kernel
theorem dK_sum_189 : decode cK_sum 189 = .ok (.iload 9, 2) := by decide +kernel
theorem dK_sum_191 : decode cK_sum 191 = .ok (.invokevirtual 96, 3) := by decide +kernel
theorem dK_sum_194 : decode cK_sum 194 = .ok (.aload_n 0, 1) := by decide +kernel
theorem dK_sum_195 : decode cK_sum 195 = .ok (.iload 9, 2) := by decide +kernel
theorem dK_sum_197 : decode cK_sum 197 = .ok (.iload 8, 2) := by decide +kernel
theorem dK_sum_199 : decode cK_sum 199 = .ok (.aload_n 1, 1) := by decide +kernel
theorem dK_sum_200 : decode cK_sum 200 = .ok (.getfield 39, 3) := by decide +kernel
theorem dK_sum_203 : decode cK_sum 203 = .ok (.aload 4, 2) := by decide +kernel
theorem dK_sum_205 : decode cK_sum 205 = .ok (.invokevirtual 100, 3) := by decide +kernel
theorem dK_sum_208 : decode cK_sum 208 = .ok (.return_, 1) := by decide +kernel
theorem dK_quotient_0 : decode cK_quotient 0 = .ok (.aload_n 0, 1) := by decide +kernel
theorem dK_quotient_1 : decode cK_quotient 1 = .ok (.aload_n 1, 1) := by decide +kernel
theorem dK_quotient_2 : decode cK_quotient 2 = .ok (.aload_n 2, 1) := by decide +kernel
theorem dK_quotient_3 : decode cK_quotient 3 = .ok (.aload_n 2, 1) := by decide +kernel
theorem dK_quotient_4 : decode cK_quotient 4 = .ok (.getfield 111, 3) := by decide +kernel
theorem dK_quotient_7 : decode cK_quotient 7 = .ok (.iload_n 3, 1) := by decide +kernel
theorem dK_quotient_8 : decode cK_quotient 8 = .ok (.iadd, 1) := by decide +kernel
theorem dK_quotient_9 : decode cK_quotient 9 = .ok (.iconst 2, 1) := by decide +kernel
theorem dK_quotient_10 : decode cK_quotient 10 = .ok (.iadd, 1) := by decide +kernel
theorem dK_quotient_11 : decode cK_quotient 11 = .ok (.iload_n 3, 1) := by decide +kernel
theorem dK_quotient_12 : decode cK_quotient 12 = .ok (.iconst 1, 1) := by decide +kernel
theorem dK_quotient_13 : decode cK_quotient 13 = .ok (.iadd, 1) := by decide +kernel
theorem dK_quotient_14 : decode cK_quotient 14 = .ok (.aload 4, 2) := by decide +kernel
theorem dK_quotient_16 : decode cK_quotient 16 = .ok (.invokevirtual 135, 3) := by decide +kernel
theorem dK_quotient_19 : decode cK_quotient 19 = .ok (.istore 5, 2) := by decide +kernel
theorem dK_quotient_21 : decode cK_quotient 21 = .ok (.aload 4, 2) := by decide +kernel
theorem dK_quotient_23 : decode cK_quotient 23 = .ok (.aload_n 1, 1) := by decide +kernel
theorem dK_quotient_24 : decode cK_quotient 24 = .ok (.getfield 39, 3) := by decide +kernel
theorem dK_quotient_27 : decode cK_quotient 27 = .ok (.aload_n 2, 1) := by decide +kernel
theorem dK_quotient_28 : decode cK_quotient 28 = .ok (.getfield 39, 3) := by decide +kernel
theorem dK_quotient_31 : decode cK_quotient 31 = .ok (.imul, 1) := by decide +kernel
theorem dK_quotient_32 : decode cK_quotient 32 = .ok (.aload_n 1, 1) := by decide +kernel
theorem dK_quotient_33 : decode cK_quotient 33 = .ok (.invokevirtual 90, 3) := by decide +kernel
theorem dK_quotient_36 : decode cK_quotient 36 = .ok (.iload 5, 2) := by decide +kernel
theorem dK_quotient_38 : decode cK_quotient 38 = .ok (.isub, 1) := by decide +kernel
theorem dK_quotient_39 : decode cK_quotient 39 = .ok (.aload_n 2, 1) := by decide +kernel
theorem dK_quotient_40 : decode cK_quotient 40 = .ok (.getfield 81, 3) := by decide +kernel
theorem dK_quotient_43 : decode cK_quotient 43 = .ok (.isub, 1) := by decide +kernel
theorem dK_quotient_44 : decode cK_quotient 44 = .ok (.invokevirtual 127, 3) := by decide +kernel
theorem dK_quotient_47 : decode cK_quotient 47 = .ok (.aload 4, 2) := by decide +kernel
theorem dK_quotient_49 : decode cK_quotient 49 = .ok (.iload_n 3, 1) := by decide +kernel
theorem dK_quotient_50 : decode cK_quotient 50 = .ok (.invokevirtual 70, 3) := by decide +kernel
theorem dK_quotient_53 : decode cK_quotient 53 = .ok (.aload 4, 2) := by decide +kernel
theorem dK_quotient_55 : decode cK_quotient 55 = .ok (.invokevirtual 139, 3) := by decide +kernel
theorem dK_quotient_58 : decode cK_quotient 58 = .ok (.return_, 1) := by decide +kernel
theorem dK_partOf_0 : decode cK_partOf 0 = .ok (.aload 4, 2) := by decide +kernel
theorem dK_partOf_2 : decode cK_partOf 2 = .ok (.invokevirtual 121, 3) := by decide +kernel
theorem dK_partOf_5 : decode cK_partOf 5 = .ok (.aload_n 1, 1) := by decide +kernel
theorem dK_partOf_6 : decode cK_partOf 6 = .ok (.getfield 39, 3) := by decide +kernel
theorem dK_partOf_9 : decode cK_partOf 9 = .ok (.ifCond .ne 5, 3) := by decide +kernel
theorem dK_partOf_12 : decode cK_partOf 12 = .ok (.iconst 0, 1) := by decide +kernel
theorem dK_partOf_13 : decode cK_partOf 13 = .ok (.ireturn, 1) := by decide +kernel
theorem dK_partOf_14 : decode cK_partOf 14 = .ok (.aload_n 1, 1) := by decide +kernel
theorem dK_partOf_15 : decode cK_partOf 15 = .ok (.invokevirtual 90, 3) := by decide +kernel
theorem dK_partOf_18 : decode cK_partOf 18 = .ok (.aload_n 2, 1) := by decide +kernel
theorem dK_partOf_19 : decode cK_partOf 19 = .ok (.invokevirtual 90, 3) := by decide +kernel
theorem dK_partOf_22 : decode cK_partOf 22 = .ok (.isub, 1) := by decide +kernel
theorem dK_partOf_23 : decode cK_partOf 23 = .ok (.iload_n 3, 1) := by decide +kernel
theorem dK_partOf_24 : decode cK_partOf 24 = .ok (.if_icmp .le 6, 3) := by decide +kernel
theorem dK_partOf_27 : decode cK_partOf 27 = .ok (.bipush 26, 2) := by decide +kernel
theorem dK_partOf_29 : decode cK_partOf 29 = .ok (.ireturn, 1) := by decide +kernel
theorem dK_partOf_30 : decode cK_partOf 30 = .ok (.aload_n 0, 1) := by decide +kernel
theorem dK_partOf_31 : decode cK_partOf 31 = .ok (.aload_n 1, 1) := by decide +kernel
theorem dK_partOf_32 : decode cK_partOf 32 = .ok (.aload_n 2, 1) := by decide +kernel
theorem dK_partOf_33 : decode cK_partOf 33 = .ok (.aload_n 1, 1) := by decide +kernel
theorem dK_partOf_34 : decode cK_partOf 34 = .ok (.invokevirtual 90, 3) := by decide +kernel
theorem dK_partOf_37 : decode cK_partOf 37 = .ok (.aload_n 2, 1) := by decide +kernel
theorem dK_partOf_38 : decode cK_partOf 38 = .ok (.getfield 81, 3) := by decide +kernel
theorem dK_partOf_41 : decode cK_partOf 41 = .ok (.isub, 1) := by decide +kernel
theorem dK_partOf_42 : decode cK_partOf 42 = .ok (.iload_n 3, 1) := by decide +kernel
theorem dK_partOf_43 : decode cK_partOf 43 = .ok (.iconst 1, 1) := by decide +kernel
theorem dK_partOf_44 : decode cK_partOf 44 = .ok (.iadd, 1) := by decide +kernel
theorem dK_partOf_45 : decode cK_partOf 45 = .ok (.aload 4, 2) := by decide +kernel
theorem dK_partOf_47 : decode cK_partOf 47 = .ok (.invokevirtual 135, 3) := by decide +kernel
theorem dK_partOf_50 : decode cK_partOf 50 = .ok (.pop, 1) := by decide +kernel
theorem dK_partOf_51 : decode cK_partOf 51 = .ok (.aload 4, 2) := by decide +kernel
theorem dK_partOf_53 : decode cK_partOf 53 = .ok (.aload_n 1, 1) := by decide +kernel
theorem dK_partOf_54 : decode cK_partOf 54 = .ok (.getfield 39, 3) := by decide +kernel
theorem dK_partOf_57 : decode cK_partOf 57 = .ok (.aload_n 2, 1) := by decide +kernel
theorem dK_partOf_58 : decode cK_partOf 58 = .ok (.getfield 39, 3) := by decide +kernel
theorem dK_partOf_61 : decode cK_partOf 61 = .ok (.imul, 1) := by decide +kernel
theorem dK_partOf_62 : decode cK_partOf 62 = .ok (.iconst 0, 1) := by decide +kernel
theorem dK_partOf_63 : decode cK_partOf 63 = .ok (.invokevirtual 127, 3) := by decide +kernel
theorem dK_partOf_66 : decode cK_partOf 66 = .ok (.aload 4, 2) := by decide +kernel
theorem dK_partOf_68 : decode cK_partOf 68 = .ok (.getfield 111, 3) := by decide +kernel
theorem dK_partOf_71 : decode cK_partOf 71 = .ok (.iload_n 3, 1) := by decide +kernel
theorem dK_partOf_72 : decode cK_partOf 72 = .ok (.if_icmp .le 8, 3) := by decide +kernel
theorem dK_partOf_75 : decode cK_partOf 75 = .ok (.bipush 26, 2) := by decide +kernel
theorem dK_partOf_77 : decode cK_partOf 77 = .ok (.goto 4, 3) := by decide +kernel
theorem dK_partOf_80 : decode cK_partOf 80 = .ok (.iconst 0, 1) := by decide +kernel
theorem dK_partOf_81 : decode cK_partOf 81 = .ok (.ireturn, 1) := by decide +kernel
theorem dK_restOf_0 : decode cK_restOf 0 = .ok (.aload_n 0, 1) := by decide +kernel
theorem dK_restOf_1 : decode cK_restOf 1 = .ok (.aload_n 1, 1) := by decide +kernel
theorem dK_restOf_2 : decode cK_restOf 2 = .ok (.aload_n 2, 1) := by decide +kernel
theorem dK_restOf_3 : decode cK_restOf 3 = .ok (.iload_n 3, 1) := by decide +kernel
theorem dK_restOf_4 : decode cK_restOf 4 = .ok (.aload_n 0, 1) := by decide +kernel
theorem dK_restOf_5 : decode cK_restOf 5 = .ok (.getfield 30, 3) := by decide +kernel
theorem dK_restOf_8 : decode cK_restOf 8 = .ok (.invokevirtual 55, 3) := by decide +kernel
theorem dK_restOf_11 : decode cK_restOf 11 = .ok (.istore 5, 2) := by decide +kernel
theorem dK_restOf_13 : decode cK_restOf 13 = .ok (.iload 5, 2) := by decide +kernel
theorem dK_restOf_15 : decode cK_restOf 15 = .ok (.ifCond .ne 28, 3) := by decide +kernel
theorem dK_restOf_18 : decode cK_restOf 18 = .ok (.aload_n 0, 1) := by decide +kernel
theorem dK_restOf_19 : decode cK_restOf 19 = .ok (.aload_n 0, 1) := by decide +kernel
theorem dK_restOf_20 : decode cK_restOf 20 = .ok (.getfield 30, 3) := by decide +kernel
theorem dK_restOf_23 : decode cK_restOf 23 = .ok (.aload_n 2, 1) := by decide +kernel
theorem dK_restOf_24 : decode cK_restOf 24 = .ok (.aload_n 0, 1) := by decide +kernel
theorem dK_restOf_25 : decode cK_restOf 25 = .ok (.getfield 33, 3) := by decide +kernel
theorem dK_restOf_28 : decode cK_restOf 28 = .ok (.invokevirtual 47, 3) := by decide +kernel
theorem dK_restOf_31 : decode cK_restOf 31 = .ok (.aload_n 0, 1) := by decide +kernel
theorem dK_restOf_32 : decode cK_restOf 32 = .ok (.aload_n 1, 1) := by decide +kernel
theorem dK_restOf_33 : decode cK_restOf 33 = .ok (.aload_n 0, 1) := by decide +kernel
theorem dK_restOf_34 : decode cK_restOf 34 = .ok (.getfield 33, 3) := by decide +kernel
theorem dK_restOf_37 : decode cK_restOf 37 = .ok (.iconst 1, 1) := by decide +kernel
theorem dK_restOf_38 : decode cK_restOf 38 = .ok (.aload 4, 2) := by decide +kernel
theorem dK_restOf_40 : decode cK_restOf 40 = .ok (.invokevirtual 43, 3) := by decide +kernel
theorem dK_restOf_43 : decode cK_restOf 43 = .ok (.iload 5, 2) := by decide +kernel
theorem dK_restOf_45 : decode cK_restOf 45 = .ok (.ireturn, 1) := by decide +kernel
theorem dK_powerOf_0 : decode cK_powerOf 0 = .ok (.iload_n 2, 1) := by decide +kernel
theorem dK_powerOf_1 : decode cK_powerOf 1 = .ok (.sipush (-999), 3) := by decide +kernel
theorem dK_powerOf_4 : decode cK_powerOf 4 = .ok (.if_icmp .lt 10, 3) := by decide +kernel
theorem dK_powerOf_7 : decode cK_powerOf 7 = .ok (.iload_n 2, 1) := by decide +kernel
theorem dK_powerOf_8 : decode cK_powerOf 8 = .ok (.sipush 999, 3) := by decide +kernel
theorem dK_powerOf_11 : decode cK_powerOf 11 = .ok (.if_icmp .le 6, 3) := by decide +kernel
theorem dK_powerOf_14 : decode cK_powerOf 14 = .ok (.bipush 26, 2) := by decide +kernel
theorem dK_powerOf_16 : decode cK_powerOf 16 = .ok (.ireturn, 1) := by decide +kernel
theorem dK_powerOf_17 : decode cK_powerOf 17 = .ok (.iload_n 2, 1) := by decide +kernel
theorem dK_powerOf_18 : decode cK_powerOf 18 = .ok (.ifCond .ge 13, 3) := by decide +kernel
theorem dK_powerOf_21 : decode cK_powerOf 21 = .ok (.aload_n 1, 1) := by decide +kernel
theorem dK_powerOf_22 : decode cK_powerOf 22 = .ok (.getfield 39, 3) := by decide +kernel
theorem dK_powerOf_25 : decode cK_powerOf 25 = .ok (.ifCond .ne 6, 3) := by decide +kernel
theorem dK_powerOf_28 : decode cK_powerOf 28 = .ok (.bipush 42, 2) := by decide +kernel
theorem dK_powerOf_30 : decode cK_powerOf 30 = .ok (.ireturn, 1) := by decide +kernel
theorem dK_powerOf_31 : decode cK_powerOf 31 = .ok (.iload_n 2, 1) := by decide +kernel
theorem dK_powerOf_32 : decode cK_powerOf 32 = .ok (.invokestatic 142, 3) := by decide +kernel
theorem dK_powerOf_35 : decode cK_powerOf 35 = .ok (.istore 5, 2) := by decide +kernel
theorem dK_powerOf_37 : decode cK_powerOf 37 = .ok (.iload_n 3, 1) := by decide +kernel
theorem dK_powerOf_38 : decode cK_powerOf 38 = .ok (.iconst 1, 1) := by decide +kernel
theorem dK_powerOf_39 : decode cK_powerOf 39 = .ok (.iadd, 1) := by decide +kernel
theorem dK_powerOf_40 : decode cK_powerOf 40 = .ok (.iload 5, 2) := by decide +kernel
theorem dK_powerOf_42 : decode cK_powerOf 42 = .ok (.bipush 99, 2) := by decide +kernel
theorem dK_powerOf_44 : decode cK_powerOf 44 = .ok (.if_icmp .le 7, 3) := by decide +kernel
theorem dK_powerOf_47 : decode cK_powerOf 47 = .ok (.iconst 3, 1) := by decide +kernel
theorem dK_powerOf_48 : decode cK_powerOf 48 = .ok (.goto 15, 3) := by decide +kernel
theorem dK_powerOf_51 : decode cK_powerOf 51 = .ok (.iload 5, 2) := by decide +kernel
theorem dK_powerOf_53 : decode cK_powerOf 53 = .ok (.bipush 9, 2) := by decide +kernel
theorem dK_powerOf_55 : decode cK_powerOf 55 = .ok (.if_icmp .le 7, 3) := by decide +kernel
theorem dK_powerOf_58 : decode cK_powerOf 58 = .ok (.iconst 2, 1) := by decide +kernel
theorem dK_powerOf_59 : decode cK_powerOf 59 = .ok (.goto 4, 3) := by decide +kernel
theorem dK_powerOf_62 : decode cK_powerOf 62 = .ok (.iconst 1, 1) := by decide +kernel
theorem dK_powerOf_63 : decode cK_powerOf 63 = .ok (.iadd, 1) := by decide +kernel
theorem dK_powerOf_64 : decode cK_powerOf 64 = .ok (.istore 6, 2) := by decide +kernel
theorem dK_powerOf_66 : decode cK_powerOf 66 = .ok (.aload 4, 2) := by decide +kernel
theorem dK_powerOf_68 : decode cK_powerOf 68 = .ok (.iconst 1, 1) := by decide +kernel
theorem dK_powerOf_69 : decode cK_powerOf 69 = .ok (.invokevirtual 108, 3) := by decide +kernel
theorem dK_powerOf_72 : decode cK_powerOf 72 = .ok (.bipush 9, 2) := by decide +kernel
theorem dK_powerOf_74 : decode cK_powerOf 74 = .ok (.istore 7, 2) := by decide +kernel
theorem dK_powerOf_76 : decode cK_powerOf 76 = .ok (.iload 7, 2) := by decide +kernel
theorem dK_powerOf_78 : decode cK_powerOf 78 = .ok (.ifCond .lt 48, 3) := by decide +kernel
theorem dK_powerOf_81 : decode cK_powerOf 81 = .ok (.iload 5, 2) := by decide +kernel
theorem dK_powerOf_83 : decode cK_powerOf 83 = .ok (.iload 7, 2) := by decide +kernel
theorem dK_powerOf_85 : decode cK_powerOf 85 = .ok (.ishr, 1) := by decide +kernel
theorem dK_powerOf_86 : decode cK_powerOf 86 = .ok (.istore 8, 2) := by decide +kernel
theorem dK_powerOf_88 : decode cK_powerOf 88 = .ok (.iload 8, 2) := by decide +kernel
theorem dK_powerOf_90 : decode cK_powerOf 90 = .ok (.ifCond .eq 13, 3) := by decide +kernel
theorem dK_powerOf_93 : decode cK_powerOf 93 = .ok (.aload_n 0, 1) := by decide +kernel
theorem dK_powerOf_94 : decode cK_powerOf 94 = .ok (.aload 4, 2) := by decide +kernel
theorem dK_powerOf_96 : decode cK_powerOf 96 = .ok (.aload 4, 2) := by decide +kernel
theorem dK_powerOf_98 : decode cK_powerOf 98 = .ok (.iload 6, 2) := by decide +kernel
theorem dK_powerOf_100 : decode cK_powerOf 100 = .ok (.invokevirtual 145, 3) := by decide +kernel
theorem dK_powerOf_103 : decode cK_powerOf 103 = .ok (.iload 8, 2) := by decide +kernel
theorem dK_powerOf_105 : decode cK_powerOf 105 = .ok (.iconst 1, 1) := by decide +kernel
theorem dK_powerOf_106 : decode cK_powerOf 106 = .ok (.iand, 1) := by decide +kernel
theorem dK_powerOf_107 : decode cK_powerOf 107 = .ok (.iconst 1, 1) := by decide +kernel
theorem dK_powerOf_108 : decode cK_powerOf 108 = .ok (.if_icmp .ne 12, 3) := by decide +kernel
theorem dK_powerOf_111 : decode cK_powerOf 111 = .ok (.aload_n 0, 1) := by decide +kernel
theorem dK_powerOf_112 : decode cK_powerOf 112 = .ok (.aload 4, 2) := by decide +kernel
theorem dK_powerOf_114 : decode cK_powerOf 114 = .ok (.aload_n 1, 1) := by decide +kernel
theorem dK_powerOf_115 : decode cK_powerOf 115 = .ok (.iload 6, 2) := by decide +kernel
theorem dK_powerOf_117 : decode cK_powerOf 117 = .ok (.invokevirtual 145, 3) := by decide +kernel
theorem dK_powerOf_120 : decode cK_powerOf 120 = .ok (.iinc 7 (-1), 3) := by decide +kernel
theorem dK_powerOf_123 : decode cK_powerOf 123 = .ok (.goto (-47), 3) := by decide +kernel
theorem dK_powerOf_126 : decode cK_powerOf 126 = .ok (.iload_n 2, 1) := by decide +kernel
theorem dK_powerOf_127 : decode cK_powerOf 127 = .ok (.ifCond .ge 36, 3) := by decide +kernel
theorem dK_powerOf_130 : decode cK_powerOf 130 = .ok (.aload_n 0, 1) := by decide +kernel
theorem dK_powerOf_131 : decode cK_powerOf 131 = .ok (.getfield 36, 3) := by decide +kernel
theorem dK_powerOf_134 : decode cK_powerOf 134 = .ok (.iconst 1, 1) := by decide +kernel
theorem dK_powerOf_135 : decode cK_powerOf 135 = .ok (.invokevirtual 108, 3) := by decide +kernel
theorem dK_powerOf_138 : decode cK_powerOf 138 = .ok (.aload_n 0, 1) := by decide +kernel
theorem dK_powerOf_139 : decode cK_powerOf 139 = .ok (.aload_n 0, 1) := by decide +kernel
theorem dK_powerOf_140 : decode cK_powerOf 140 = .ok (.getfield 36, 3) := by decide +kernel
theorem dK_powerOf_143 : decode cK_powerOf 143 = .ok (.aload 4, 2) := by decide +kernel
theorem dK_powerOf_145 : decode cK_powerOf 145 = .ok (.iload 6, 2) := by decide +kernel
theorem dK_powerOf_147 : decode cK_powerOf 147 = .ok (.aload_n 0, 1) := by decide +kernel
theorem dK_powerOf_148 : decode cK_powerOf 148 = .ok (.getfield 33, 3) := by decide +kernel
theorem dK_powerOf_151 : decode cK_powerOf 151 = .ok (.invokevirtual 51, 3) := by decide +kernel
theorem dK_powerOf_154 : decode cK_powerOf 154 = .ok (.aload 4, 2) := by decide +kernel
theorem dK_powerOf_156 : decode cK_powerOf 156 = .ok (.aload_n 0, 1) := by decide +kernel
theorem dK_powerOf_157 : decode cK_powerOf 157 = .ok (.getfield 33, 3) := by decide +kernel
theorem dK_powerOf_160 : decode cK_powerOf 160 = .ok (.invokevirtual 73, 3) := by decide +kernel
theorem dK_powerOf_163 : decode cK_powerOf 163 = .ok (.aload 4, 2) := by decide +kernel
theorem dK_powerOf_165 : decode cK_powerOf 165 = .ok (.iload_n 3, 1) := by decide +kernel
theorem dK_powerOf_166 : decode cK_powerOf 166 = .ok (.invokevirtual 70, 3) := by decide +kernel
theorem dK_powerOf_169 : decode cK_powerOf 169 = .ok (.aload 4, 2) := by decide +kernel
theorem dK_powerOf_171 : decode cK_powerOf 171 = .ok (.invokevirtual 139, 3) := by decide +kernel
theorem dK_powerOf_174 : decode cK_powerOf 174 = .ok (.iconst 0, 1) := by decide +kernel
theorem dK_powerOf_175 : decode cK_powerOf 175 = .ok (.ireturn, 1) := by decide +kernel
theorem dK_reckon_0 : decode cK_reckon 0 = .ok (.iload_n 1, 1) := by decide +kernel
theorem dK_reckon_1 : decode cK_reckon 1 = .ok (.iconst 3, 1) := by decide +kernel
theorem dK_reckon_2 : decode cK_reckon 2 = .ok (.if_icmp .lt 18, 3) := by decide +kernel
theorem dK_reckon_5 : decode cK_reckon 5 = .ok (.iload_n 1, 1) := by decide +kernel
theorem dK_reckon_6 : decode cK_reckon 6 = .ok (.iconst 5, 1) := by decide +kernel
theorem dK_reckon_7 : decode cK_reckon 7 = .ok (.if_icmp .gt 13, 3) := by decide +kernel
theorem dK_reckon_10 : decode cK_reckon 10 = .ok (.aload_n 3, 1) := by decide +kernel
theorem dK_reckon_11 : decode cK_reckon 11 = .ok (.getfield 39, 3) := by decide +kernel
theorem dK_reckon_14 : decode cK_reckon 14 = .ok (.ifCond .ne 6, 3) := by decide +kernel
theorem dK_reckon_17 : decode cK_reckon 17 = .ok (.bipush 42, 2) := by decide +kernel
theorem dK_reckon_19 : decode cK_reckon 19 = .ok (.ireturn, 1) := by decide +kernel
theorem dK_reckon_20 : decode cK_reckon 20 = .ok (.iconst 0, 1) := by decide +kernel
theorem dK_reckon_21 : decode cK_reckon 21 = .ok (.istore 6, 2) := by decide +kernel
theorem dK_reckon_23 : decode cK_reckon 23 = .ok (.iload_n 1, 1) := by decide +kernel
theorem dK_reckon_24 : decode cK_reckon 24 = .ok (.tableswitch 118 0 5 #[40, 52, 64, 75, 88, 103], 40) := by decide +kernel
theorem dK_reckon_64 : decode cK_reckon 64 = .ok (.aload_n 0, 1) := by decide +kernel
theorem dK_reckon_65 : decode cK_reckon 65 = .ok (.aload_n 2, 1) := by decide +kernel
theorem dK_reckon_66 : decode cK_reckon 66 = .ok (.aload_n 3, 1) := by decide +kernel
theorem dK_reckon_67 : decode cK_reckon 67 = .ok (.iconst 0, 1) := by decide +kernel
theorem dK_reckon_68 : decode cK_reckon 68 = .ok (.aload 5, 2) := by decide +kernel
theorem dK_reckon_70 : decode cK_reckon 70 = .ok (.invokevirtual 43, 3) := by decide +kernel
theorem dK_reckon_73 : decode cK_reckon 73 = .ok (.goto 84, 3) := by decide +kernel
theorem dK_reckon_76 : decode cK_reckon 76 = .ok (.aload_n 0, 1) := by decide +kernel
theorem dK_reckon_77 : decode cK_reckon 77 = .ok (.aload_n 2, 1) := by decide +kernel
theorem dK_reckon_78 : decode cK_reckon 78 = .ok (.aload_n 3, 1) := by decide +kernel
theorem dK_reckon_79 : decode cK_reckon 79 = .ok (.iconst 1, 1) := by decide +kernel
theorem dK_reckon_80 : decode cK_reckon 80 = .ok (.aload 5, 2) := by decide +kernel
theorem dK_reckon_82 : decode cK_reckon 82 = .ok (.invokevirtual 43, 3) := by decide +kernel
theorem dK_reckon_85 : decode cK_reckon 85 = .ok (.goto 72, 3) := by decide +kernel
theorem dK_reckon_88 : decode cK_reckon 88 = .ok (.aload_n 0, 1) := by decide +kernel
theorem dK_reckon_89 : decode cK_reckon 89 = .ok (.aload_n 2, 1) := by decide +kernel
theorem dK_reckon_90 : decode cK_reckon 90 = .ok (.aload_n 3, 1) := by decide +kernel
theorem dK_reckon_91 : decode cK_reckon 91 = .ok (.aload 5, 2) := by decide +kernel
theorem dK_reckon_93 : decode cK_reckon 93 = .ok (.invokevirtual 47, 3) := by decide +kernel
theorem dK_reckon_96 : decode cK_reckon 96 = .ok (.goto 61, 3) := by decide +kernel
theorem dK_reckon_99 : decode cK_reckon 99 = .ok (.aload_n 0, 1) := by decide +kernel
theorem dK_reckon_100 : decode cK_reckon 100 = .ok (.aload_n 2, 1) := by decide +kernel
theorem dK_reckon_101 : decode cK_reckon 101 = .ok (.aload_n 3, 1) := by decide +kernel
theorem dK_reckon_102 : decode cK_reckon 102 = .ok (.iload 4, 2) := by decide +kernel
theorem dK_reckon_104 : decode cK_reckon 104 = .ok (.aload 5, 2) := by decide +kernel
theorem dK_reckon_106 : decode cK_reckon 106 = .ok (.invokevirtual 51, 3) := by decide +kernel
theorem dK_reckon_109 : decode cK_reckon 109 = .ok (.goto 48, 3) := by decide +kernel
theorem dK_reckon_112 : decode cK_reckon 112 = .ok (.aload_n 0, 1) := by decide +kernel
theorem dK_reckon_113 : decode cK_reckon 113 = .ok (.aload_n 2, 1) := by decide +kernel
theorem dK_reckon_114 : decode cK_reckon 114 = .ok (.aload_n 3, 1) := by decide +kernel
theorem dK_reckon_115 : decode cK_reckon 115 = .ok (.iload 4, 2) := by decide +kernel
theorem dK_reckon_117 : decode cK_reckon 117 = .ok (.aload 5, 2) := by decide +kernel
theorem dK_reckon_119 : decode cK_reckon 119 = .ok (.invokevirtual 55, 3) := by decide +kernel
theorem dK_reckon_122 : decode cK_reckon 122 = .ok (.istore 6, 2) := by decide +kernel
theorem dK_reckon_124 : decode cK_reckon 124 = .ok (.goto 33, 3) := by decide +kernel
theorem dK_reckon_127 : decode cK_reckon 127 = .ok (.aload_n 0, 1) := by decide +kernel
theorem dK_reckon_128 : decode cK_reckon 128 = .ok (.aload_n 2, 1) := by decide +kernel
theorem dK_reckon_129 : decode cK_reckon 129 = .ok (.aload_n 3, 1) := by decide +kernel
theorem dK_reckon_130 : decode cK_reckon 130 = .ok (.iload 4, 2) := by decide +kernel
theorem dK_reckon_132 : decode cK_reckon 132 = .ok (.aload 5, 2) := by decide +kernel
theorem dK_reckon_134 : decode cK_reckon 134 = .ok (.invokevirtual 59, 3) := by decide +kernel
theorem dK_reckon_137 : decode cK_reckon 137 = .ok (.istore 6, 2) := by decide +kernel
theorem dK_reckon_139 : decode cK_reckon 139 = .ok (.goto 18, 3) := by decide +kernel
theorem dK_reckon_142 : decode cK_reckon 142 = .ok (.aload_n 0, 1) := by decide +kernel
theorem dK_reckon_143 : decode cK_reckon 143 = .ok (.aload_n 2, 1) := by decide +kernel
theorem dK_reckon_144 : decode cK_reckon 144 = .ok (.aload_n 3, 1) := by decide +kernel
theorem dK_reckon_145 : decode cK_reckon 145 = .ok (.invokevirtual 62, 3) := by decide +kernel
theorem dK_reckon_148 : decode cK_reckon 148 = .ok (.iload 4, 2) := by decide +kernel
theorem dK_reckon_150 : decode cK_reckon 150 = .ok (.aload 5, 2) := by decide +kernel
theorem dK_reckon_152 : decode cK_reckon 152 = .ok (.invokevirtual 66, 3) := by decide +kernel
theorem dK_reckon_155 : decode cK_reckon 155 = .ok (.istore 6, 2) := by decide +kernel
theorem dK_reckon_157 : decode cK_reckon 157 = .ok (.aload 5, 2) := by decide +kernel
theorem dK_reckon_159 : decode cK_reckon 159 = .ok (.iload 4, 2) := by decide +kernel
theorem dK_reckon_161 : decode cK_reckon 161 = .ok (.invokevirtual 70, 3) := by decide +kernel
theorem dK_reckon_164 : decode cK_reckon 164 = .ok (.iload 6, 2) := by decide +kernel
theorem dK_reckon_166 : decode cK_reckon 166 = .ok (.ireturn, 1) := by decide +kernel
set_option maxHeartbeats 4000000 in
set_option maxRecDepth 100000 in
theorem b_K_takeAwayOnce_37 {X : wk_X} {G : cGt} (hI : wd_inj (vC G)) (C : wk_C X (vC G) cK_takeAwayOnce RK 5 0 0) {k6 : Int32 → Int32 → Hp → Option (Unit × Hp)} (hk6 : ∀ (v2 : Int32) (v3 : Int32) (h : Hp) (q : Unit × Hp), k6 v2 v3 h = some q → wk_Q X (vC G) none q.2 none → WW X (vC G) h 6 [(0, .ref (cad G 28)), (2, .int v2), (3, .int v3)] []) {v3 : Int32} {v4 : Int32} {s0 : Int32} {h : Hp} {q : Unit × Hp}  (hf : f_K_takeAwayOnce_37 k6 v3 v4 s0 h = some q) (hq : wk_Q X (vC G) none q.2 none) : WW X (vC G) h 37 [(0, .ref (cad G 28)), (3, .int v3), (4, .int v4)] [.int s0] := by
  unfold f_K_takeAwayOnce_37 at hf
  refine wk_istore_n C 2 dK_takeAwayOnce_37 rfl (by decide) ?_
  refine wk_aload_n C 0 dK_takeAwayOnce_38 rfl rfl ?_
  refine gf_K_18 C dK_takeAwayOnce_39 ?_
  refine wk_iload_n C 3 dK_takeAwayOnce_42 rfl rfl ?_
  refine wk_iload C dK_takeAwayOnce_43 rfl ?_
  refine wk_bipush C dK_takeAwayOnce_45 kbipush_10 ?_
  refine wk_iload_n C 2 dK_takeAwayOnce_47 rfl rfl ?_
  refine wk_imul C dK_takeAwayOnce_48 ?_
  refine wk_iadd C dK_takeAwayOnce_49 ?_
  obtain ⟨c_50, hf⟩ := chk_some hf
  refine as_37 C c_50 dK_takeAwayOnce_50 ?_
  refine wk_iinc C dK_takeAwayOnce_51 rfl kiconst_m1 (by decide) ?_
  refine wk_goto (tgt := 6) C dK_takeAwayOnce_54 rfl ?_
  exact wk_go (hk6 _ _ _ _ hf hq) (And.intro rfl (And.intro rfl (And.intro rfl trivial)))
set_option maxHeartbeats 4000000 in
set_option maxRecDepth 100000 in
theorem b_K_takeAwayOnce_6 {X : wk_X} {G : cGt} (hI : wd_inj (vC G)) (C : wk_C X (vC G) cK_takeAwayOnce RK 5 0 0) : ∀ (n : Nat) {v2 : Int32} {v3 : Int32} {h : Hp} {q : Unit × Hp}  (hf : f_K_takeAwayOnce_6 n v2 v3 h = some q) (hq : wk_Q X (vC G) none q.2 none), WW X (vC G) h 6 [(0, .ref (cad G 28)), (2, .int v2), (3, .int v3)] [] := by
  intro n
  induction n with
  | zero =>
    intros
    rename_i hf _
    cases hf
  | succ n ih =>
    intro v2 v3 h q hf hq
    rw [f_K_takeAwayOnce_6] at hf
    refine wk_iload_n C 3 dK_takeAwayOnce_6 rfl rfl ?_
    refine wk_if_lt (tgt := 57) C dK_takeAwayOnce_7 rfl hf (fun c_7 hf => ?_) (fun c_7 hf => ?_)
    · cases hf
      exact wk_return C hq dK_takeAwayOnce_57
    · refine wk_aload_n C 0 dK_takeAwayOnce_10 rfl rfl ?_
      refine gf_K_18 C dK_takeAwayOnce_11 ?_
      refine wk_iload_n C 3 dK_takeAwayOnce_14 rfl rfl ?_
      obtain ⟨c_15, hf⟩ := chk_some hf
      refine al_37 C c_15 dK_takeAwayOnce_15 ?_
      refine wk_aload_n C 0 dK_takeAwayOnce_16 rfl rfl ?_
      refine gf_K_15 C dK_takeAwayOnce_17 ?_
      refine wk_iload_n C 3 dK_takeAwayOnce_20 rfl rfl ?_
      obtain ⟨c_21, hf⟩ := chk_some hf
      refine al_36 C c_21 dK_takeAwayOnce_21 ?_
      refine wk_isub C dK_takeAwayOnce_22 ?_
      refine wk_iload_n C 2 dK_takeAwayOnce_23 rfl rfl ?_
      refine wk_isub C dK_takeAwayOnce_24 ?_
      refine wk_istore C dK_takeAwayOnce_25 (by decide) ?_
      refine wk_iload C dK_takeAwayOnce_27 rfl ?_
      refine wk_if_ge (tgt := 36) C dK_takeAwayOnce_29 rfl hf (fun c_29 hf => ?_) (fun c_29 hf => ?_)
      · refine wk_iconst C dK_takeAwayOnce_36 kiconst_0 ?_
        exact wk_go (b_K_takeAwayOnce_37 hI C (fun _ _ _ _ hf hq => ih hf hq) hf hq) (And.intro rfl (And.intro rfl (And.intro rfl trivial)))
      · refine wk_iconst C dK_takeAwayOnce_32 kiconst_1 ?_
        refine wk_goto (tgt := 37) C dK_takeAwayOnce_33 rfl ?_
        exact wk_go (b_K_takeAwayOnce_37 hI C (fun _ _ _ _ hf hq => ih hf hq) hf hq) (And.intro rfl (And.intro rfl (And.intro rfl trivial)))
set_option maxHeartbeats 4000000 in
set_option maxRecDepth 100000 in
theorem b_K_takeAwayOnce {X : wk_X} {G : cGt} (hI : wd_inj (vC G)) (C : wk_C X (vC G) cK_takeAwayOnce RK 5 0 0) {v1 : Int32} {h : Hp} {q : Unit × Hp}  (hf : f_K_takeAwayOnce v1 h = some q) (hq : wk_Q X (vC G) none q.2 none) : WW X (vC G) h 0 [(0, .ref (cad G 28)), (1, .int v1)] [] := by
  unfold f_K_takeAwayOnce at hf
  refine wk_iconst C dK_takeAwayOnce_0 kiconst_0 ?_
  refine wk_istore_n C 2 dK_takeAwayOnce_1 rfl (by decide) ?_
  refine wk_iload_n C 1 dK_takeAwayOnce_2 rfl rfl ?_
  refine wk_iconst C dK_takeAwayOnce_3 kiconst_1 ?_
  refine wk_isub C dK_takeAwayOnce_4 ?_
  refine wk_istore_n C 3 dK_takeAwayOnce_5 rfl (by decide) ?_
  exact wk_go (b_K_takeAwayOnce_6 hI C fuel hf hq) (And.intro rfl (And.intro rfl (And.intro rfl trivial)))
theorem m_K_takeAwayOnce {l : Launch} {G : cGt} (hI : wd_inj (vC G)) {v1 : Int32} {h h' : Hp} {r : Unit}  (hf : f_K_takeAwayOnce v1 h = some (r, h')) : wk_M l (vC G) yK_takeAwayOnce cK_takeAwayOnce 5 none 0 0 [.ref (cad G 28), .int v1] h none h' :=
  wk_met hI (by decide +kernel) rfl (Nat.le_of_ble_eq_true rfl) (wk_cat1 rfl) (fun X hX C hq => by subst hX; exact b_K_takeAwayOnce hI C  hf hq)
set_option maxHeartbeats 4000000 in
set_option maxRecDepth 100000 in
theorem b_K_holdsDivisor_4 {X : wk_X} {G : cGt} (hI : wd_inj (vC G)) (C : wk_C X (vC G) cK_holdsDivisor RK 4 0 0) : ∀ (n : Nat) {v1 : Int32} {v2 : Int32} {v3 : Int32} {h : Hp} {q : Int32 × Hp}  (hf : f_K_holdsDivisor_4 n v1 v2 v3 h = some q) (hq : wk_Q X (vC G) (some (.int q.1)) q.2 (some .boolean)), WW X (vC G) h 4 [(0, .ref (cad G 28)), (1, .int v1), (2, .int v2), (3, .int v3)] [] := by
  intro n
  induction n with
  | zero =>
    intros
    rename_i hf _
    cases hf
  | succ n ih =>
    intro v1 v2 v3 h q hf hq
    rw [f_K_holdsDivisor_4] at hf
    refine wk_iload_n C 3 dK_holdsDivisor_4 rfl rfl ?_
    refine wk_iload_n C 1 dK_holdsDivisor_5 rfl rfl ?_
    refine wk_icmp_ge (tgt := 33) C dK_holdsDivisor_6 rfl hf (fun c_6 hf => ?_) (fun c_6 hf => ?_)
    · refine wk_iload_n C 2 dK_holdsDivisor_33 rfl rfl ?_
      refine wk_if_lt (tgt := 41) C dK_holdsDivisor_34 rfl hf (fun c_34 hf => ?_) (fun c_34 hf => ?_)
      · refine wk_iconst C dK_holdsDivisor_41 kiconst_0 ?_
        cases hf
        exact wk_zreturn C hq rfl dK_holdsDivisor_42
      · refine wk_iconst C dK_holdsDivisor_37 kiconst_1 ?_
        refine wk_goto (tgt := 42) C dK_holdsDivisor_38 rfl ?_
        cases hf
        exact wk_zreturn C hq rfl dK_holdsDivisor_42
    · refine wk_iload_n C 2 dK_holdsDivisor_9 rfl rfl ?_
      refine wk_if_ne (tgt := 33) C dK_holdsDivisor_10 rfl hf (fun c_10 hf => ?_) (fun c_10 hf => ?_)
      · refine wk_iload_n C 2 dK_holdsDivisor_33 rfl rfl ?_
        refine wk_if_lt (tgt := 41) C dK_holdsDivisor_34 rfl hf (fun c_34 hf => ?_) (fun c_34 hf => ?_)
        · refine wk_iconst C dK_holdsDivisor_41 kiconst_0 ?_
          cases hf
          exact wk_zreturn C hq rfl dK_holdsDivisor_42
        · refine wk_iconst C dK_holdsDivisor_37 kiconst_1 ?_
          refine wk_goto (tgt := 42) C dK_holdsDivisor_38 rfl ?_
          cases hf
          exact wk_zreturn C hq rfl dK_holdsDivisor_42
      · refine wk_aload_n C 0 dK_holdsDivisor_13 rfl rfl ?_
        refine gf_K_18 C dK_holdsDivisor_14 ?_
        refine wk_iload_n C 3 dK_holdsDivisor_17 rfl rfl ?_
        obtain ⟨c_18, hf⟩ := chk_some hf
        refine al_37 C c_18 dK_holdsDivisor_18 ?_
        refine wk_aload_n C 0 dK_holdsDivisor_19 rfl rfl ?_
        refine gf_K_15 C dK_holdsDivisor_20 ?_
        refine wk_iload_n C 3 dK_holdsDivisor_23 rfl rfl ?_
        obtain ⟨c_24, hf⟩ := chk_some hf
        refine al_36 C c_24 dK_holdsDivisor_24 ?_
        refine wk_isub C dK_holdsDivisor_25 ?_
        refine wk_istore_n C 2 dK_holdsDivisor_26 rfl (by decide) ?_
        refine wk_iinc C dK_holdsDivisor_27 rfl kiconst_1 (by decide) ?_
        refine wk_goto (tgt := 4) C dK_holdsDivisor_30 rfl ?_
        exact wk_go (ih hf hq) (And.intro rfl (And.intro rfl (And.intro rfl (And.intro rfl trivial))))
set_option maxHeartbeats 4000000 in
set_option maxRecDepth 100000 in
theorem b_K_holdsDivisor {X : wk_X} {G : cGt} (hI : wd_inj (vC G)) (C : wk_C X (vC G) cK_holdsDivisor RK 4 0 0) {v1 : Int32} {h : Hp} {q : Int32 × Hp}  (hf : f_K_holdsDivisor v1 h = some q) (hq : wk_Q X (vC G) (some (.int q.1)) q.2 (some .boolean)) : WW X (vC G) h 0 [(0, .ref (cad G 28)), (1, .int v1)] [] := by
  unfold f_K_holdsDivisor at hf
  refine wk_iconst C dK_holdsDivisor_0 kiconst_0 ?_
  refine wk_istore_n C 2 dK_holdsDivisor_1 rfl (by decide) ?_
  refine wk_iconst C dK_holdsDivisor_2 kiconst_0 ?_
  refine wk_istore_n C 3 dK_holdsDivisor_3 rfl (by decide) ?_
  exact wk_go (b_K_holdsDivisor_4 hI C fuel hf hq) (And.intro rfl (And.intro rfl (And.intro rfl (And.intro rfl trivial))))
theorem m_K_holdsDivisor {l : Launch} {G : cGt} (hI : wd_inj (vC G)) {v1 : Int32} {h h' : Hp} {r : Int32}  (hf : f_K_holdsDivisor v1 h = some (r, h')) : wk_M l (vC G) yK_holdsDivisor cK_holdsDivisor 4 (some .boolean) 0 0 [.ref (cad G 28), .int v1] h (some (.int r)) h' :=
  wk_met hI (by decide +kernel) rfl (Nat.le_of_ble_eq_true rfl) (wk_cat1 rfl) (fun X hX C hq => by subst hX; exact b_K_holdsDivisor hI C  hf hq)
set_option maxHeartbeats 4000000 in
set_option maxRecDepth 100000 in
theorem b_K_takeAwayAll_2 {X : wk_X} {G : cGt} (hI : wd_inj (vC G)) (C : wk_C X (vC G) cK_takeAwayAll RK 3 1 24) : ∀ (n : Nat) {v1 : Int32} {v2 : Int32} {h : Hp} {q : Int32 × Hp}  (hf : f_K_takeAwayAll_2 n v1 v2 h = some q) (hq : wk_Q X (vC G) (some (.int q.1)) q.2 (some .int)), WW X (vC G) h 2 [(0, .ref (cad G 28)), (1, .int v1), (2, .int v2)] [] := by
  intro n
  induction n with
  | zero =>
    intros
    rename_i hf _
    cases hf
  | succ n ih =>
    intro v1 v2 h q hf hq
    rw [f_K_takeAwayAll_2] at hf
    refine wk_iload_n C 2 dK_takeAwayAll_2 rfl rfl ?_
    refine wk_bipush C dK_takeAwayAll_3 kbipush_9 ?_
    refine wk_icmp_ge (tgt := 27) C dK_takeAwayAll_5 rfl hf (fun c_5 hf => ?_) (fun c_5 hf => ?_)
    · refine wk_iload_n C 2 dK_takeAwayAll_27 rfl rfl ?_
      cases hf
      exact wk_ireturn C hq dK_takeAwayAll_28
    · refine wk_aload_n C 0 dK_takeAwayAll_8 rfl rfl ?_
      refine wk_iload_n C 1 dK_takeAwayAll_9 rfl rfl ?_
      obtain ⟨r10, h10, e_10, hf⟩ := bd_some hf
      refine wk_callV (As := [.int v1]) (rest := []) C lw_good cw_K_155 wi_K_holdsDivisor (m_K_holdsDivisor hI e_10) lz_28 (he_28 G (h 28)) rfl rfl rfl (Nat.le_of_ble_eq_true rfl) (by decide) dK_takeAwayAll_10 ?_
      refine wk_if_eq (tgt := 27) C dK_takeAwayAll_13 rfl hf (fun c_13 hf => ?_) (fun c_13 hf => ?_)
      · refine wk_iload_n C 2 dK_takeAwayAll_27 rfl rfl ?_
        cases hf
        exact wk_ireturn C hq dK_takeAwayAll_28
      · refine wk_aload_n C 0 dK_takeAwayAll_16 rfl rfl ?_
        refine wk_iload_n C 1 dK_takeAwayAll_17 rfl rfl ?_
        obtain ⟨r18, h18, e_18, hf⟩ := bd_some hf
        refine wk_callV (As := [.int v1]) (rest := []) C lw_good cw_K_159 wi_K_takeAwayOnce (m_K_takeAwayOnce hI e_18) lz_28 (he_28 G (h10 28)) rfl rfl rfl (Nat.le_of_ble_eq_true rfl) (by decide) dK_takeAwayAll_18 ?_
        refine wk_iinc C dK_takeAwayAll_21 rfl kiconst_1 (by decide) ?_
        refine wk_goto (tgt := 2) C dK_takeAwayAll_24 rfl ?_
        exact wk_go (ih hf hq) (And.intro rfl (And.intro rfl (And.intro rfl trivial)))
set_option maxHeartbeats 4000000 in
set_option maxRecDepth 100000 in
theorem b_K_takeAwayAll {X : wk_X} {G : cGt} (hI : wd_inj (vC G)) (C : wk_C X (vC G) cK_takeAwayAll RK 3 1 24) {v1 : Int32} {h : Hp} {q : Int32 × Hp}  (hf : f_K_takeAwayAll v1 h = some q) (hq : wk_Q X (vC G) (some (.int q.1)) q.2 (some .int)) : WW X (vC G) h 0 [(0, .ref (cad G 28)), (1, .int v1)] [] := by
  unfold f_K_takeAwayAll at hf
  refine wk_iconst C dK_takeAwayAll_0 kiconst_0 ?_
  refine wk_istore_n C 2 dK_takeAwayAll_1 rfl (by decide) ?_
  exact wk_go (b_K_takeAwayAll_2 hI C fuel hf hq) (And.intro rfl (And.intro rfl (And.intro rfl trivial)))
theorem m_K_takeAwayAll {l : Launch} {G : cGt} (hI : wd_inj (vC G)) {v1 : Int32} {h h' : Hp} {r : Int32}  (hf : f_K_takeAwayAll v1 h = some (r, h')) : wk_M l (vC G) yK_takeAwayAll cK_takeAwayAll 3 (some .int) 1 24 [.ref (cad G 28), .int v1] h (some (.int r)) h' :=
  wk_met hI (by decide +kernel) rfl (Nat.le_of_ble_eq_true rfl) (wk_cat1 rfl) (fun X hX C hq => by subst hX; exact b_K_takeAwayAll hI C  hf hq)
set_option maxHeartbeats 4000000 in
set_option maxRecDepth 100000 in
theorem b_K_bringDown_2 {X : wk_X} {G : cGt} (hI : wd_inj (vC G)) (C : wk_C X (vC G) cK_bringDown RK 4 0 0) : ∀ (n : Nat) {v1 : Int32} {v2 : Int32} {v3 : Int32} {h : Hp} {q : Unit × Hp}  (hf : f_K_bringDown_2 n v1 v2 v3 h = some q) (hq : wk_Q X (vC G) none q.2 none), WW X (vC G) h 2 [(0, .ref (cad G 28)), (1, .int v1), (2, .int v2), (3, .int v3)] [] := by
  intro n
  induction n with
  | zero =>
    intros
    rename_i hf _
    cases hf
  | succ n ih =>
    intro v1 v2 v3 h q hf hq
    rw [f_K_bringDown_2] at hf
    refine wk_iload_n C 3 dK_bringDown_2 rfl rfl ?_
    refine wk_iload_n C 2 dK_bringDown_3 rfl rfl ?_
    refine wk_icmp_ge (tgt := 27) C dK_bringDown_4 rfl hf (fun c_4 hf => ?_) (fun c_4 hf => ?_)
    · refine wk_iload_n C 2 dK_bringDown_27 rfl rfl ?_
      refine wk_if_le (tgt := 40) C dK_bringDown_28 rfl hf (fun c_28 hf => ?_) (fun c_28 hf => ?_)
      · cases hf
        exact wk_return C hq dK_bringDown_40
      · refine wk_aload_n C 0 dK_bringDown_31 rfl rfl ?_
        refine gf_K_18 C dK_bringDown_32 ?_
        refine wk_iload_n C 2 dK_bringDown_35 rfl rfl ?_
        refine wk_iconst C dK_bringDown_36 kiconst_1 ?_
        refine wk_isub C dK_bringDown_37 ?_
        refine wk_iload_n C 1 dK_bringDown_38 rfl rfl ?_
        obtain ⟨c_39, hf⟩ := chk_some hf
        refine as_37 C c_39 dK_bringDown_39 ?_
        cases hf
        exact wk_return C hq dK_bringDown_40
    · refine wk_aload_n C 0 dK_bringDown_7 rfl rfl ?_
      refine gf_K_18 C dK_bringDown_8 ?_
      refine wk_iload_n C 3 dK_bringDown_11 rfl rfl ?_
      refine wk_iconst C dK_bringDown_12 kiconst_1 ?_
      refine wk_isub C dK_bringDown_13 ?_
      refine wk_aload_n C 0 dK_bringDown_14 rfl rfl ?_
      refine gf_K_18 C dK_bringDown_15 ?_
      refine wk_iload_n C 3 dK_bringDown_18 rfl rfl ?_
      obtain ⟨c_19, hf⟩ := chk_some hf
      refine al_37 C c_19 dK_bringDown_19 ?_
      obtain ⟨c_20, hf⟩ := chk_some hf
      refine as_37 C c_20 dK_bringDown_20 ?_
      refine wk_iinc C dK_bringDown_21 rfl kiconst_1 (by decide) ?_
      refine wk_goto (tgt := 2) C dK_bringDown_24 rfl ?_
      exact wk_go (ih hf hq) (And.intro rfl (And.intro rfl (And.intro rfl (And.intro rfl trivial))))
set_option maxHeartbeats 4000000 in
set_option maxRecDepth 100000 in
theorem b_K_bringDown {X : wk_X} {G : cGt} (hI : wd_inj (vC G)) (C : wk_C X (vC G) cK_bringDown RK 4 0 0) {v1 : Int32} {v2 : Int32} {h : Hp} {q : Unit × Hp}  (hf : f_K_bringDown v1 v2 h = some q) (hq : wk_Q X (vC G) none q.2 none) : WW X (vC G) h 0 [(0, .ref (cad G 28)), (1, .int v1), (2, .int v2)] [] := by
  unfold f_K_bringDown at hf
  refine wk_iconst C dK_bringDown_0 kiconst_1 ?_
  refine wk_istore_n C 3 dK_bringDown_1 rfl (by decide) ?_
  exact wk_go (b_K_bringDown_2 hI C fuel hf hq) (And.intro rfl (And.intro rfl (And.intro rfl (And.intro rfl trivial))))
theorem m_K_bringDown {l : Launch} {G : cGt} (hI : wd_inj (vC G)) {v1 : Int32} {v2 : Int32} {h h' : Hp} {r : Unit}  (hf : f_K_bringDown v1 v2 h = some (r, h')) : wk_M l (vC G) yK_bringDown cK_bringDown 4 none 0 0 [.ref (cad G 28), .int v1, .int v2] h none h' :=
  wk_met hI (by decide +kernel) rfl (Nat.le_of_ble_eq_true rfl) (wk_cat1 rfl) (fun X hX C hq => by subst hX; exact b_K_bringDown hI C  hf hq)
set_option maxHeartbeats 4000000 in
set_option maxRecDepth 100000 in
theorem b_K_divide_60 {X : wk_X} {G : cGt} (hI : wd_inj (vC G)) (C : wk_C X (vC G) cK_divide RK 8 2 46) : ∀ (n : Nat) {v1 : Nat} {v3 : Int32} {v4 : Int32} {v5 : Nat} {v6 : Int32} {v7 : Int32} {h : Hp} {q : Int32 × Hp} (k_v1 : cNum v1) (k_v5 : cNum v5) (hf : f_K_divide_60 n v1 v3 v4 v5 v6 v7 h = some q) (hq : wk_Q X (vC G) (some (.int q.1)) q.2 (some .int)), WW X (vC G) h 60 [(0, .ref (cad G 28)), (1, .ref (cad G v1)), (3, .int v3), (4, .int v4), (5, .ref (cad G v5)), (6, .int v6), (7, .int v7)] [] := by
  intro n
  induction n with
  | zero =>
    intros
    rename_i hf _
    cases hf
  | succ n ih =>
    intro v1 v3 v4 v5 v6 v7 h q k_v1 k_v5 hf hq
    rw [f_K_divide_60] at hf
    refine wk_iload C dK_divide_60 rfl ?_
    refine wk_iload_n C 3 dK_divide_62 rfl rfl ?_
    refine wk_icmp_ge (tgt := 105) C dK_divide_63 rfl hf (fun c_63 hf => ?_) (fun c_63 hf => ?_)
    · refine wk_iload C dK_divide_105 rfl ?_
      cases hf
      exact wk_ireturn C hq dK_divide_107
    · refine wk_aload C dK_divide_66 rfl ?_
      refine gf_K_111 C k_v5 dK_divide_68 ?_
      refine wk_iload C dK_divide_71 rfl ?_
      refine wk_icmp_ge (tgt := 105) C dK_divide_73 rfl hf (fun c_73 hf => ?_) (fun c_73 hf => ?_)
      · refine wk_iload C dK_divide_105 rfl ?_
        cases hf
        exact wk_ireturn C hq dK_divide_107
      · refine wk_aload_n C 0 dK_divide_76 rfl rfl ?_
        refine wk_aload_n C 1 dK_divide_77 rfl rfl ?_
        refine wk_iload C dK_divide_78 rfl ?_
        obtain ⟨r80, h80, e_80, hf⟩ := bd_some hf
        refine wk_callV (As := [.int v7]) (rest := [.ref (cad G 28)]) C lw_good cw_K_114 wi_N_digit (m_N_digit hI k_v1 e_80) (lz_cNum k_v1) (he_cNum k_v1) rfl rfl rfl (Nat.le_of_ble_eq_true rfl) (by decide) dK_divide_80 ?_
        refine wk_iload C dK_divide_83 rfl ?_
        obtain ⟨r85, h85, e_85, hf⟩ := bd_some hf
        refine wk_callV (As := [.int r80, .int v6]) (rest := []) C lw_good cw_K_149 wi_K_bringDown (m_K_bringDown hI e_85) lz_28 (he_28 G (h80 28)) rfl rfl rfl (Nat.le_of_ble_eq_true rfl) (by decide) dK_divide_85 ?_
        refine wk_aload C dK_divide_88 rfl ?_
        refine wk_aload_n C 0 dK_divide_90 rfl rfl ?_
        refine wk_iload C dK_divide_91 rfl ?_
        obtain ⟨r93, h93, e_93, hf⟩ := bd_some hf
        refine wk_callV (As := [.int v6]) (rest := [.ref (cad G v5)]) C lw_good cw_K_152 wi_K_takeAwayAll (m_K_takeAwayAll hI e_93) lz_28 (he_28 G (h85 28)) rfl rfl rfl (Nat.le_of_ble_eq_true rfl) (by decide) dK_divide_93 ?_
        obtain ⟨r96, h96, e_96, hf⟩ := bd_some hf
        refine wk_callV (As := [.int r93]) (rest := []) C lw_good cw_K_124 wi_N_push (m_N_push hI k_v5 e_96) (lz_cNum k_v5) (he_cNum k_v5) rfl rfl rfl (Nat.le_of_ble_eq_true rfl) (by decide) dK_divide_96 ?_
        refine wk_iinc C dK_divide_99 rfl kiconst_1 (by decide) ?_
        refine wk_goto (tgt := 60) C dK_divide_102 rfl ?_
        exact wk_go (ih k_v1 k_v5 hf hq) (And.intro rfl (And.intro rfl (And.intro rfl (And.intro rfl (And.intro rfl (And.intro rfl (And.intro rfl trivial)))))))
set_option maxHeartbeats 4000000 in
set_option maxRecDepth 100000 in
theorem b_K_divide_16 {X : wk_X} {G : cGt} (hI : wd_inj (vC G)) (C : wk_C X (vC G) cK_divide RK 8 2 46) : ∀ (n : Nat) {v1 : Nat} {v2 : Nat} {v3 : Int32} {v4 : Int32} {v5 : Nat} {v6 : Int32} {v7 : Int32} {h : Hp} {q : Int32 × Hp} (k_v1 : cNum v1) (k_v2 : cNum v2) (k_v5 : cNum v5) (hf : f_K_divide_16 n v1 v2 v3 v4 v5 v6 v7 h = some q) (hq : wk_Q X (vC G) (some (.int q.1)) q.2 (some .int)), WW X (vC G) h 16 [(0, .ref (cad G 28)), (1, .ref (cad G v1)), (2, .ref (cad G v2)), (3, .int v3), (4, .int v4), (5, .ref (cad G v5)), (6, .int v6), (7, .int v7)] [] := by
  intro n
  induction n with
  | zero =>
    intros
    rename_i hf _
    cases hf
  | succ n ih =>
    intro v1 v2 v3 v4 v5 v6 v7 h q k_v1 k_v2 k_v5 hf hq
    rw [f_K_divide_16] at hf
    refine wk_iload C dK_divide_16 rfl ?_
    refine wk_iload C dK_divide_18 rfl ?_
    refine wk_icmp_ge (tgt := 52) C dK_divide_20 rfl hf (fun c_20 hf => ?_) (fun c_20 hf => ?_)
    · refine wk_aload C dK_divide_52 rfl ?_
      obtain ⟨r54, h54, e_54, hf⟩ := bd_some hf
      refine wk_callV (As := []) (rest := []) C lw_good cw_K_121 wi_N_clear (m_N_clear hI k_v5 e_54) (lz_cNum k_v5) (he_cNum k_v5) rfl rfl rfl (Nat.le_of_ble_eq_true rfl) (by decide) dK_divide_54 ?_
      refine wk_iconst C dK_divide_57 kiconst_0 ?_
      refine wk_istore C dK_divide_58 (by decide) ?_
      exact wk_go (b_K_divide_60 hI C fuel k_v1 k_v5 hf hq) (And.intro rfl (And.intro rfl (And.intro rfl (And.intro rfl (And.intro rfl (And.intro rfl (And.intro rfl trivial)))))))
    · refine wk_aload_n C 0 dK_divide_23 rfl rfl ?_
      refine gf_K_15 C dK_divide_24 ?_
      refine wk_iload C dK_divide_27 rfl ?_
      refine wk_aload_n C 2 dK_divide_29 rfl rfl ?_
      refine wk_iload C dK_divide_30 rfl ?_
      refine wk_iconst C dK_divide_32 kiconst_1 ?_
      refine wk_isub C dK_divide_33 ?_
      obtain ⟨r34, h34, e_34, hf⟩ := bd_some hf
      refine wk_callV (As := [.int (v7 - 1)]) (rest := [.int v7, .ref (cad G 36)]) C lw_good cw_K_114 wi_N_digit (m_N_digit hI k_v2 e_34) (lz_cNum k_v2) (he_cNum k_v2) rfl rfl rfl (Nat.le_of_ble_eq_true rfl) (by decide) dK_divide_34 ?_
      obtain ⟨c_37, hf⟩ := chk_some hf
      refine as_36 C c_37 dK_divide_37 ?_
      refine wk_aload_n C 0 dK_divide_38 rfl rfl ?_
      refine gf_K_18 C dK_divide_39 ?_
      refine wk_iload C dK_divide_42 rfl ?_
      refine wk_iconst C dK_divide_44 kiconst_0 ?_
      obtain ⟨c_45, hf⟩ := chk_some hf
      refine as_37 C c_45 dK_divide_45 ?_
      refine wk_iinc C dK_divide_46 rfl kiconst_1 (by decide) ?_
      refine wk_goto (tgt := 16) C dK_divide_49 rfl ?_
      exact wk_go (ih k_v1 k_v2 k_v5 hf hq) (And.intro rfl (And.intro rfl (And.intro rfl (And.intro rfl (And.intro rfl (And.intro rfl (And.intro rfl (And.intro rfl trivial))))))))
set_option maxHeartbeats 4000000 in
set_option maxRecDepth 100000 in
theorem b_K_divide {X : wk_X} {G : cGt} (hI : wd_inj (vC G)) (C : wk_C X (vC G) cK_divide RK 8 2 46) {v1 : Nat} {v2 : Nat} {v3 : Int32} {v4 : Int32} {v5 : Nat} {h : Hp} {q : Int32 × Hp} (k_v1 : cNum v1) (k_v2 : cNum v2) (k_v5 : cNum v5) (hf : f_K_divide v1 v2 v3 v4 v5 h = some q) (hq : wk_Q X (vC G) (some (.int q.1)) q.2 (some .int)) : WW X (vC G) h 0 [(0, .ref (cad G 28)), (1, .ref (cad G v1)), (2, .ref (cad G v2)), (3, .int v3), (4, .int v4), (5, .ref (cad G v5))] [] := by
  unfold f_K_divide at hf
  refine wk_aload_n C 2 dK_divide_0 rfl rfl ?_
  refine gf_K_111 C k_v2 dK_divide_1 ?_
  refine wk_iconst C dK_divide_4 kiconst_1 ?_
  refine wk_iadd C dK_divide_5 ?_
  refine wk_bipush C dK_divide_6 kbipush_100 ?_
  refine wk_mmin C mw_K_84 ⟨Nat.le_of_ble_eq_true rfl, Nat.le_of_ble_eq_true rfl⟩ dK_divide_8 ?_
  refine wk_istore C dK_divide_11 (by decide) ?_
  refine wk_iconst C dK_divide_13 kiconst_0 ?_
  refine wk_istore C dK_divide_14 (by decide) ?_
  exact wk_go (b_K_divide_16 hI C fuel k_v1 k_v2 k_v5 hf hq) (And.intro rfl (And.intro rfl (And.intro rfl (And.intro rfl (And.intro rfl (And.intro rfl (And.intro rfl (And.intro rfl trivial))))))))
theorem m_K_divide {l : Launch} {G : cGt} (hI : wd_inj (vC G)) {v1 : Nat} {v2 : Nat} {v3 : Int32} {v4 : Int32} {v5 : Nat} {h h' : Hp} {r : Int32} (k_v1 : cNum v1) (k_v2 : cNum v2) (k_v5 : cNum v5) (hf : f_K_divide v1 v2 v3 v4 v5 h = some (r, h')) : wk_M l (vC G) yK_divide cK_divide 8 (some .int) 2 46 [.ref (cad G 28), .ref (cad G v1), .ref (cad G v2), .int v3, .int v4, .ref (cad G v5)] h (some (.int r)) h' :=
  wk_met hI (by decide +kernel) rfl (Nat.le_of_ble_eq_true rfl) (wk_cat1 rfl) (fun X hX C hq => by subst hX; exact b_K_divide hI C k_v1 k_v2 k_v5 hf hq)
set_option maxHeartbeats 4000000 in
set_option maxRecDepth 100000 in
theorem b_K_takeCells_18 {X : wk_X} {G : cGt} (hI : wd_inj (vC G)) (C : wk_C X (vC G) cK_takeCells RK 6 1 22) : ∀ (n : Nat) {v2 : Int32} {v3 : Int32} {v4 : Nat} {v5 : Int32} {h : Hp} {q : Unit × Hp} (k_v4 : cNum v4) (hf : f_K_takeCells_18 n v2 v3 v4 v5 h = some q) (hq : wk_Q X (vC G) none q.2 none), WW X (vC G) h 18 [(0, .ref (cad G 28)), (2, .int v2), (3, .int v3), (4, .ref (cad G v4)), (5, .int v5)] [] := by
  intro n
  induction n with
  | zero =>
    intros
    rename_i hf _
    cases hf
  | succ n ih =>
    intro v2 v3 v4 v5 h q k_v4 hf hq
    rw [f_K_takeCells_18] at hf
    refine wk_iload C dK_takeCells_18 rfl ?_
    refine wk_if_lt (tgt := 41) C dK_takeCells_20 rfl hf (fun c_20 hf => ?_) (fun c_20 hf => ?_)
    · refine wk_aload C dK_takeCells_41 rfl ?_
      refine wk_iload_n C 3 dK_takeCells_43 rfl rfl ?_
      refine wk_iload_n C 2 dK_takeCells_44 rfl rfl ?_
      obtain ⟨r45, h45, e_45, hf⟩ := bd_some hf
      refine wk_callV (As := [.int v3, .int v2]) (rest := []) C lw_good cw_K_127 wi_N_settle (m_N_settle hI k_v4 e_45) (lz_cNum k_v4) (he_cNum k_v4) rfl rfl rfl (Nat.le_of_ble_eq_true rfl) (by decide) dK_takeCells_45 ?_
      cases hf
      exact wk_return C hq dK_takeCells_48
    · refine wk_aload C dK_takeCells_23 rfl ?_
      refine wk_aload_n C 0 dK_takeCells_25 rfl rfl ?_
      refine gf_K_9 C dK_takeCells_26 ?_
      refine wk_iload C dK_takeCells_29 rfl ?_
      obtain ⟨c_31, hf⟩ := chk_some hf
      refine al_35 C c_31 dK_takeCells_31 ?_
      obtain ⟨r32, h32, e_32, hf⟩ := bd_some hf
      refine wk_callV (As := [.int (h 35 (Int32.toNatClampNeg v5))]) (rest := []) C lw_good cw_K_124 wi_N_push (m_N_push hI k_v4 e_32) (lz_cNum k_v4) (he_cNum k_v4) rfl rfl rfl (Nat.le_of_ble_eq_true rfl) (by decide) dK_takeCells_32 ?_
      refine wk_iinc C dK_takeCells_35 rfl kiconst_m1 (by decide) ?_
      refine wk_goto (tgt := 18) C dK_takeCells_38 rfl ?_
      exact wk_go (ih k_v4 hf hq) (And.intro rfl (And.intro rfl (And.intro rfl (And.intro rfl (And.intro rfl trivial)))))
set_option maxHeartbeats 4000000 in
set_option maxRecDepth 100000 in
theorem b_K_takeCells {X : wk_X} {G : cGt} (hI : wd_inj (vC G)) (C : wk_C X (vC G) cK_takeCells RK 6 1 22) {v1 : Int32} {v2 : Int32} {v3 : Int32} {v4 : Nat} {h : Hp} {q : Unit × Hp} (k_v4 : cNum v4) (hf : f_K_takeCells v1 v2 v3 v4 h = some q) (hq : wk_Q X (vC G) none q.2 none) : WW X (vC G) h 0 [(0, .ref (cad G 28)), (1, .int v1), (2, .int v2), (3, .int v3), (4, .ref (cad G v4))] [] := by
  unfold f_K_takeCells at hf
  refine wk_aload C dK_takeCells_0 rfl ?_
  obtain ⟨r2, h2, e_2, hf⟩ := bd_some hf
  refine wk_callV (As := []) (rest := []) C lw_good cw_K_121 wi_N_clear (m_N_clear hI k_v4 e_2) (lz_cNum k_v4) (he_cNum k_v4) rfl rfl rfl (Nat.le_of_ble_eq_true rfl) (by decide) dK_takeCells_2 ?_
  refine wk_iload_n C 1 dK_takeCells_5 rfl rfl ?_
  refine wk_aload_n C 0 dK_takeCells_6 rfl rfl ?_
  refine gf_K_9 C dK_takeCells_7 ?_
  refine an_35 C dK_takeCells_10 ?_
  refine wk_mmin C mw_K_84 ⟨Nat.le_of_ble_eq_true rfl, Nat.le_of_ble_eq_true rfl⟩ dK_takeCells_11 ?_
  refine wk_iconst C dK_takeCells_14 kiconst_1 ?_
  refine wk_isub C dK_takeCells_15 ?_
  refine wk_istore C dK_takeCells_16 (by decide) ?_
  exact wk_go (b_K_takeCells_18 hI C fuel k_v4 hf hq) (And.intro rfl (And.intro rfl (And.intro rfl (And.intro rfl (And.intro rfl trivial)))))
theorem m_K_takeCells {l : Launch} {G : cGt} (hI : wd_inj (vC G)) {v1 : Int32} {v2 : Int32} {v3 : Int32} {v4 : Nat} {h h' : Hp} {r : Unit} (k_v4 : cNum v4) (hf : f_K_takeCells v1 v2 v3 v4 h = some (r, h')) : wk_M l (vC G) yK_takeCells cK_takeCells 6 none 1 22 [.ref (cad G 28), .int v1, .int v2, .int v3, .ref (cad G v4)] h none h' :=
  wk_met hI (by decide +kernel) rfl (Nat.le_of_ble_eq_true rfl) (wk_cat1 rfl) (fun X hX C hq => by subst hX; exact b_K_takeCells hI C k_v4 hf hq)
set_option maxHeartbeats 4000000 in
set_option maxRecDepth 100000 in
theorem b_K_crossSum_16 {X : wk_X} {G : cGt} (hI : wd_inj (vC G)) (C : wk_C X (vC G) cK_crossSum RK 5 1 21) : ∀ (n : Nat) {v0 : Nat} {v1 : Nat} {v2 : Int32} {v3 : Int32} {v4 : Int32} {h : Hp} {q : Int32 × Hp} (k_v0 : cNum v0) (k_v1 : cNum v1) (hf : f_K_crossSum_16 n v0 v1 v2 v3 v4 h = some q) (hq : wk_Q X (vC G) (some (.int q.1)) q.2 (some .int)), WW X (vC G) h 16 [(0, .ref (cad G v0)), (1, .ref (cad G v1)), (2, .int v2), (3, .int v3), (4, .int v4)] [] := by
  intro n
  induction n with
  | zero =>
    intros
    rename_i hf _
    cases hf
  | succ n ih =>
    intro v0 v1 v2 v3 v4 h q k_v0 k_v1 hf hq
    rw [f_K_crossSum_16] at hf
    refine wk_iload C dK_crossSum_16 rfl ?_
    refine wk_iload_n C 2 dK_crossSum_18 rfl rfl ?_
    refine wk_icmp_gt (tgt := 69) C dK_crossSum_19 rfl hf (fun c_19 hf => ?_) (fun c_19 hf => ?_)
    · refine wk_iload_n C 3 dK_crossSum_69 rfl rfl ?_
      cases hf
      exact wk_ireturn C hq dK_crossSum_70
    · refine wk_iload C dK_crossSum_22 rfl ?_
      refine wk_aload_n C 0 dK_crossSum_24 rfl rfl ?_
      refine gf_K_111 C k_v0 dK_crossSum_25 ?_
      refine wk_icmp_ge (tgt := 69) C dK_crossSum_28 rfl hf (fun c_28 hf => ?_) (fun c_28 hf => ?_)
      · refine wk_iload_n C 3 dK_crossSum_69 rfl rfl ?_
        cases hf
        exact wk_ireturn C hq dK_crossSum_70
      · refine wk_iload_n C 3 dK_crossSum_31 rfl rfl ?_
        refine wk_aload_n C 0 dK_crossSum_32 rfl rfl ?_
        refine wk_aload_n C 0 dK_crossSum_33 rfl rfl ?_
        refine gf_K_111 C k_v0 dK_crossSum_34 ?_
        refine wk_iconst C dK_crossSum_37 kiconst_1 ?_
        refine wk_isub C dK_crossSum_38 ?_
        refine wk_iload C dK_crossSum_39 rfl ?_
        refine wk_isub C dK_crossSum_41 ?_
        obtain ⟨r42, h42, e_42, hf⟩ := bd_some hf
        refine wk_callV (As := [.int (((h v0 1) - 1) - v4)]) (rest := [.int v3]) C lw_good cw_K_114 wi_N_digit (m_N_digit hI k_v0 e_42) (lz_cNum k_v0) (he_cNum k_v0) rfl rfl rfl (Nat.le_of_ble_eq_true rfl) (by decide) dK_crossSum_42 ?_
        refine wk_aload_n C 1 dK_crossSum_45 rfl rfl ?_
        refine wk_aload_n C 1 dK_crossSum_46 rfl rfl ?_
        refine gf_K_111 C k_v1 dK_crossSum_47 ?_
        refine wk_iconst C dK_crossSum_50 kiconst_1 ?_
        refine wk_isub C dK_crossSum_51 ?_
        refine wk_iload_n C 2 dK_crossSum_52 rfl rfl ?_
        refine wk_iload C dK_crossSum_53 rfl ?_
        refine wk_isub C dK_crossSum_55 ?_
        refine wk_isub C dK_crossSum_56 ?_
        obtain ⟨r57, h57, e_57, hf⟩ := bd_some hf
        refine wk_callV (As := [.int (((h42 v1 1) - 1) - (v2 - v4))]) (rest := [.int r42, .int v3]) C lw_good cw_K_114 wi_N_digit (m_N_digit hI k_v1 e_57) (lz_cNum k_v1) (he_cNum k_v1) rfl rfl rfl (Nat.le_of_ble_eq_true rfl) (by decide) dK_crossSum_57 ?_
        refine wk_imul C dK_crossSum_60 ?_
        refine wk_iadd C dK_crossSum_61 ?_
        refine wk_istore_n C 3 dK_crossSum_62 rfl (by decide) ?_
        refine wk_iinc C dK_crossSum_63 rfl kiconst_1 (by decide) ?_
        refine wk_goto (tgt := 16) C dK_crossSum_66 rfl ?_
        exact wk_go (ih k_v0 k_v1 hf hq) (And.intro rfl (And.intro rfl (And.intro rfl (And.intro rfl (And.intro rfl trivial)))))
set_option maxHeartbeats 4000000 in
set_option maxRecDepth 100000 in
theorem b_K_crossSum {X : wk_X} {G : cGt} (hI : wd_inj (vC G)) (C : wk_C X (vC G) cK_crossSum RK 5 1 21) {v0 : Nat} {v1 : Nat} {v2 : Int32} {h : Hp} {q : Int32 × Hp} (k_v0 : cNum v0) (k_v1 : cNum v1) (hf : f_K_crossSum v0 v1 v2 h = some q) (hq : wk_Q X (vC G) (some (.int q.1)) q.2 (some .int)) : WW X (vC G) h 0 [(0, .ref (cad G v0)), (1, .ref (cad G v1)), (2, .int v2)] [] := by
  unfold f_K_crossSum at hf
  refine wk_iconst C dK_crossSum_0 kiconst_0 ?_
  refine wk_istore_n C 3 dK_crossSum_1 rfl (by decide) ?_
  refine wk_iconst C dK_crossSum_2 kiconst_0 ?_
  refine wk_iload_n C 2 dK_crossSum_3 rfl rfl ?_
  refine wk_aload_n C 1 dK_crossSum_4 rfl rfl ?_
  refine gf_K_111 C k_v1 dK_crossSum_5 ?_
  refine wk_isub C dK_crossSum_8 ?_
  refine wk_iconst C dK_crossSum_9 kiconst_1 ?_
  refine wk_iadd C dK_crossSum_10 ?_
  refine wk_mmax C mw_K_93 ⟨Nat.le_of_ble_eq_true rfl, Nat.le_of_ble_eq_true rfl⟩ dK_crossSum_11 ?_
  refine wk_istore C dK_crossSum_14 (by decide) ?_
  exact wk_go (b_K_crossSum_16 hI C fuel k_v0 k_v1 hf hq) (And.intro rfl (And.intro rfl (And.intro rfl (And.intro rfl (And.intro rfl trivial)))))
theorem m_K_crossSum {l : Launch} {G : cGt} (hI : wd_inj (vC G)) {v0 : Nat} {v1 : Nat} {v2 : Int32} {h h' : Hp} {r : Int32} (k_v0 : cNum v0) (k_v1 : cNum v1) (hf : f_K_crossSum v0 v1 v2 h = some (r, h')) : wk_M l (vC G) yK_crossSum cK_crossSum 5 (some .int) 1 21 [.ref (cad G v0), .ref (cad G v1), .int v2] h (some (.int r)) h' :=
  wk_met hI (by decide +kernel) rfl (Nat.le_of_ble_eq_true rfl) (wk_cat1 rfl) (fun X hX C hq => by subst hX; exact b_K_crossSum hI C k_v0 k_v1 hf hq)
set_option maxHeartbeats 4000000 in
set_option maxRecDepth 100000 in
theorem b_K_product_25 {X : wk_X} {G : cGt} (hI : wd_inj (vC G)) (C : wk_C X (vC G) cK_product RK 8 2 47) : ∀ (n : Nat) {v1 : Nat} {v2 : Nat} {v3 : Nat} {v4 : Int32} {v5 : Int32} {v6 : Int32} {h : Hp} {q : Unit × Hp} (k_v1 : cNum v1) (k_v2 : cNum v2) (k_v3 : cNum v3) (hf : f_K_product_25 n v1 v2 v3 v4 v5 v6 h = some q) (hq : wk_Q X (vC G) none q.2 none), WW X (vC G) h 25 [(0, .ref (cad G 28)), (1, .ref (cad G v1)), (2, .ref (cad G v2)), (3, .ref (cad G v3)), (4, .int v4), (5, .int v5), (6, .int v6)] [] := by
  intro n
  induction n with
  | zero =>
    intros
    rename_i hf _
    cases hf
  | succ n ih =>
    intro v1 v2 v3 v4 v5 v6 h q k_v1 k_v2 k_v3 hf hq
    rw [f_K_product_25] at hf
    refine wk_iload C dK_product_25 rfl ?_
    refine wk_iload C dK_product_27 rfl ?_
    refine wk_icmp_ge (tgt := 69) C dK_product_29 rfl hf (fun c_29 hf => ?_) (fun c_29 hf => ?_)
    · refine wk_aload_n C 0 dK_product_69 rfl rfl ?_
      refine wk_iload C dK_product_70 rfl ?_
      refine wk_aload_n C 1 dK_product_72 rfl rfl ?_
      refine gf_K_81 C k_v1 dK_product_73 ?_
      refine wk_aload_n C 2 dK_product_76 rfl rfl ?_
      refine gf_K_81 C k_v2 dK_product_77 ?_
      refine wk_iadd C dK_product_80 ?_
      refine wk_aload_n C 1 dK_product_81 rfl rfl ?_
      refine gf_K_39 C k_v1 dK_product_82 ?_
      refine wk_aload_n C 2 dK_product_85 rfl rfl ?_
      refine gf_K_39 C k_v2 dK_product_86 ?_
      refine wk_imul C dK_product_89 ?_
      refine wk_aload_n C 3 dK_product_90 rfl rfl ?_
      obtain ⟨r91, h91, e_91, hf⟩ := bd_some hf
      refine wk_callV (As := [.int v4, .int ((h v1 2) + (h v2 2)), .int ((h v1 3) * (h v2 3)), .ref (cad G v3)]) (rest := []) C lw_good cw_K_100 wi_K_takeCells (m_K_takeCells hI k_v3 e_91) lz_28 (he_28 G (h 28)) rfl rfl rfl (Nat.le_of_ble_eq_true rfl) (by decide) dK_product_91 ?_
      cases hf
      exact wk_return C hq dK_product_94
    · refine wk_iload C dK_product_32 rfl ?_
      refine wk_aload_n C 1 dK_product_34 rfl rfl ?_
      refine wk_aload_n C 2 dK_product_35 rfl rfl ?_
      refine wk_iload C dK_product_36 rfl ?_
      obtain ⟨r38, h38, e_38, hf⟩ := bd_some hf
      refine wk_callS (As := [.ref (cad G v1), .ref (cad G v2), .int v6]) (rest := [.int v5]) C lw_good cw_K_131 ws_K_crossSum (m_K_crossSum hI k_v1 k_v2 e_38) rfl rfl (Nat.le_of_ble_eq_true rfl) (by decide) dK_product_38 ?_
      refine wk_iadd C dK_product_41 ?_
      refine wk_istore C dK_product_42 (by decide) ?_
      refine wk_iload C dK_product_44 rfl ?_
      refine wk_bipush C dK_product_46 kbipush_10 ?_
      refine wk_idiv C dK_product_48 (by decide) ?_
      refine wk_istore C dK_product_49 (by decide) ?_
      refine wk_aload_n C 0 dK_product_51 rfl rfl ?_
      refine gf_K_9 C dK_product_52 ?_
      refine wk_iload C dK_product_55 rfl ?_
      refine wk_iload C dK_product_57 rfl ?_
      refine wk_bipush C dK_product_59 kbipush_10 ?_
      refine wk_irem C dK_product_61 (by decide) ?_
      obtain ⟨c_62, hf⟩ := chk_some hf
      refine as_35 C c_62 dK_product_62 ?_
      refine wk_iinc C dK_product_63 rfl kiconst_1 (by decide) ?_
      refine wk_goto (tgt := 25) C dK_product_66 rfl ?_
      exact wk_go (ih k_v1 k_v2 k_v3 hf hq) (And.intro rfl (And.intro rfl (And.intro rfl (And.intro rfl (And.intro rfl (And.intro rfl (And.intro rfl trivial)))))))
set_option maxHeartbeats 4000000 in
set_option maxRecDepth 100000 in
theorem b_K_product {X : wk_X} {G : cGt} (hI : wd_inj (vC G)) (C : wk_C X (vC G) cK_product RK 8 2 47) {v1 : Nat} {v2 : Nat} {v3 : Nat} {h : Hp} {q : Unit × Hp} (k_v1 : cNum v1) (k_v2 : cNum v2) (k_v3 : cNum v3) (hf : f_K_product v1 v2 v3 h = some q) (hq : wk_Q X (vC G) none q.2 none) : WW X (vC G) h 0 [(0, .ref (cad G 28)), (1, .ref (cad G v1)), (2, .ref (cad G v2)), (3, .ref (cad G v3))] [] := by
  unfold f_K_product at hf
  refine wk_aload_n C 1 dK_product_0 rfl rfl ?_
  refine gf_K_111 C k_v1 dK_product_1 ?_
  refine wk_aload_n C 2 dK_product_4 rfl rfl ?_
  refine gf_K_111 C k_v2 dK_product_5 ?_
  refine wk_iadd C dK_product_8 ?_
  refine wk_aload_n C 0 dK_product_9 rfl rfl ?_
  refine gf_K_9 C dK_product_10 ?_
  refine an_35 C dK_product_13 ?_
  refine wk_mmin C mw_K_84 ⟨Nat.le_of_ble_eq_true rfl, Nat.le_of_ble_eq_true rfl⟩ dK_product_14 ?_
  refine wk_istore C dK_product_17 (by decide) ?_
  refine wk_iconst C dK_product_19 kiconst_0 ?_
  refine wk_istore C dK_product_20 (by decide) ?_
  refine wk_iconst C dK_product_22 kiconst_0 ?_
  refine wk_istore C dK_product_23 (by decide) ?_
  exact wk_go (b_K_product_25 hI C fuel k_v1 k_v2 k_v3 hf hq) (And.intro rfl (And.intro rfl (And.intro rfl (And.intro rfl (And.intro rfl (And.intro rfl (And.intro rfl trivial)))))))
theorem m_K_product {l : Launch} {G : cGt} (hI : wd_inj (vC G)) {v1 : Nat} {v2 : Nat} {v3 : Nat} {h h' : Hp} {r : Unit} (k_v1 : cNum v1) (k_v2 : cNum v2) (k_v3 : cNum v3) (hf : f_K_product v1 v2 v3 h = some (r, h')) : wk_M l (vC G) yK_product cK_product 8 none 2 47 [.ref (cad G 28), .ref (cad G v1), .ref (cad G v2), .ref (cad G v3)] h none h' :=
  wk_met hI (by decide +kernel) rfl (Nat.le_of_ble_eq_true rfl) (wk_cat1 rfl) (fun X hX C hq => by subst hX; exact b_K_product hI C k_v1 k_v2 k_v3 hf hq)
set_option maxHeartbeats 4000000 in
set_option maxRecDepth 100000 in
theorem b_K_multiplyInto {X : wk_X} {G : cGt} (hI : wd_inj (vC G)) (C : wk_C X (vC G) cK_multiplyInto RK 4 3 74) {v1 : Nat} {v2 : Nat} {v3 : Int32} {h : Hp} {q : Unit × Hp} (k_v1 : cNum v1) (k_v2 : cNum v2) (hf : f_K_multiplyInto v1 v2 v3 h = some q) (hq : wk_Q X (vC G) none q.2 none) : WW X (vC G) h 0 [(0, .ref (cad G 28)), (1, .ref (cad G v1)), (2, .ref (cad G v2)), (3, .int v3)] [] := by
  unfold f_K_multiplyInto at hf
  refine wk_aload_n C 0 dK_multiplyInto_0 rfl rfl ?_
  refine wk_aload_n C 1 dK_multiplyInto_1 rfl rfl ?_
  refine wk_aload_n C 2 dK_multiplyInto_2 rfl rfl ?_
  refine wk_aload_n C 0 dK_multiplyInto_3 rfl rfl ?_
  refine gf_K_33 C dK_multiplyInto_4 ?_
  obtain ⟨r7, h7, e_7, hf⟩ := bd_some hf
  refine wk_callV (As := [.ref (cad G v1), .ref (cad G v2), .ref (cad G 42)]) (rest := []) C lw_good cw_K_47 wi_K_product (m_K_product hI k_v1 k_v2 kd_42 e_7) lz_28 (he_28 G (h 28)) rfl rfl rfl (Nat.le_of_ble_eq_true rfl) (by decide) dK_multiplyInto_7 ?_
  refine wk_aload_n C 0 dK_multiplyInto_10 rfl rfl ?_
  refine gf_K_33 C dK_multiplyInto_11 ?_
  refine wk_iload_n C 3 dK_multiplyInto_14 rfl rfl ?_
  obtain ⟨r15, h15, e_15, hf⟩ := bd_some hf
  refine wk_callV (As := [.int v3]) (rest := []) C lw_good cw_K_70 wi_N_roundTo (m_N_roundTo hI kd_42 e_15) (lz_cNum kd_42) (he_cNum kd_42) rfl rfl rfl (Nat.le_of_ble_eq_true rfl) (by decide) dK_multiplyInto_15 ?_
  refine wk_aload_n C 1 dK_multiplyInto_18 rfl rfl ?_
  refine wk_aload_n C 0 dK_multiplyInto_19 rfl rfl ?_
  refine gf_K_33 C dK_multiplyInto_20 ?_
  obtain ⟨r23, h23, e_23, hf⟩ := bd_some hf
  refine wk_callV (As := [.ref (cad G 42)]) (rest := []) C lw_good cw_K_73 wi_N_copy (m_N_copy hI k_v1 kd_42 e_23) (lz_cNum k_v1) (he_cNum k_v1) rfl rfl rfl (Nat.le_of_ble_eq_true rfl) (by decide) dK_multiplyInto_23 ?_
  cases hf
  exact wk_return C hq dK_multiplyInto_26
theorem m_K_multiplyInto {l : Launch} {G : cGt} (hI : wd_inj (vC G)) {v1 : Nat} {v2 : Nat} {v3 : Int32} {h h' : Hp} {r : Unit} (k_v1 : cNum v1) (k_v2 : cNum v2) (hf : f_K_multiplyInto v1 v2 v3 h = some (r, h')) : wk_M l (vC G) yK_multiplyInto cK_multiplyInto 4 none 3 74 [.ref (cad G 28), .ref (cad G v1), .ref (cad G v2), .int v3] h none h' :=
  wk_met hI (by decide +kernel) rfl (Nat.le_of_ble_eq_true rfl) (wk_cat1 rfl) (fun X hX C hq => by subst hX; exact b_K_multiplyInto hI C k_v1 k_v2 hf hq)
set_option maxHeartbeats 4000000 in
set_option maxRecDepth 100000 in
theorem b_K_isBelow_45 {X : wk_X} {G : cGt} (hI : wd_inj (vC G)) (C : wk_C X (vC G) cK_isBelow RK 5 1 21) : ∀ (n : Nat) {v0 : Nat} {v1 : Nat} {v2 : Int32} {v3 : Int32} {v4 : Int32} {h : Hp} {q : Int32 × Hp} (k_v0 : cNum v0) (k_v1 : cNum v1) (hf : f_K_isBelow_45 n v0 v1 v2 v3 v4 h = some q) (hq : wk_Q X (vC G) (some (.int q.1)) q.2 (some .boolean)), WW X (vC G) h 45 [(0, .ref (cad G v0)), (1, .ref (cad G v1)), (2, .int v2), (3, .int v3), (4, .int v4)] [] := by
  intro n
  induction n with
  | zero =>
    intros
    rename_i hf _
    cases hf
  | succ n ih =>
    intro v0 v1 v2 v3 v4 h q k_v0 k_v1 hf hq
    rw [f_K_isBelow_45] at hf
    refine wk_iload C dK_isBelow_45 rfl ?_
    refine wk_iload_n C 2 dK_isBelow_47 rfl rfl ?_
    refine wk_icmp_ge (tgt := 75) C dK_isBelow_48 rfl hf (fun c_48 hf => ?_) (fun c_48 hf => ?_)
    · refine wk_iload_n C 3 dK_isBelow_75 rfl rfl ?_
      refine wk_if_ge (tgt := 83) C dK_isBelow_76 rfl hf (fun c_76 hf => ?_) (fun c_76 hf => ?_)
      · refine wk_iconst C dK_isBelow_83 kiconst_0 ?_
        cases hf
        exact wk_zreturn C hq rfl dK_isBelow_84
      · refine wk_iconst C dK_isBelow_79 kiconst_1 ?_
        refine wk_goto (tgt := 84) C dK_isBelow_80 rfl ?_
        cases hf
        exact wk_zreturn C hq rfl dK_isBelow_84
    · refine wk_iload_n C 3 dK_isBelow_51 rfl rfl ?_
      refine wk_if_ne (tgt := 75) C dK_isBelow_52 rfl hf (fun c_52 hf => ?_) (fun c_52 hf => ?_)
      · refine wk_iload_n C 3 dK_isBelow_75 rfl rfl ?_
        refine wk_if_ge (tgt := 83) C dK_isBelow_76 rfl hf (fun c_76 hf => ?_) (fun c_76 hf => ?_)
        · refine wk_iconst C dK_isBelow_83 kiconst_0 ?_
          cases hf
          exact wk_zreturn C hq rfl dK_isBelow_84
        · refine wk_iconst C dK_isBelow_79 kiconst_1 ?_
          refine wk_goto (tgt := 84) C dK_isBelow_80 rfl ?_
          cases hf
          exact wk_zreturn C hq rfl dK_isBelow_84
      · refine wk_aload_n C 0 dK_isBelow_55 rfl rfl ?_
        refine wk_iload C dK_isBelow_56 rfl ?_
        obtain ⟨r58, h58, e_58, hf⟩ := bd_some hf
        refine wk_callV (As := [.int v4]) (rest := []) C lw_good cw_K_114 wi_N_digit (m_N_digit hI k_v0 e_58) (lz_cNum k_v0) (he_cNum k_v0) rfl rfl rfl (Nat.le_of_ble_eq_true rfl) (by decide) dK_isBelow_58 ?_
        refine wk_aload_n C 1 dK_isBelow_61 rfl rfl ?_
        refine wk_iload C dK_isBelow_62 rfl ?_
        obtain ⟨r64, h64, e_64, hf⟩ := bd_some hf
        refine wk_callV (As := [.int v4]) (rest := [.int r58]) C lw_good cw_K_114 wi_N_digit (m_N_digit hI k_v1 e_64) (lz_cNum k_v1) (he_cNum k_v1) rfl rfl rfl (Nat.le_of_ble_eq_true rfl) (by decide) dK_isBelow_64 ?_
        refine wk_isub C dK_isBelow_67 ?_
        refine wk_istore_n C 3 dK_isBelow_68 rfl (by decide) ?_
        refine wk_iinc C dK_isBelow_69 rfl kiconst_1 (by decide) ?_
        refine wk_goto (tgt := 45) C dK_isBelow_72 rfl ?_
        exact wk_go (ih k_v0 k_v1 hf hq) (And.intro rfl (And.intro rfl (And.intro rfl (And.intro rfl (And.intro rfl trivial)))))
set_option maxHeartbeats 4000000 in
set_option maxRecDepth 100000 in
theorem b_K_isBelow {X : wk_X} {G : cGt} (hI : wd_inj (vC G)) (C : wk_C X (vC G) cK_isBelow RK 5 1 21) {v0 : Nat} {v1 : Nat} {h : Hp} {q : Int32 × Hp} (k_v0 : cNum v0) (k_v1 : cNum v1) (hf : f_K_isBelow v0 v1 h = some q) (hq : wk_Q X (vC G) (some (.int q.1)) q.2 (some .boolean)) : WW X (vC G) h 0 [(0, .ref (cad G v0)), (1, .ref (cad G v1))] [] := by
  unfold f_K_isBelow at hf
  refine wk_aload_n C 0 dK_isBelow_0 rfl rfl ?_
  obtain ⟨r1, h1, e_1, hf⟩ := bd_some hf
  refine wk_callV (As := []) (rest := []) C lw_good cw_K_90 wi_N_ahead (m_N_ahead hI k_v0 e_1) (lz_cNum k_v0) (he_cNum k_v0) rfl rfl rfl (Nat.le_of_ble_eq_true rfl) (by decide) dK_isBelow_1 ?_
  refine wk_aload_n C 1 dK_isBelow_4 rfl rfl ?_
  obtain ⟨r5, h5, e_5, hf⟩ := bd_some hf
  refine wk_callV (As := []) (rest := [.int r1]) C lw_good cw_K_90 wi_N_ahead (m_N_ahead hI k_v1 e_5) (lz_cNum k_v1) (he_cNum k_v1) rfl rfl rfl (Nat.le_of_ble_eq_true rfl) (by decide) dK_isBelow_5 ?_
  refine wk_icmp_eq (tgt := 28) C dK_isBelow_8 rfl hf (fun c_8 hf => ?_) (fun c_8 hf => ?_)
  · refine wk_aload_n C 0 dK_isBelow_28 rfl rfl ?_
    refine gf_K_111 C k_v0 dK_isBelow_29 ?_
    refine wk_aload_n C 1 dK_isBelow_32 rfl rfl ?_
    refine gf_K_111 C k_v1 dK_isBelow_33 ?_
    refine wk_mmax C mw_K_93 ⟨Nat.le_of_ble_eq_true rfl, Nat.le_of_ble_eq_true rfl⟩ dK_isBelow_36 ?_
    refine wk_istore_n C 2 dK_isBelow_39 rfl (by decide) ?_
    refine wk_iconst C dK_isBelow_40 kiconst_0 ?_
    refine wk_istore_n C 3 dK_isBelow_41 rfl (by decide) ?_
    refine wk_iconst C dK_isBelow_42 kiconst_0 ?_
    refine wk_istore C dK_isBelow_43 (by decide) ?_
    exact wk_go (b_K_isBelow_45 hI C fuel k_v0 k_v1 hf hq) (And.intro rfl (And.intro rfl (And.intro rfl (And.intro rfl (And.intro rfl trivial)))))
  · refine wk_aload_n C 0 dK_isBelow_11 rfl rfl ?_
    obtain ⟨r12, h12, e_12, hf⟩ := bd_some hf
    refine wk_callV (As := []) (rest := []) C lw_good cw_K_90 wi_N_ahead (m_N_ahead hI k_v0 e_12) (lz_cNum k_v0) (he_cNum k_v0) rfl rfl rfl (Nat.le_of_ble_eq_true rfl) (by decide) dK_isBelow_12 ?_
    refine wk_aload_n C 1 dK_isBelow_15 rfl rfl ?_
    obtain ⟨r16, h16, e_16, hf⟩ := bd_some hf
    refine wk_callV (As := []) (rest := [.int r12]) C lw_good cw_K_90 wi_N_ahead (m_N_ahead hI k_v1 e_16) (lz_cNum k_v1) (he_cNum k_v1) rfl rfl rfl (Nat.le_of_ble_eq_true rfl) (by decide) dK_isBelow_16 ?_
    refine wk_icmp_ge (tgt := 26) C dK_isBelow_19 rfl hf (fun c_19 hf => ?_) (fun c_19 hf => ?_)
    · refine wk_iconst C dK_isBelow_26 kiconst_0 ?_
      cases hf
      exact wk_zreturn C hq rfl dK_isBelow_27
    · refine wk_iconst C dK_isBelow_22 kiconst_1 ?_
      refine wk_goto (tgt := 27) C dK_isBelow_23 rfl ?_
      cases hf
      exact wk_zreturn C hq rfl dK_isBelow_27
theorem m_K_isBelow {l : Launch} {G : cGt} (hI : wd_inj (vC G)) {v0 : Nat} {v1 : Nat} {h h' : Hp} {r : Int32} (k_v0 : cNum v0) (k_v1 : cNum v1) (hf : f_K_isBelow v0 v1 h = some (r, h')) : wk_M l (vC G) yK_isBelow cK_isBelow 5 (some .boolean) 1 21 [.ref (cad G v0), .ref (cad G v1)] h (some (.int r)) h' :=
  wk_met hI (by decide +kernel) rfl (Nat.le_of_ble_eq_true rfl) (wk_cat1 rfl) (fun X hX C hq => by subst hX; exact b_K_isBelow hI C k_v0 k_v1 hf hq)
set_option maxHeartbeats 4000000 in
set_option maxRecDepth 100000 in
theorem b_K_fillCells_70 {X : wk_X} {G : cGt} (hI : wd_inj (vC G)) (C : wk_C X (vC G) cK_fillCells RK 9 2 42) {k6 : Nat → Nat → Int32 → Int32 → Int32 → Int32 → Int32 → Hp → Option (Unit × Hp)} (hk6 : ∀ (v1 : Nat) (v2 : Nat) (v3 : Int32) (v4 : Int32) (v5 : Int32) (v6 : Int32) (v7 : Int32) (h : Hp) (q : Unit × Hp), cNum v1 → cNum v2 → k6 v1 v2 v3 v4 v5 v6 v7 h = some q → wk_Q X (vC G) none q.2 none → WW X (vC G) h 6 [(0, .ref (cad G 28)), (1, .ref (cad G v1)), (2, .ref (cad G v2)), (3, .int v3), (4, .int v4), (5, .int v5), (6, .int v6), (7, .int v7)] []) {v1 : Nat} {v2 : Nat} {v3 : Int32} {v4 : Int32} {v5 : Int32} {v7 : Int32} {v8 : Int32} {s0 : Int32} {h : Hp} {q : Unit × Hp} (k_v1 : cNum v1) (k_v2 : cNum v2) (hf : f_K_fillCells_70 k6 v1 v2 v3 v4 v5 v7 v8 s0 h = some q) (hq : wk_Q X (vC G) none q.2 none) : WW X (vC G) h 70 [(0, .ref (cad G 28)), (1, .ref (cad G v1)), (2, .ref (cad G v2)), (3, .int v3), (4, .int v4), (5, .int v5), (7, .int v7), (8, .int v8)] [.int s0] := by
  unfold f_K_fillCells_70 at hf
  refine wk_istore C dK_fillCells_70 (by decide) ?_
  refine wk_aload_n C 0 dK_fillCells_72 rfl rfl ?_
  refine gf_K_9 C dK_fillCells_73 ?_
  refine wk_iload C dK_fillCells_76 rfl ?_
  refine wk_iload C dK_fillCells_78 rfl ?_
  refine wk_bipush C dK_fillCells_80 kbipush_10 ?_
  refine wk_iload C dK_fillCells_82 rfl ?_
  refine wk_imul C dK_fillCells_84 ?_
  refine wk_isub C dK_fillCells_85 ?_
  obtain ⟨c_86, hf⟩ := chk_some hf
  refine as_35 C c_86 dK_fillCells_86 ?_
  refine wk_iinc C dK_fillCells_87 rfl kiconst_1 (by decide) ?_
  refine wk_goto (tgt := 6) C dK_fillCells_90 rfl ?_
  exact wk_go (hk6 _ _ _ _ _ _ _ _ _ k_v1 k_v2 hf hq) (And.intro rfl (And.intro rfl (And.intro rfl (And.intro rfl (And.intro rfl (And.intro rfl (And.intro rfl (And.intro rfl trivial))))))))
set_option maxHeartbeats 4000000 in
set_option maxRecDepth 100000 in
theorem b_K_fillCells_6 {X : wk_X} {G : cGt} (hI : wd_inj (vC G)) (C : wk_C X (vC G) cK_fillCells RK 9 2 42) : ∀ (n : Nat) {v1 : Nat} {v2 : Nat} {v3 : Int32} {v4 : Int32} {v5 : Int32} {v6 : Int32} {v7 : Int32} {h : Hp} {q : Unit × Hp} (k_v1 : cNum v1) (k_v2 : cNum v2) (hf : f_K_fillCells_6 n v1 v2 v3 v4 v5 v6 v7 h = some q) (hq : wk_Q X (vC G) none q.2 none), WW X (vC G) h 6 [(0, .ref (cad G 28)), (1, .ref (cad G v1)), (2, .ref (cad G v2)), (3, .int v3), (4, .int v4), (5, .int v5), (6, .int v6), (7, .int v7)] [] := by
  intro n
  induction n with
  | zero =>
    intros
    rename_i hf _
    cases hf
  | succ n ih =>
    intro v1 v2 v3 v4 v5 v6 v7 h q k_v1 k_v2 hf hq
    rw [f_K_fillCells_6] at hf
    refine wk_iload C dK_fillCells_6 rfl ?_
    refine wk_iload C dK_fillCells_8 rfl ?_
    refine wk_icmp_ge (tgt := 93) C dK_fillCells_10 rfl hf (fun c_10 hf => ?_) (fun c_10 hf => ?_)
    · cases hf
      exact wk_return C hq dK_fillCells_93
    · refine wk_iload C dK_fillCells_13 rfl ?_
      refine wk_aload_n C 0 dK_fillCells_15 rfl rfl ?_
      refine gf_K_9 C dK_fillCells_16 ?_
      refine an_35 C dK_fillCells_19 ?_
      refine wk_icmp_ge (tgt := 93) C dK_fillCells_20 rfl hf (fun c_20 hf => ?_) (fun c_20 hf => ?_)
      · cases hf
        exact wk_return C hq dK_fillCells_93
      · refine wk_aload_n C 1 dK_fillCells_23 rfl rfl ?_
        refine wk_iload C dK_fillCells_24 rfl ?_
        refine wk_iload C dK_fillCells_26 rfl ?_
        refine wk_iadd C dK_fillCells_28 ?_
        obtain ⟨r29, h29, e_29, hf⟩ := bd_some hf
        refine wk_callV (As := [.int (v4 + v7)]) (rest := []) C lw_good cw_K_118 wi_N_digitAtPower (m_N_digitAtPower hI k_v1 e_29) (lz_cNum k_v1) (he_cNum k_v1) rfl rfl rfl (Nat.le_of_ble_eq_true rfl) (by decide) dK_fillCells_29 ?_
        refine wk_iload_n C 3 dK_fillCells_32 rfl rfl ?_
        refine wk_aload_n C 2 dK_fillCells_33 rfl rfl ?_
        refine wk_iload C dK_fillCells_34 rfl ?_
        refine wk_iload C dK_fillCells_36 rfl ?_
        refine wk_iadd C dK_fillCells_38 ?_
        obtain ⟨r39, h39, e_39, hf⟩ := bd_some hf
        refine wk_callV (As := [.int (v4 + v7)]) (rest := [.int v3, .int r29]) C lw_good cw_K_118 wi_N_digitAtPower (m_N_digitAtPower hI k_v2 e_39) (lz_cNum k_v2) (he_cNum k_v2) rfl rfl rfl (Nat.le_of_ble_eq_true rfl) (by decide) dK_fillCells_39 ?_
        refine wk_imul C dK_fillCells_42 ?_
        refine wk_iadd C dK_fillCells_43 ?_
        refine wk_iload C dK_fillCells_44 rfl ?_
        refine wk_iadd C dK_fillCells_46 ?_
        refine wk_istore C dK_fillCells_47 (by decide) ?_
        refine wk_iload C dK_fillCells_49 rfl ?_
        refine wk_if_ge (tgt := 58) C dK_fillCells_51 rfl hf (fun c_51 hf => ?_) (fun c_51 hf => ?_)
        · refine wk_iload C dK_fillCells_58 rfl ?_
          refine wk_bipush C dK_fillCells_60 kbipush_9 ?_
          refine wk_icmp_le (tgt := 69) C dK_fillCells_62 rfl hf (fun c_62 hf => ?_) (fun c_62 hf => ?_)
          · refine wk_iconst C dK_fillCells_69 kiconst_0 ?_
            exact wk_go (b_K_fillCells_70 hI C (fun _ _ _ _ _ _ _ _ _ k_v1 k_v2 hf hq => ih k_v1 k_v2 hf hq) k_v1 k_v2 hf hq) (And.intro rfl (And.intro rfl (And.intro rfl (And.intro rfl (And.intro rfl (And.intro rfl (And.intro rfl (And.intro rfl trivial))))))))
          · refine wk_iconst C dK_fillCells_65 kiconst_1 ?_
            refine wk_goto (tgt := 70) C dK_fillCells_66 rfl ?_
            exact wk_go (b_K_fillCells_70 hI C (fun _ _ _ _ _ _ _ _ _ k_v1 k_v2 hf hq => ih k_v1 k_v2 hf hq) k_v1 k_v2 hf hq) (And.intro rfl (And.intro rfl (And.intro rfl (And.intro rfl (And.intro rfl (And.intro rfl (And.intro rfl (And.intro rfl trivial))))))))
        · refine wk_iconst C dK_fillCells_54 kiconst_m1 ?_
          refine wk_goto (tgt := 70) C dK_fillCells_55 rfl ?_
          exact wk_go (b_K_fillCells_70 hI C (fun _ _ _ _ _ _ _ _ _ k_v1 k_v2 hf hq => ih k_v1 k_v2 hf hq) k_v1 k_v2 hf hq) (And.intro rfl (And.intro rfl (And.intro rfl (And.intro rfl (And.intro rfl (And.intro rfl (And.intro rfl (And.intro rfl trivial))))))))
set_option maxHeartbeats 4000000 in
set_option maxRecDepth 100000 in
theorem b_K_fillCells {X : wk_X} {G : cGt} (hI : wd_inj (vC G)) (C : wk_C X (vC G) cK_fillCells RK 9 2 42) {v1 : Nat} {v2 : Nat} {v3 : Int32} {v4 : Int32} {v5 : Int32} {h : Hp} {q : Unit × Hp} (k_v1 : cNum v1) (k_v2 : cNum v2) (hf : f_K_fillCells v1 v2 v3 v4 v5 h = some q) (hq : wk_Q X (vC G) none q.2 none) : WW X (vC G) h 0 [(0, .ref (cad G 28)), (1, .ref (cad G v1)), (2, .ref (cad G v2)), (3, .int v3), (4, .int v4), (5, .int v5)] [] := by
  unfold f_K_fillCells at hf
  refine wk_iconst C dK_fillCells_0 kiconst_0 ?_
  refine wk_istore C dK_fillCells_1 (by decide) ?_
  refine wk_iconst C dK_fillCells_3 kiconst_0 ?_
  refine wk_istore C dK_fillCells_4 (by decide) ?_
  exact wk_go (b_K_fillCells_6 hI C fuel k_v1 k_v2 hf hq) (And.intro rfl (And.intro rfl (And.intro rfl (And.intro rfl (And.intro rfl (And.intro rfl (And.intro rfl (And.intro rfl trivial))))))))
theorem m_K_fillCells {l : Launch} {G : cGt} (hI : wd_inj (vC G)) {v1 : Nat} {v2 : Nat} {v3 : Int32} {v4 : Int32} {v5 : Int32} {h h' : Hp} {r : Unit} (k_v1 : cNum v1) (k_v2 : cNum v2) (hf : f_K_fillCells v1 v2 v3 v4 v5 h = some (r, h')) : wk_M l (vC G) yK_fillCells cK_fillCells 9 none 2 42 [.ref (cad G 28), .ref (cad G v1), .ref (cad G v2), .int v3, .int v4, .int v5] h none h' :=
  wk_met hI (by decide +kernel) rfl (Nat.le_of_ble_eq_true rfl) (wk_cat1 rfl) (fun X hX C hq => by subst hX; exact b_K_fillCells hI C k_v1 k_v2 hf hq)
set_option maxHeartbeats 4000000 in
set_option maxRecDepth 100000 in
theorem b_K_nearTo {X : wk_X} {G : cGt} (hI : wd_inj (vC G)) (C : wk_C X (vC G) cK_nearTo RK 4 2 43) {v1 : Nat} {v2 : Nat} {h : Hp} {q : Nat × Hp} (k_v1 : cNum v1) (k_v2 : cNum v2) (hf : f_K_nearTo v1 v2 h = some q) (hq : wk_Q X (vC G) (some (va_rf (some (cad G q.1)))) q.2 (some (.object "NumberDesk$Num"))) : WW X (vC G) h 0 [(0, .ref (cad G 28)), (1, .ref (cad G v1)), (2, .ref (cad G v2))] [] := by
  unfold f_K_nearTo at hf
  refine wk_aload_n C 1 dK_nearTo_0 rfl rfl ?_
  refine gf_K_81 C k_v1 dK_nearTo_1 ?_
  refine wk_bipush C dK_nearTo_4 kbipush_30 ?_
  refine wk_isub C dK_nearTo_6 ?_
  refine wk_istore_n C 3 dK_nearTo_7 rfl (by decide) ?_
  refine wk_aload_n C 2 dK_nearTo_8 rfl rfl ?_
  obtain ⟨r9, h9, e_9, hf⟩ := bd_some hf
  refine wk_callV (As := []) (rest := []) C lw_good cw_K_90 wi_N_ahead (m_N_ahead hI k_v2 e_9) (lz_cNum k_v2) (he_cNum k_v2) rfl rfl rfl (Nat.le_of_ble_eq_true rfl) (by decide) dK_nearTo_9 ?_
  refine wk_iload_n C 3 dK_nearTo_12 rfl rfl ?_
  refine wk_icmp_le (tgt := 18) C dK_nearTo_13 rfl hf (fun c_13 hf => ?_) (fun c_13 hf => ?_)
  · refine wk_aload_n C 0 dK_nearTo_18 rfl rfl ?_
    refine gf_K_26 C dK_nearTo_19 ?_
    refine wk_iconst C dK_nearTo_22 kiconst_1 ?_
    obtain ⟨r23, h23, e_23, hf⟩ := bd_some hf
    refine wk_callV (As := [.int 1]) (rest := []) C lw_good cw_K_108 wi_N_becomeUnit (m_N_becomeUnit hI kd_38 e_23) (lz_cNum kd_38) (he_cNum kd_38) rfl rfl rfl (Nat.le_of_ble_eq_true rfl) (by decide) dK_nearTo_23 ?_
    refine wk_aload_n C 0 dK_nearTo_26 rfl rfl ?_
    refine gf_K_26 C dK_nearTo_27 ?_
    refine wk_iload_n C 3 dK_nearTo_30 rfl rfl ?_
    refine wk_iconst C dK_nearTo_31 kiconst_1 ?_
    refine wk_isub C dK_nearTo_32 ?_
    refine pf_K_81 C kd_38 dK_nearTo_33 ?_
    refine wk_aload_n C 0 dK_nearTo_36 rfl rfl ?_
    refine gf_K_26 C dK_nearTo_37 ?_
    cases hf
    exact wk_areturn C (o := some (cad G 38)) hq dK_nearTo_40
  · refine wk_aload_n C 2 dK_nearTo_16 rfl rfl ?_
    cases hf
    exact wk_areturn C (o := some (cad G v2)) hq dK_nearTo_17
theorem m_K_nearTo {l : Launch} {G : cGt} (hI : wd_inj (vC G)) {v1 : Nat} {v2 : Nat} {h h' : Hp} {r : Nat} (k_v1 : cNum v1) (k_v2 : cNum v2) (hf : f_K_nearTo v1 v2 h = some (r, h')) : wk_M l (vC G) yK_nearTo cK_nearTo 4 (some (.object "NumberDesk$Num")) 2 43 [.ref (cad G 28), .ref (cad G v1), .ref (cad G v2)] h (some (va_rf (some (cad G r)))) h' :=
  wk_met hI (by decide +kernel) rfl (Nat.le_of_ble_eq_true rfl) (wk_cat1 rfl) (fun X hX C hq => by subst hX; exact b_K_nearTo hI C k_v1 k_v2 hf hq)
set_option maxHeartbeats 4000000 in
set_option maxRecDepth 100000 in
theorem b_K_sum_16 {X : wk_X} {G : cGt} (hI : wd_inj (vC G)) (C : wk_C X (vC G) cK_sum RK 10 3 70) {v1 : Nat} {v2 : Nat} {v4 : Nat} {s0 : Int32} {h : Hp} {q : Unit × Hp} (k_v1 : cNum v1) (k_v2 : cNum v2) (k_v4 : cNum v4) (hf : f_K_sum_16 v1 v2 v4 s0 h = some q) (hq : wk_Q X (vC G) none q.2 none) : WW X (vC G) h 16 [(0, .ref (cad G 28)), (1, .ref (cad G v1)), (2, .ref (cad G v2)), (4, .ref (cad G v4))] [.int s0] := by
  unfold f_K_sum_16 at hf
  refine wk_istore C dK_sum_16 (by decide) ?_
  refine wk_aload_n C 2 dK_sum_18 rfl rfl ?_
  refine gf_K_39 C k_v2 dK_sum_19 ?_
  refine wk_if_ne (tgt := 32) C dK_sum_22 rfl hf (fun c_22 hf => ?_) (fun c_22 hf => ?_)
  · refine wk_aload_n C 1 dK_sum_32 rfl rfl ?_
    refine gf_K_39 C k_v1 dK_sum_33 ?_
    refine wk_if_ne (tgt := 53) C dK_sum_36 rfl hf (fun c_36 hf => ?_) (fun c_36 hf => ?_)
    · refine wk_aload_n C 0 dK_sum_53 rfl rfl ?_
      refine wk_aload_n C 2 dK_sum_54 rfl rfl ?_
      refine wk_aload_n C 1 dK_sum_55 rfl rfl ?_
      obtain ⟨r56, h56, e_56, hf⟩ := bd_some hf
      obtain ⟨k_r56, hf⟩ := chk_some hf
      refine wk_callV (As := [.ref (cad G v2), .ref (cad G v1)]) (rest := []) C lw_good cw_K_77 wi_K_nearTo (m_K_nearTo hI k_v2 k_v1 e_56) lz_28 (he_28 G (h 28)) rfl rfl rfl (Nat.le_of_ble_eq_true rfl) (by decide) dK_sum_56 ?_
      refine wk_astore C dK_sum_59 (by decide) ?_
      refine wk_aload_n C 0 dK_sum_61 rfl rfl ?_
      refine wk_aload_n C 1 dK_sum_62 rfl rfl ?_
      refine wk_aload_n C 2 dK_sum_63 rfl rfl ?_
      obtain ⟨r64, h64, e_64, hf⟩ := bd_some hf
      obtain ⟨k_r64, hf⟩ := chk_some hf
      refine wk_callV (As := [.ref (cad G v1), .ref (cad G v2)]) (rest := []) C lw_good cw_K_77 wi_K_nearTo (m_K_nearTo hI k_v1 k_v2 e_64) lz_28 (he_28 G (h56 28)) rfl rfl rfl (Nat.le_of_ble_eq_true rfl) (by decide) dK_sum_64 ?_
      refine wk_astore C dK_sum_67 (by decide) ?_
      refine wk_aload C dK_sum_69 rfl ?_
      refine gf_K_81 C k_r56 dK_sum_71 ?_
      refine wk_aload C dK_sum_74 rfl ?_
      refine gf_K_81 C k_r64 dK_sum_76 ?_
      refine wk_mmin C mw_K_84 ⟨Nat.le_of_ble_eq_true rfl, Nat.le_of_ble_eq_true rfl⟩ dK_sum_79 ?_
      refine wk_istore C dK_sum_82 (by decide) ?_
      refine wk_aload C dK_sum_84 rfl ?_
      obtain ⟨r86, h86, e_86, hf⟩ := bd_some hf
      refine wk_callV (As := []) (rest := []) C lw_good cw_K_90 wi_N_ahead (m_N_ahead hI k_r56 e_86) (lz_cNum k_r56) (he_cNum k_r56) rfl rfl rfl (Nat.le_of_ble_eq_true rfl) (by decide) dK_sum_86 ?_
      refine wk_aload C dK_sum_89 rfl ?_
      obtain ⟨r91, h91, e_91, hf⟩ := bd_some hf
      refine wk_callV (As := []) (rest := [.int r86]) C lw_good cw_K_90 wi_N_ahead (m_N_ahead hI k_r64 e_91) (lz_cNum k_r64) (he_cNum k_r64) rfl rfl rfl (Nat.le_of_ble_eq_true rfl) (by decide) dK_sum_91 ?_
      refine wk_mmax C mw_K_93 ⟨Nat.le_of_ble_eq_true rfl, Nat.le_of_ble_eq_true rfl⟩ dK_sum_94 ?_
      refine wk_iload C dK_sum_97 rfl ?_
      refine wk_isub C dK_sum_99 ?_
      refine wk_iconst C dK_sum_100 kiconst_1 ?_
      refine wk_iadd C dK_sum_101 ?_
      refine wk_istore C dK_sum_102 (by decide) ?_
      refine wk_aload_n C 1 dK_sum_104 rfl rfl ?_
      refine gf_K_39 C k_v1 dK_sum_105 ?_
      refine wk_iload C dK_sum_108 rfl ?_
      refine wk_icmp_ne (tgt := 143) C dK_sum_110 rfl hf (fun c_110 hf => ?_) (fun c_110 hf => ?_)
      · refine wk_aload C dK_sum_143 rfl ?_
        refine wk_aload C dK_sum_145 rfl ?_
        obtain ⟨r147, h147, e_147, hf⟩ := bd_some hf
        refine wk_callS (As := [.ref (cad G r56), .ref (cad G r64)]) (rest := []) C lw_good cw_K_104 ws_K_isBelow (m_K_isBelow hI k_r56 k_r64 e_147) rfl rfl (Nat.le_of_ble_eq_true rfl) (by decide) dK_sum_147 ?_
        refine wk_if_eq (tgt := 181) C dK_sum_150 rfl hf (fun c_150 hf => ?_) (fun c_150 hf => ?_)
        · refine wk_aload_n C 0 dK_sum_181 rfl rfl ?_
          refine wk_aload C dK_sum_182 rfl ?_
          refine wk_aload C dK_sum_184 rfl ?_
          refine wk_iconst C dK_sum_186 kiconst_m1 ?_
          refine wk_iload C dK_sum_187 rfl ?_
          refine wk_iload C dK_sum_189 rfl ?_
          obtain ⟨r191, h191, e_191, hf⟩ := bd_some hf
          refine wk_callV (As := [.ref (cad G r56), .ref (cad G r64), .int (-1), .int (if (h64 r64 2) < (h64 r56 2) then (h64 r64 2) else (h64 r56 2)), .int (((if r86 < r91 then r91 else r86) - (if (h64 r64 2) < (h64 r56 2) then (h64 r64 2) else (h64 r56 2))) + 1)]) (rest := []) C lw_good cw_K_96 wi_K_fillCells (m_K_fillCells hI k_r56 k_r64 e_191) lz_28 (he_28 G (h147 28)) rfl rfl rfl (Nat.le_of_ble_eq_true rfl) (by decide) dK_sum_191 ?_
          refine wk_aload_n C 0 dK_sum_194 rfl rfl ?_
          refine wk_iload C dK_sum_195 rfl ?_
          refine wk_iload C dK_sum_197 rfl ?_
          refine wk_aload_n C 1 dK_sum_199 rfl rfl ?_
          refine gf_K_39 C k_v1 dK_sum_200 ?_
          refine wk_aload C dK_sum_203 rfl ?_
          obtain ⟨r205, h205, e_205, hf⟩ := bd_some hf
          refine wk_callV (As := [.int (((if r86 < r91 then r91 else r86) - (if (h64 r64 2) < (h64 r56 2) then (h64 r64 2) else (h64 r56 2))) + 1), .int (if (h64 r64 2) < (h64 r56 2) then (h64 r64 2) else (h64 r56 2)), .int (h191 v1 3), .ref (cad G v4)]) (rest := []) C lw_good cw_K_100 wi_K_takeCells (m_K_takeCells hI k_v4 e_205) lz_28 (he_28 G (h191 28)) rfl rfl rfl (Nat.le_of_ble_eq_true rfl) (by decide) dK_sum_205 ?_
          cases hf
          exact wk_return C hq dK_sum_208
        · refine wk_aload_n C 0 dK_sum_153 rfl rfl ?_
          refine wk_aload C dK_sum_154 rfl ?_
          refine wk_aload C dK_sum_156 rfl ?_
          refine wk_iconst C dK_sum_158 kiconst_m1 ?_
          refine wk_iload C dK_sum_159 rfl ?_
          refine wk_iload C dK_sum_161 rfl ?_
          obtain ⟨r163, h163, e_163, hf⟩ := bd_some hf
          refine wk_callV (As := [.ref (cad G r64), .ref (cad G r56), .int (-1), .int (if (h64 r64 2) < (h64 r56 2) then (h64 r64 2) else (h64 r56 2)), .int (((if r86 < r91 then r91 else r86) - (if (h64 r64 2) < (h64 r56 2) then (h64 r64 2) else (h64 r56 2))) + 1)]) (rest := []) C lw_good cw_K_96 wi_K_fillCells (m_K_fillCells hI k_r64 k_r56 e_163) lz_28 (he_28 G (h147 28)) rfl rfl rfl (Nat.le_of_ble_eq_true rfl) (by decide) dK_sum_163 ?_
          refine wk_aload_n C 0 dK_sum_166 rfl rfl ?_
          refine wk_iload C dK_sum_167 rfl ?_
          refine wk_iload C dK_sum_169 rfl ?_
          refine wk_iload C dK_sum_171 rfl ?_
          refine wk_aload C dK_sum_173 rfl ?_
          obtain ⟨r175, h175, e_175, hf⟩ := bd_some hf
          refine wk_callV (As := [.int (((if r86 < r91 then r91 else r86) - (if (h64 r64 2) < (h64 r56 2) then (h64 r64 2) else (h64 r56 2))) + 1), .int (if (h64 r64 2) < (h64 r56 2) then (h64 r64 2) else (h64 r56 2)), .int s0, .ref (cad G v4)]) (rest := []) C lw_good cw_K_100 wi_K_takeCells (m_K_takeCells hI k_v4 e_175) lz_28 (he_28 G (h163 28)) rfl rfl rfl (Nat.le_of_ble_eq_true rfl) (by decide) dK_sum_175 ?_
          refine wk_goto (tgt := 208) C dK_sum_178 rfl ?_
          cases hf
          exact wk_return C hq dK_sum_208
      · refine wk_aload_n C 0 dK_sum_113 rfl rfl ?_
        refine wk_aload C dK_sum_114 rfl ?_
        refine wk_aload C dK_sum_116 rfl ?_
        refine wk_iconst C dK_sum_118 kiconst_1 ?_
        refine wk_iload C dK_sum_119 rfl ?_
        refine wk_iload C dK_sum_121 rfl ?_
        obtain ⟨r123, h123, e_123, hf⟩ := bd_some hf
        refine wk_callV (As := [.ref (cad G r56), .ref (cad G r64), .int 1, .int (if (h64 r64 2) < (h64 r56 2) then (h64 r64 2) else (h64 r56 2)), .int (((if r86 < r91 then r91 else r86) - (if (h64 r64 2) < (h64 r56 2) then (h64 r64 2) else (h64 r56 2))) + 1)]) (rest := []) C lw_good cw_K_96 wi_K_fillCells (m_K_fillCells hI k_r56 k_r64 e_123) lz_28 (he_28 G (h91 28)) rfl rfl rfl (Nat.le_of_ble_eq_true rfl) (by decide) dK_sum_123 ?_
        refine wk_aload_n C 0 dK_sum_126 rfl rfl ?_
        refine wk_iload C dK_sum_127 rfl ?_
        refine wk_iload C dK_sum_129 rfl ?_
        refine wk_aload_n C 1 dK_sum_131 rfl rfl ?_
        refine gf_K_39 C k_v1 dK_sum_132 ?_
        refine wk_aload C dK_sum_135 rfl ?_
        obtain ⟨r137, h137, e_137, hf⟩ := bd_some hf
        refine wk_callV (As := [.int (((if r86 < r91 then r91 else r86) - (if (h64 r64 2) < (h64 r56 2) then (h64 r64 2) else (h64 r56 2))) + 1), .int (if (h64 r64 2) < (h64 r56 2) then (h64 r64 2) else (h64 r56 2)), .int (h123 v1 3), .ref (cad G v4)]) (rest := []) C lw_good cw_K_100 wi_K_takeCells (m_K_takeCells hI k_v4 e_137) lz_28 (he_28 G (h123 28)) rfl rfl rfl (Nat.le_of_ble_eq_true rfl) (by decide) dK_sum_137 ?_
        refine wk_goto (tgt := 208) C dK_sum_140 rfl ?_
        cases hf
        exact wk_return C hq dK_sum_208
    · refine wk_aload C dK_sum_39 rfl ?_
      refine wk_aload_n C 2 dK_sum_41 rfl rfl ?_
      obtain ⟨r42, h42, e_42, hf⟩ := bd_some hf
      refine wk_callV (As := [.ref (cad G v2)]) (rest := []) C lw_good cw_K_73 wi_N_copy (m_N_copy hI k_v4 k_v2 e_42) (lz_cNum k_v4) (he_cNum k_v4) rfl rfl rfl (Nat.le_of_ble_eq_true rfl) (by decide) dK_sum_42 ?_
      refine wk_aload C dK_sum_45 rfl ?_
      refine wk_iload C dK_sum_47 rfl ?_
      refine pf_K_39 C k_v4 dK_sum_49 ?_
      cases hf
      exact wk_return C hq dK_sum_52
  · refine wk_aload C dK_sum_25 rfl ?_
    refine wk_aload_n C 1 dK_sum_27 rfl rfl ?_
    obtain ⟨r28, h28, e_28, hf⟩ := bd_some hf
    refine wk_callV (As := [.ref (cad G v1)]) (rest := []) C lw_good cw_K_73 wi_N_copy (m_N_copy hI k_v4 k_v1 e_28) (lz_cNum k_v4) (he_cNum k_v4) rfl rfl rfl (Nat.le_of_ble_eq_true rfl) (by decide) dK_sum_28 ?_
    cases hf
    exact wk_return C hq dK_sum_31
set_option maxHeartbeats 4000000 in
set_option maxRecDepth 100000 in
theorem b_K_sum {X : wk_X} {G : cGt} (hI : wd_inj (vC G)) (C : wk_C X (vC G) cK_sum RK 10 3 70) {v1 : Nat} {v2 : Nat} {v3 : Int32} {v4 : Nat} {h : Hp} {q : Unit × Hp} (k_v1 : cNum v1) (k_v2 : cNum v2) (k_v4 : cNum v4) (hf : f_K_sum v1 v2 v3 v4 h = some q) (hq : wk_Q X (vC G) none q.2 none) : WW X (vC G) h 0 [(0, .ref (cad G 28)), (1, .ref (cad G v1)), (2, .ref (cad G v2)), (3, .int v3), (4, .ref (cad G v4))] [] := by
  unfold f_K_sum at hf
  refine wk_iload_n C 3 dK_sum_0 rfl rfl ?_
  refine wk_if_eq (tgt := 12) C dK_sum_1 rfl hf (fun c_1 hf => ?_) (fun c_1 hf => ?_)
  · refine wk_aload_n C 2 dK_sum_12 rfl rfl ?_
    refine gf_K_39 C k_v2 dK_sum_13 ?_
    exact wk_go (b_K_sum_16 hI C k_v1 k_v2 k_v4 hf hq) (And.intro rfl (And.intro rfl (And.intro rfl (And.intro rfl trivial))))
  · refine wk_aload_n C 2 dK_sum_4 rfl rfl ?_
    refine gf_K_39 C k_v2 dK_sum_5 ?_
    refine wk_ineg C dK_sum_8 ?_
    refine wk_goto (tgt := 16) C dK_sum_9 rfl ?_
    exact wk_go (b_K_sum_16 hI C k_v1 k_v2 k_v4 hf hq) (And.intro rfl (And.intro rfl (And.intro rfl (And.intro rfl trivial))))
theorem m_K_sum {l : Launch} {G : cGt} (hI : wd_inj (vC G)) {v1 : Nat} {v2 : Nat} {v3 : Int32} {v4 : Nat} {h h' : Hp} {r : Unit} (k_v1 : cNum v1) (k_v2 : cNum v2) (k_v4 : cNum v4) (hf : f_K_sum v1 v2 v3 v4 h = some (r, h')) : wk_M l (vC G) yK_sum cK_sum 10 none 3 70 [.ref (cad G 28), .ref (cad G v1), .ref (cad G v2), .int v3, .ref (cad G v4)] h none h' :=
  wk_met hI (by decide +kernel) rfl (Nat.le_of_ble_eq_true rfl) (wk_cat1 rfl) (fun X hX C hq => by subst hX; exact b_K_sum hI C k_v1 k_v2 k_v4 hf hq)
set_option maxHeartbeats 4000000 in
set_option maxRecDepth 100000 in
theorem b_K_quotient {X : wk_X} {G : cGt} (hI : wd_inj (vC G)) (C : wk_C X (vC G) cK_quotient RK 6 3 73) {v1 : Nat} {v2 : Nat} {v3 : Int32} {v4 : Nat} {h : Hp} {q : Unit × Hp} (k_v1 : cNum v1) (k_v2 : cNum v2) (k_v4 : cNum v4) (hf : f_K_quotient v1 v2 v3 v4 h = some q) (hq : wk_Q X (vC G) none q.2 none) : WW X (vC G) h 0 [(0, .ref (cad G 28)), (1, .ref (cad G v1)), (2, .ref (cad G v2)), (3, .int v3), (4, .ref (cad G v4))] [] := by
  unfold f_K_quotient at hf
  refine wk_aload_n C 0 dK_quotient_0 rfl rfl ?_
  refine wk_aload_n C 1 dK_quotient_1 rfl rfl ?_
  refine wk_aload_n C 2 dK_quotient_2 rfl rfl ?_
  refine wk_aload_n C 2 dK_quotient_3 rfl rfl ?_
  refine gf_K_111 C k_v2 dK_quotient_4 ?_
  refine wk_iload_n C 3 dK_quotient_7 rfl rfl ?_
  refine wk_iadd C dK_quotient_8 ?_
  refine wk_iconst C dK_quotient_9 kiconst_2 ?_
  refine wk_iadd C dK_quotient_10 ?_
  refine wk_iload_n C 3 dK_quotient_11 rfl rfl ?_
  refine wk_iconst C dK_quotient_12 kiconst_1 ?_
  refine wk_iadd C dK_quotient_13 ?_
  refine wk_aload C dK_quotient_14 rfl ?_
  obtain ⟨r16, h16, e_16, hf⟩ := bd_some hf
  refine wk_callV (As := [.ref (cad G v1), .ref (cad G v2), .int (((h v2 1) + v3) + 2), .int (v3 + 1), .ref (cad G v4)]) (rest := []) C lw_good cw_K_135 wi_K_divide (m_K_divide hI k_v1 k_v2 k_v4 e_16) lz_28 (he_28 G (h 28)) rfl rfl rfl (Nat.le_of_ble_eq_true rfl) (by decide) dK_quotient_16 ?_
  refine wk_istore C dK_quotient_19 (by decide) ?_
  refine wk_aload C dK_quotient_21 rfl ?_
  refine wk_aload_n C 1 dK_quotient_23 rfl rfl ?_
  refine gf_K_39 C k_v1 dK_quotient_24 ?_
  refine wk_aload_n C 2 dK_quotient_27 rfl rfl ?_
  refine gf_K_39 C k_v2 dK_quotient_28 ?_
  refine wk_imul C dK_quotient_31 ?_
  refine wk_aload_n C 1 dK_quotient_32 rfl rfl ?_
  obtain ⟨r33, h33, e_33, hf⟩ := bd_some hf
  refine wk_callV (As := []) (rest := [.int ((h16 v1 3) * (h16 v2 3)), .ref (cad G v4)]) C lw_good cw_K_90 wi_N_ahead (m_N_ahead hI k_v1 e_33) (lz_cNum k_v1) (he_cNum k_v1) rfl rfl rfl (Nat.le_of_ble_eq_true rfl) (by decide) dK_quotient_33 ?_
  refine wk_iload C dK_quotient_36 rfl ?_
  refine wk_isub C dK_quotient_38 ?_
  refine wk_aload_n C 2 dK_quotient_39 rfl rfl ?_
  refine gf_K_81 C k_v2 dK_quotient_40 ?_
  refine wk_isub C dK_quotient_43 ?_
  obtain ⟨r44, h44, e_44, hf⟩ := bd_some hf
  refine wk_callV (As := [.int ((h16 v1 3) * (h16 v2 3)), .int ((r33 - r16) - (h33 v2 2))]) (rest := []) C lw_good cw_K_127 wi_N_settle (m_N_settle hI k_v4 e_44) (lz_cNum k_v4) (he_cNum k_v4) rfl rfl rfl (Nat.le_of_ble_eq_true rfl) (by decide) dK_quotient_44 ?_
  refine wk_aload C dK_quotient_47 rfl ?_
  refine wk_iload_n C 3 dK_quotient_49 rfl rfl ?_
  obtain ⟨r50, h50, e_50, hf⟩ := bd_some hf
  refine wk_callV (As := [.int v3]) (rest := []) C lw_good cw_K_70 wi_N_roundTo (m_N_roundTo hI k_v4 e_50) (lz_cNum k_v4) (he_cNum k_v4) rfl rfl rfl (Nat.le_of_ble_eq_true rfl) (by decide) dK_quotient_50 ?_
  refine wk_aload C dK_quotient_53 rfl ?_
  obtain ⟨r55, h55, e_55, hf⟩ := bd_some hf
  refine wk_callV (As := []) (rest := []) C lw_good cw_K_139 wi_N_dropEndZeros (m_N_dropEndZeros hI k_v4 e_55) (lz_cNum k_v4) (he_cNum k_v4) rfl rfl rfl (Nat.le_of_ble_eq_true rfl) (by decide) dK_quotient_55 ?_
  cases hf
  exact wk_return C hq dK_quotient_58
theorem m_K_quotient {l : Launch} {G : cGt} (hI : wd_inj (vC G)) {v1 : Nat} {v2 : Nat} {v3 : Int32} {v4 : Nat} {h h' : Hp} {r : Unit} (k_v1 : cNum v1) (k_v2 : cNum v2) (k_v4 : cNum v4) (hf : f_K_quotient v1 v2 v3 v4 h = some (r, h')) : wk_M l (vC G) yK_quotient cK_quotient 6 none 3 73 [.ref (cad G 28), .ref (cad G v1), .ref (cad G v2), .int v3, .ref (cad G v4)] h none h' :=
  wk_met hI (by decide +kernel) rfl (Nat.le_of_ble_eq_true rfl) (wk_cat1 rfl) (fun X hX C hq => by subst hX; exact b_K_quotient hI C k_v1 k_v2 k_v4 hf hq)
set_option maxHeartbeats 4000000 in
set_option maxRecDepth 100000 in
theorem b_K_partOf {X : wk_X} {G : cGt} (hI : wd_inj (vC G)) (C : wk_C X (vC G) cK_partOf RK 5 3 73) {v1 : Nat} {v2 : Nat} {v3 : Int32} {v4 : Nat} {h : Hp} {q : Int32 × Hp} (k_v1 : cNum v1) (k_v2 : cNum v2) (k_v4 : cNum v4) (hf : f_K_partOf v1 v2 v3 v4 h = some q) (hq : wk_Q X (vC G) (some (.int q.1)) q.2 (some .int)) : WW X (vC G) h 0 [(0, .ref (cad G 28)), (1, .ref (cad G v1)), (2, .ref (cad G v2)), (3, .int v3), (4, .ref (cad G v4))] [] := by
  unfold f_K_partOf at hf
  refine wk_aload C dK_partOf_0 rfl ?_
  obtain ⟨r2, h2, e_2, hf⟩ := bd_some hf
  refine wk_callV (As := []) (rest := []) C lw_good cw_K_121 wi_N_clear (m_N_clear hI k_v4 e_2) (lz_cNum k_v4) (he_cNum k_v4) rfl rfl rfl (Nat.le_of_ble_eq_true rfl) (by decide) dK_partOf_2 ?_
  refine wk_aload_n C 1 dK_partOf_5 rfl rfl ?_
  refine gf_K_39 C k_v1 dK_partOf_6 ?_
  refine wk_if_ne (tgt := 14) C dK_partOf_9 rfl hf (fun c_9 hf => ?_) (fun c_9 hf => ?_)
  · refine wk_aload_n C 1 dK_partOf_14 rfl rfl ?_
    obtain ⟨r15, h15, e_15, hf⟩ := bd_some hf
    refine wk_callV (As := []) (rest := []) C lw_good cw_K_90 wi_N_ahead (m_N_ahead hI k_v1 e_15) (lz_cNum k_v1) (he_cNum k_v1) rfl rfl rfl (Nat.le_of_ble_eq_true rfl) (by decide) dK_partOf_15 ?_
    refine wk_aload_n C 2 dK_partOf_18 rfl rfl ?_
    obtain ⟨r19, h19, e_19, hf⟩ := bd_some hf
    refine wk_callV (As := []) (rest := [.int r15]) C lw_good cw_K_90 wi_N_ahead (m_N_ahead hI k_v2 e_19) (lz_cNum k_v2) (he_cNum k_v2) rfl rfl rfl (Nat.le_of_ble_eq_true rfl) (by decide) dK_partOf_19 ?_
    refine wk_isub C dK_partOf_22 ?_
    refine wk_iload_n C 3 dK_partOf_23 rfl rfl ?_
    refine wk_icmp_le (tgt := 30) C dK_partOf_24 rfl hf (fun c_24 hf => ?_) (fun c_24 hf => ?_)
    · refine wk_aload_n C 0 dK_partOf_30 rfl rfl ?_
      refine wk_aload_n C 1 dK_partOf_31 rfl rfl ?_
      refine wk_aload_n C 2 dK_partOf_32 rfl rfl ?_
      refine wk_aload_n C 1 dK_partOf_33 rfl rfl ?_
      obtain ⟨r34, h34, e_34, hf⟩ := bd_some hf
      refine wk_callV (As := []) (rest := [.ref (cad G v2), .ref (cad G v1), .ref (cad G 28)]) C lw_good cw_K_90 wi_N_ahead (m_N_ahead hI k_v1 e_34) (lz_cNum k_v1) (he_cNum k_v1) rfl rfl rfl (Nat.le_of_ble_eq_true rfl) (by decide) dK_partOf_34 ?_
      refine wk_aload_n C 2 dK_partOf_37 rfl rfl ?_
      refine gf_K_81 C k_v2 dK_partOf_38 ?_
      refine wk_isub C dK_partOf_41 ?_
      refine wk_iload_n C 3 dK_partOf_42 rfl rfl ?_
      refine wk_iconst C dK_partOf_43 kiconst_1 ?_
      refine wk_iadd C dK_partOf_44 ?_
      refine wk_aload C dK_partOf_45 rfl ?_
      obtain ⟨r47, h47, e_47, hf⟩ := bd_some hf
      refine wk_callV (As := [.ref (cad G v1), .ref (cad G v2), .int (r34 - (h34 v2 2)), .int (v3 + 1), .ref (cad G v4)]) (rest := []) C lw_good cw_K_135 wi_K_divide (m_K_divide hI k_v1 k_v2 k_v4 e_47) lz_28 (he_28 G (h34 28)) rfl rfl rfl (Nat.le_of_ble_eq_true rfl) (by decide) dK_partOf_47 ?_
      refine wk_pop C dK_partOf_50 rfl ?_
      refine wk_aload C dK_partOf_51 rfl ?_
      refine wk_aload_n C 1 dK_partOf_53 rfl rfl ?_
      refine gf_K_39 C k_v1 dK_partOf_54 ?_
      refine wk_aload_n C 2 dK_partOf_57 rfl rfl ?_
      refine gf_K_39 C k_v2 dK_partOf_58 ?_
      refine wk_imul C dK_partOf_61 ?_
      refine wk_iconst C dK_partOf_62 kiconst_0 ?_
      obtain ⟨r63, h63, e_63, hf⟩ := bd_some hf
      refine wk_callV (As := [.int ((h47 v1 3) * (h47 v2 3)), .int 0]) (rest := []) C lw_good cw_K_127 wi_N_settle (m_N_settle hI k_v4 e_63) (lz_cNum k_v4) (he_cNum k_v4) rfl rfl rfl (Nat.le_of_ble_eq_true rfl) (by decide) dK_partOf_63 ?_
      refine wk_aload C dK_partOf_66 rfl ?_
      refine gf_K_111 C k_v4 dK_partOf_68 ?_
      refine wk_iload_n C 3 dK_partOf_71 rfl rfl ?_
      refine wk_icmp_le (tgt := 80) C dK_partOf_72 rfl hf (fun c_72 hf => ?_) (fun c_72 hf => ?_)
      · refine wk_iconst C dK_partOf_80 kiconst_0 ?_
        cases hf
        exact wk_ireturn C hq dK_partOf_81
      · refine wk_bipush C dK_partOf_75 kbipush_26 ?_
        refine wk_goto (tgt := 81) C dK_partOf_77 rfl ?_
        cases hf
        exact wk_ireturn C hq dK_partOf_81
    · refine wk_bipush C dK_partOf_27 kbipush_26 ?_
      cases hf
      exact wk_ireturn C hq dK_partOf_29
  · refine wk_iconst C dK_partOf_12 kiconst_0 ?_
    cases hf
    exact wk_ireturn C hq dK_partOf_13
theorem m_K_partOf {l : Launch} {G : cGt} (hI : wd_inj (vC G)) {v1 : Nat} {v2 : Nat} {v3 : Int32} {v4 : Nat} {h h' : Hp} {r : Int32} (k_v1 : cNum v1) (k_v2 : cNum v2) (k_v4 : cNum v4) (hf : f_K_partOf v1 v2 v3 v4 h = some (r, h')) : wk_M l (vC G) yK_partOf cK_partOf 5 (some .int) 3 73 [.ref (cad G 28), .ref (cad G v1), .ref (cad G v2), .int v3, .ref (cad G v4)] h (some (.int r)) h' :=
  wk_met hI (by decide +kernel) rfl (Nat.le_of_ble_eq_true rfl) (wk_cat1 rfl) (fun X hX C hq => by subst hX; exact b_K_partOf hI C k_v1 k_v2 k_v4 hf hq)
set_option maxHeartbeats 4000000 in
set_option maxRecDepth 100000 in
theorem b_K_restOf {X : wk_X} {G : cGt} (hI : wd_inj (vC G)) (C : wk_C X (vC G) cK_restOf RK 6 4 99) {v1 : Nat} {v2 : Nat} {v3 : Int32} {v4 : Nat} {h : Hp} {q : Int32 × Hp} (k_v1 : cNum v1) (k_v2 : cNum v2) (k_v4 : cNum v4) (hf : f_K_restOf v1 v2 v3 v4 h = some q) (hq : wk_Q X (vC G) (some (.int q.1)) q.2 (some .int)) : WW X (vC G) h 0 [(0, .ref (cad G 28)), (1, .ref (cad G v1)), (2, .ref (cad G v2)), (3, .int v3), (4, .ref (cad G v4))] [] := by
  unfold f_K_restOf at hf
  refine wk_aload_n C 0 dK_restOf_0 rfl rfl ?_
  refine wk_aload_n C 1 dK_restOf_1 rfl rfl ?_
  refine wk_aload_n C 2 dK_restOf_2 rfl rfl ?_
  refine wk_iload_n C 3 dK_restOf_3 rfl rfl ?_
  refine wk_aload_n C 0 dK_restOf_4 rfl rfl ?_
  refine gf_K_30 C dK_restOf_5 ?_
  obtain ⟨r8, h8, e_8, hf⟩ := bd_some hf
  refine wk_callV (As := [.ref (cad G v1), .ref (cad G v2), .int v3, .ref (cad G 40)]) (rest := []) C lw_good cw_K_55 wi_K_partOf (m_K_partOf hI k_v1 k_v2 kd_40 e_8) lz_28 (he_28 G (h 28)) rfl rfl rfl (Nat.le_of_ble_eq_true rfl) (by decide) dK_restOf_8 ?_
  refine wk_istore C dK_restOf_11 (by decide) ?_
  refine wk_iload C dK_restOf_13 rfl ?_
  refine wk_if_ne (tgt := 43) C dK_restOf_15 rfl hf (fun c_15 hf => ?_) (fun c_15 hf => ?_)
  · refine wk_iload C dK_restOf_43 rfl ?_
    cases hf
    exact wk_ireturn C hq dK_restOf_45
  · refine wk_aload_n C 0 dK_restOf_18 rfl rfl ?_
    refine wk_aload_n C 0 dK_restOf_19 rfl rfl ?_
    refine gf_K_30 C dK_restOf_20 ?_
    refine wk_aload_n C 2 dK_restOf_23 rfl rfl ?_
    refine wk_aload_n C 0 dK_restOf_24 rfl rfl ?_
    refine gf_K_33 C dK_restOf_25 ?_
    obtain ⟨r28, h28, e_28, hf⟩ := bd_some hf
    refine wk_callV (As := [.ref (cad G 40), .ref (cad G v2), .ref (cad G 42)]) (rest := []) C lw_good cw_K_47 wi_K_product (m_K_product hI kd_40 k_v2 kd_42 e_28) lz_28 (he_28 G (h8 28)) rfl rfl rfl (Nat.le_of_ble_eq_true rfl) (by decide) dK_restOf_28 ?_
    refine wk_aload_n C 0 dK_restOf_31 rfl rfl ?_
    refine wk_aload_n C 1 dK_restOf_32 rfl rfl ?_
    refine wk_aload_n C 0 dK_restOf_33 rfl rfl ?_
    refine gf_K_33 C dK_restOf_34 ?_
    refine wk_iconst C dK_restOf_37 kiconst_1 ?_
    refine wk_aload C dK_restOf_38 rfl ?_
    obtain ⟨r40, h40, e_40, hf⟩ := bd_some hf
    refine wk_callV (As := [.ref (cad G v1), .ref (cad G 42), .int 1, .ref (cad G v4)]) (rest := []) C lw_good cw_K_43 wi_K_sum (m_K_sum hI k_v1 kd_42 k_v4 e_40) lz_28 (he_28 G (h28 28)) rfl rfl rfl (Nat.le_of_ble_eq_true rfl) (by decide) dK_restOf_40 ?_
    refine wk_iload C dK_restOf_43 rfl ?_
    cases hf
    exact wk_ireturn C hq dK_restOf_45
theorem m_K_restOf {l : Launch} {G : cGt} (hI : wd_inj (vC G)) {v1 : Nat} {v2 : Nat} {v3 : Int32} {v4 : Nat} {h h' : Hp} {r : Int32} (k_v1 : cNum v1) (k_v2 : cNum v2) (k_v4 : cNum v4) (hf : f_K_restOf v1 v2 v3 v4 h = some (r, h')) : wk_M l (vC G) yK_restOf cK_restOf 6 (some .int) 4 99 [.ref (cad G 28), .ref (cad G v1), .ref (cad G v2), .int v3, .ref (cad G v4)] h (some (.int r)) h' :=
  wk_met hI (by decide +kernel) rfl (Nat.le_of_ble_eq_true rfl) (wk_cat1 rfl) (fun X hX C hq => by subst hX; exact b_K_restOf hI C k_v1 k_v2 k_v4 hf hq)
set_option maxHeartbeats 4000000 in
set_option maxRecDepth 100000 in
theorem b_K_powerOf_103 {X : wk_X} {G : cGt} (hI : wd_inj (vC G)) (C : wk_C X (vC G) cK_powerOf RK 9 4 98) {k76 : Nat → Int32 → Int32 → Nat → Int32 → Int32 → Int32 → Hp → Option (Int32 × Hp)} (hk76 : ∀ (v1 : Nat) (v2 : Int32) (v3 : Int32) (v4 : Nat) (v5 : Int32) (v6 : Int32) (v7 : Int32) (h : Hp) (q : Int32 × Hp), cNum v1 → cNum v4 → k76 v1 v2 v3 v4 v5 v6 v7 h = some q → wk_Q X (vC G) (some (.int q.1)) q.2 (some .int) → WW X (vC G) h 76 [(0, .ref (cad G 28)), (1, .ref (cad G v1)), (2, .int v2), (3, .int v3), (4, .ref (cad G v4)), (5, .int v5), (6, .int v6), (7, .int v7)] []) {v1 : Nat} {v2 : Int32} {v3 : Int32} {v4 : Nat} {v5 : Int32} {v6 : Int32} {v7 : Int32} {v8 : Int32} {h : Hp} {q : Int32 × Hp} (k_v1 : cNum v1) (k_v4 : cNum v4) (hf : f_K_powerOf_103 k76 v1 v2 v3 v4 v5 v6 v7 v8 h = some q) (hq : wk_Q X (vC G) (some (.int q.1)) q.2 (some .int)) : WW X (vC G) h 103 [(0, .ref (cad G 28)), (1, .ref (cad G v1)), (2, .int v2), (3, .int v3), (4, .ref (cad G v4)), (5, .int v5), (6, .int v6), (7, .int v7), (8, .int v8)] [] := by
  unfold f_K_powerOf_103 at hf
  refine wk_iload C dK_powerOf_103 rfl ?_
  refine wk_iconst C dK_powerOf_105 kiconst_1 ?_
  refine wk_iand C dK_powerOf_106 ?_
  refine wk_iconst C dK_powerOf_107 kiconst_1 ?_
  refine wk_icmp_ne (tgt := 120) C dK_powerOf_108 rfl hf (fun c_108 hf => ?_) (fun c_108 hf => ?_)
  · refine wk_iinc C dK_powerOf_120 rfl kiconst_m1 (by decide) ?_
    refine wk_goto (tgt := 76) C dK_powerOf_123 rfl ?_
    exact wk_go (hk76 _ _ _ _ _ _ _ _ _ k_v1 k_v4 hf hq) (And.intro rfl (And.intro rfl (And.intro rfl (And.intro rfl (And.intro rfl (And.intro rfl (And.intro rfl (And.intro rfl trivial))))))))
  · refine wk_aload_n C 0 dK_powerOf_111 rfl rfl ?_
    refine wk_aload C dK_powerOf_112 rfl ?_
    refine wk_aload_n C 1 dK_powerOf_114 rfl rfl ?_
    refine wk_iload C dK_powerOf_115 rfl ?_
    obtain ⟨r117, h117, e_117, hf⟩ := bd_some hf
    refine wk_callV (As := [.ref (cad G v4), .ref (cad G v1), .int v6]) (rest := []) C lw_good cw_K_145 wi_K_multiplyInto (m_K_multiplyInto hI k_v4 k_v1 e_117) lz_28 (he_28 G (h 28)) rfl rfl rfl (Nat.le_of_ble_eq_true rfl) (by decide) dK_powerOf_117 ?_
    refine wk_iinc C dK_powerOf_120 rfl kiconst_m1 (by decide) ?_
    refine wk_goto (tgt := 76) C dK_powerOf_123 rfl ?_
    exact wk_go (hk76 _ _ _ _ _ _ _ _ _ k_v1 k_v4 hf hq) (And.intro rfl (And.intro rfl (And.intro rfl (And.intro rfl (And.intro rfl (And.intro rfl (And.intro rfl (And.intro rfl trivial))))))))
set_option maxHeartbeats 4000000 in
set_option maxRecDepth 100000 in
theorem b_K_powerOf_76 {X : wk_X} {G : cGt} (hI : wd_inj (vC G)) (C : wk_C X (vC G) cK_powerOf RK 9 4 98) : ∀ (n : Nat) {v1 : Nat} {v2 : Int32} {v3 : Int32} {v4 : Nat} {v5 : Int32} {v6 : Int32} {v7 : Int32} {h : Hp} {q : Int32 × Hp} (k_v1 : cNum v1) (k_v4 : cNum v4) (hf : f_K_powerOf_76 n v1 v2 v3 v4 v5 v6 v7 h = some q) (hq : wk_Q X (vC G) (some (.int q.1)) q.2 (some .int)), WW X (vC G) h 76 [(0, .ref (cad G 28)), (1, .ref (cad G v1)), (2, .int v2), (3, .int v3), (4, .ref (cad G v4)), (5, .int v5), (6, .int v6), (7, .int v7)] [] := by
  intro n
  induction n with
  | zero =>
    intros
    rename_i hf _
    cases hf
  | succ n ih =>
    intro v1 v2 v3 v4 v5 v6 v7 h q k_v1 k_v4 hf hq
    rw [f_K_powerOf_76] at hf
    refine wk_iload C dK_powerOf_76 rfl ?_
    refine wk_if_lt (tgt := 126) C dK_powerOf_78 rfl hf (fun c_78 hf => ?_) (fun c_78 hf => ?_)
    · refine wk_iload_n C 2 dK_powerOf_126 rfl rfl ?_
      refine wk_if_ge (tgt := 163) C dK_powerOf_127 rfl hf (fun c_127 hf => ?_) (fun c_127 hf => ?_)
      · refine wk_aload C dK_powerOf_163 rfl ?_
        refine wk_iload_n C 3 dK_powerOf_165 rfl rfl ?_
        obtain ⟨r166, h166, e_166, hf⟩ := bd_some hf
        refine wk_callV (As := [.int v3]) (rest := []) C lw_good cw_K_70 wi_N_roundTo (m_N_roundTo hI k_v4 e_166) (lz_cNum k_v4) (he_cNum k_v4) rfl rfl rfl (Nat.le_of_ble_eq_true rfl) (by decide) dK_powerOf_166 ?_
        refine wk_aload C dK_powerOf_169 rfl ?_
        obtain ⟨r171, h171, e_171, hf⟩ := bd_some hf
        refine wk_callV (As := []) (rest := []) C lw_good cw_K_139 wi_N_dropEndZeros (m_N_dropEndZeros hI k_v4 e_171) (lz_cNum k_v4) (he_cNum k_v4) rfl rfl rfl (Nat.le_of_ble_eq_true rfl) (by decide) dK_powerOf_171 ?_
        refine wk_iconst C dK_powerOf_174 kiconst_0 ?_
        cases hf
        exact wk_ireturn C hq dK_powerOf_175
      · refine wk_aload_n C 0 dK_powerOf_130 rfl rfl ?_
        refine gf_K_36 C dK_powerOf_131 ?_
        refine wk_iconst C dK_powerOf_134 kiconst_1 ?_
        obtain ⟨r135, h135, e_135, hf⟩ := bd_some hf
        refine wk_callV (As := [.int 1]) (rest := []) C lw_good cw_K_108 wi_N_becomeUnit (m_N_becomeUnit hI kd_44 e_135) (lz_cNum kd_44) (he_cNum kd_44) rfl rfl rfl (Nat.le_of_ble_eq_true rfl) (by decide) dK_powerOf_135 ?_
        refine wk_aload_n C 0 dK_powerOf_138 rfl rfl ?_
        refine wk_aload_n C 0 dK_powerOf_139 rfl rfl ?_
        refine gf_K_36 C dK_powerOf_140 ?_
        refine wk_aload C dK_powerOf_143 rfl ?_
        refine wk_iload C dK_powerOf_145 rfl ?_
        refine wk_aload_n C 0 dK_powerOf_147 rfl rfl ?_
        refine gf_K_33 C dK_powerOf_148 ?_
        obtain ⟨r151, h151, e_151, hf⟩ := bd_some hf
        refine wk_callV (As := [.ref (cad G 44), .ref (cad G v4), .int v6, .ref (cad G 42)]) (rest := []) C lw_good cw_K_51 wi_K_quotient (m_K_quotient hI kd_44 k_v4 kd_42 e_151) lz_28 (he_28 G (h135 28)) rfl rfl rfl (Nat.le_of_ble_eq_true rfl) (by decide) dK_powerOf_151 ?_
        refine wk_aload C dK_powerOf_154 rfl ?_
        refine wk_aload_n C 0 dK_powerOf_156 rfl rfl ?_
        refine gf_K_33 C dK_powerOf_157 ?_
        obtain ⟨r160, h160, e_160, hf⟩ := bd_some hf
        refine wk_callV (As := [.ref (cad G 42)]) (rest := []) C lw_good cw_K_73 wi_N_copy (m_N_copy hI k_v4 kd_42 e_160) (lz_cNum k_v4) (he_cNum k_v4) rfl rfl rfl (Nat.le_of_ble_eq_true rfl) (by decide) dK_powerOf_160 ?_
        refine wk_aload C dK_powerOf_163 rfl ?_
        refine wk_iload_n C 3 dK_powerOf_165 rfl rfl ?_
        obtain ⟨r166, h166, e_166, hf⟩ := bd_some hf
        refine wk_callV (As := [.int v3]) (rest := []) C lw_good cw_K_70 wi_N_roundTo (m_N_roundTo hI k_v4 e_166) (lz_cNum k_v4) (he_cNum k_v4) rfl rfl rfl (Nat.le_of_ble_eq_true rfl) (by decide) dK_powerOf_166 ?_
        refine wk_aload C dK_powerOf_169 rfl ?_
        obtain ⟨r171, h171, e_171, hf⟩ := bd_some hf
        refine wk_callV (As := []) (rest := []) C lw_good cw_K_139 wi_N_dropEndZeros (m_N_dropEndZeros hI k_v4 e_171) (lz_cNum k_v4) (he_cNum k_v4) rfl rfl rfl (Nat.le_of_ble_eq_true rfl) (by decide) dK_powerOf_171 ?_
        refine wk_iconst C dK_powerOf_174 kiconst_0 ?_
        cases hf
        exact wk_ireturn C hq dK_powerOf_175
    · refine wk_iload C dK_powerOf_81 rfl ?_
      refine wk_iload C dK_powerOf_83 rfl ?_
      refine wk_ishr C dK_powerOf_85 ?_
      refine wk_istore C dK_powerOf_86 (by decide) ?_
      refine wk_iload C dK_powerOf_88 rfl ?_
      refine wk_if_eq (tgt := 103) C dK_powerOf_90 rfl hf (fun c_90 hf => ?_) (fun c_90 hf => ?_)
      · exact wk_go (b_K_powerOf_103 hI C (fun _ _ _ _ _ _ _ _ _ k_v1 k_v4 hf hq => ih k_v1 k_v4 hf hq) k_v1 k_v4 hf hq) (And.intro rfl (And.intro rfl (And.intro rfl (And.intro rfl (And.intro rfl (And.intro rfl (And.intro rfl (And.intro rfl (And.intro rfl trivial)))))))))
      · refine wk_aload_n C 0 dK_powerOf_93 rfl rfl ?_
        refine wk_aload C dK_powerOf_94 rfl ?_
        refine wk_aload C dK_powerOf_96 rfl ?_
        refine wk_iload C dK_powerOf_98 rfl ?_
        obtain ⟨r100, h100, e_100, hf⟩ := bd_some hf
        refine wk_callV (As := [.ref (cad G v4), .ref (cad G v4), .int v6]) (rest := []) C lw_good cw_K_145 wi_K_multiplyInto (m_K_multiplyInto hI k_v4 k_v4 e_100) lz_28 (he_28 G (h 28)) rfl rfl rfl (Nat.le_of_ble_eq_true rfl) (by decide) dK_powerOf_100 ?_
        exact wk_go (b_K_powerOf_103 hI C (fun _ _ _ _ _ _ _ _ _ k_v1 k_v4 hf hq => ih k_v1 k_v4 hf hq) k_v1 k_v4 hf hq) (And.intro rfl (And.intro rfl (And.intro rfl (And.intro rfl (And.intro rfl (And.intro rfl (And.intro rfl (And.intro rfl (And.intro rfl trivial)))))))))
set_option maxHeartbeats 4000000 in
set_option maxRecDepth 100000 in
theorem b_K_powerOf_31 {X : wk_X} {G : cGt} (hI : wd_inj (vC G)) (C : wk_C X (vC G) cK_powerOf RK 9 4 98) {v1 : Nat} {v2 : Int32} {v3 : Int32} {v4 : Nat} {h : Hp} {q : Int32 × Hp} (k_v1 : cNum v1) (k_v4 : cNum v4) (hf : f_K_powerOf_31 v1 v2 v3 v4 h = some q) (hq : wk_Q X (vC G) (some (.int q.1)) q.2 (some .int)) : WW X (vC G) h 31 [(0, .ref (cad G 28)), (1, .ref (cad G v1)), (2, .int v2), (3, .int v3), (4, .ref (cad G v4))] [] := by
  unfold f_K_powerOf_31 at hf
  refine wk_iload_n C 2 dK_powerOf_31 rfl rfl ?_
  refine wk_mabs C mw_K_142 ⟨Nat.le_of_ble_eq_true rfl, Nat.le_of_ble_eq_true rfl⟩ dK_powerOf_32 ?_
  refine wk_istore C dK_powerOf_35 (by decide) ?_
  refine wk_iload_n C 3 dK_powerOf_37 rfl rfl ?_
  refine wk_iconst C dK_powerOf_38 kiconst_1 ?_
  refine wk_iadd C dK_powerOf_39 ?_
  refine wk_iload C dK_powerOf_40 rfl ?_
  refine wk_bipush C dK_powerOf_42 kbipush_99 ?_
  refine wk_icmp_le (tgt := 51) C dK_powerOf_44 rfl hf (fun c_44 hf => ?_) (fun c_44 hf => ?_)
  · refine wk_iload C dK_powerOf_51 rfl ?_
    refine wk_bipush C dK_powerOf_53 kbipush_9 ?_
    refine wk_icmp_le (tgt := 62) C dK_powerOf_55 rfl hf (fun c_55 hf => ?_) (fun c_55 hf => ?_)
    · refine wk_iconst C dK_powerOf_62 kiconst_1 ?_
      refine wk_iadd C dK_powerOf_63 ?_
      refine wk_istore C dK_powerOf_64 (by decide) ?_
      refine wk_aload C dK_powerOf_66 rfl ?_
      refine wk_iconst C dK_powerOf_68 kiconst_1 ?_
      obtain ⟨r69, h69, e_69, hf⟩ := bd_some hf
      refine wk_callV (As := [.int 1]) (rest := []) C lw_good cw_K_108 wi_N_becomeUnit (m_N_becomeUnit hI k_v4 e_69) (lz_cNum k_v4) (he_cNum k_v4) rfl rfl rfl (Nat.le_of_ble_eq_true rfl) (by decide) dK_powerOf_69 ?_
      refine wk_bipush C dK_powerOf_72 kbipush_9 ?_
      refine wk_istore C dK_powerOf_74 (by decide) ?_
      exact wk_go (b_K_powerOf_76 hI C fuel k_v1 k_v4 hf hq) (And.intro rfl (And.intro rfl (And.intro rfl (And.intro rfl (And.intro rfl (And.intro rfl (And.intro rfl (And.intro rfl trivial))))))))
    · refine wk_iconst C dK_powerOf_58 kiconst_2 ?_
      refine wk_goto (tgt := 63) C dK_powerOf_59 rfl ?_
      refine wk_iadd C dK_powerOf_63 ?_
      refine wk_istore C dK_powerOf_64 (by decide) ?_
      refine wk_aload C dK_powerOf_66 rfl ?_
      refine wk_iconst C dK_powerOf_68 kiconst_1 ?_
      obtain ⟨r69, h69, e_69, hf⟩ := bd_some hf
      refine wk_callV (As := [.int 1]) (rest := []) C lw_good cw_K_108 wi_N_becomeUnit (m_N_becomeUnit hI k_v4 e_69) (lz_cNum k_v4) (he_cNum k_v4) rfl rfl rfl (Nat.le_of_ble_eq_true rfl) (by decide) dK_powerOf_69 ?_
      refine wk_bipush C dK_powerOf_72 kbipush_9 ?_
      refine wk_istore C dK_powerOf_74 (by decide) ?_
      exact wk_go (b_K_powerOf_76 hI C fuel k_v1 k_v4 hf hq) (And.intro rfl (And.intro rfl (And.intro rfl (And.intro rfl (And.intro rfl (And.intro rfl (And.intro rfl (And.intro rfl trivial))))))))
  · refine wk_iconst C dK_powerOf_47 kiconst_3 ?_
    refine wk_goto (tgt := 63) C dK_powerOf_48 rfl ?_
    refine wk_iadd C dK_powerOf_63 ?_
    refine wk_istore C dK_powerOf_64 (by decide) ?_
    refine wk_aload C dK_powerOf_66 rfl ?_
    refine wk_iconst C dK_powerOf_68 kiconst_1 ?_
    obtain ⟨r69, h69, e_69, hf⟩ := bd_some hf
    refine wk_callV (As := [.int 1]) (rest := []) C lw_good cw_K_108 wi_N_becomeUnit (m_N_becomeUnit hI k_v4 e_69) (lz_cNum k_v4) (he_cNum k_v4) rfl rfl rfl (Nat.le_of_ble_eq_true rfl) (by decide) dK_powerOf_69 ?_
    refine wk_bipush C dK_powerOf_72 kbipush_9 ?_
    refine wk_istore C dK_powerOf_74 (by decide) ?_
    exact wk_go (b_K_powerOf_76 hI C fuel k_v1 k_v4 hf hq) (And.intro rfl (And.intro rfl (And.intro rfl (And.intro rfl (And.intro rfl (And.intro rfl (And.intro rfl (And.intro rfl trivial))))))))
set_option maxHeartbeats 4000000 in
set_option maxRecDepth 100000 in
theorem b_K_powerOf {X : wk_X} {G : cGt} (hI : wd_inj (vC G)) (C : wk_C X (vC G) cK_powerOf RK 9 4 98) {v1 : Nat} {v2 : Int32} {v3 : Int32} {v4 : Nat} {h : Hp} {q : Int32 × Hp} (k_v1 : cNum v1) (k_v4 : cNum v4) (hf : f_K_powerOf v1 v2 v3 v4 h = some q) (hq : wk_Q X (vC G) (some (.int q.1)) q.2 (some .int)) : WW X (vC G) h 0 [(0, .ref (cad G 28)), (1, .ref (cad G v1)), (2, .int v2), (3, .int v3), (4, .ref (cad G v4))] [] := by
  unfold f_K_powerOf at hf
  refine wk_iload_n C 2 dK_powerOf_0 rfl rfl ?_
  refine wk_sipush C dK_powerOf_1 ksipush_m999 ?_
  refine wk_icmp_lt (tgt := 14) C dK_powerOf_4 rfl hf (fun c_4 hf => ?_) (fun c_4 hf => ?_)
  · refine wk_bipush C dK_powerOf_14 kbipush_26 ?_
    cases hf
    exact wk_ireturn C hq dK_powerOf_16
  · refine wk_iload_n C 2 dK_powerOf_7 rfl rfl ?_
    refine wk_sipush C dK_powerOf_8 ksipush_999 ?_
    refine wk_icmp_le (tgt := 17) C dK_powerOf_11 rfl hf (fun c_11 hf => ?_) (fun c_11 hf => ?_)
    · refine wk_iload_n C 2 dK_powerOf_17 rfl rfl ?_
      refine wk_if_ge (tgt := 31) C dK_powerOf_18 rfl hf (fun c_18 hf => ?_) (fun c_18 hf => ?_)
      · exact wk_go (b_K_powerOf_31 hI C k_v1 k_v4 hf hq) (And.intro rfl (And.intro rfl (And.intro rfl (And.intro rfl (And.intro rfl trivial)))))
      · refine wk_aload_n C 1 dK_powerOf_21 rfl rfl ?_
        refine gf_K_39 C k_v1 dK_powerOf_22 ?_
        refine wk_if_ne (tgt := 31) C dK_powerOf_25 rfl hf (fun c_25 hf => ?_) (fun c_25 hf => ?_)
        · exact wk_go (b_K_powerOf_31 hI C k_v1 k_v4 hf hq) (And.intro rfl (And.intro rfl (And.intro rfl (And.intro rfl (And.intro rfl trivial)))))
        · refine wk_bipush C dK_powerOf_28 kbipush_42 ?_
          cases hf
          exact wk_ireturn C hq dK_powerOf_30
    · refine wk_bipush C dK_powerOf_14 kbipush_26 ?_
      cases hf
      exact wk_ireturn C hq dK_powerOf_16
theorem m_K_powerOf {l : Launch} {G : cGt} (hI : wd_inj (vC G)) {v1 : Nat} {v2 : Int32} {v3 : Int32} {v4 : Nat} {h h' : Hp} {r : Int32} (k_v1 : cNum v1) (k_v4 : cNum v4) (hf : f_K_powerOf v1 v2 v3 v4 h = some (r, h')) : wk_M l (vC G) yK_powerOf cK_powerOf 9 (some .int) 4 98 [.ref (cad G 28), .ref (cad G v1), .int v2, .int v3, .ref (cad G v4)] h (some (.int r)) h' :=
  wk_met hI (by decide +kernel) rfl (Nat.le_of_ble_eq_true rfl) (wk_cat1 rfl) (fun X hX C hq => by subst hX; exact b_K_powerOf hI C k_v1 k_v4 hf hq)
set_option maxHeartbeats 4000000 in
set_option maxRecDepth 100000 in
theorem b_K_reckon_20 {X : wk_X} {G : cGt} (hI : wd_inj (vC G)) (C : wk_C X (vC G) cK_reckon RK 7 5 126) {v1 : Int32} {v2 : Nat} {v3 : Nat} {v4 : Int32} {v5 : Nat} {h : Hp} {q : Int32 × Hp} (k_v2 : cNum v2) (k_v3 : cNum v3) (k_v5 : cNum v5) (hf : f_K_reckon_20 v1 v2 v3 v4 v5 h = some q) (hq : wk_Q X (vC G) (some (.int q.1)) q.2 (some .int)) : WW X (vC G) h 20 [(0, .ref (cad G 28)), (1, .int v1), (2, .ref (cad G v2)), (3, .ref (cad G v3)), (4, .int v4), (5, .ref (cad G v5))] [] := by
  unfold f_K_reckon_20 at hf
  refine wk_iconst C dK_reckon_20 kiconst_0 ?_
  refine wk_istore C dK_reckon_21 (by decide) ?_
  refine wk_iload_n C 1 dK_reckon_23 rfl rfl ?_
  by_cases c_24_0 : v1 = 0
  · have hf := (if_pos c_24_0).symm.trans hf
    refine wk_tableIn (tgt := 64) C dK_reckon_24 (z := 0) (by rw [c_24_0]; decide) (by decide) (by decide) rfl rfl ?_
    refine wk_aload_n C 0 dK_reckon_64 rfl rfl ?_
    refine wk_aload_n C 2 dK_reckon_65 rfl rfl ?_
    refine wk_aload_n C 3 dK_reckon_66 rfl rfl ?_
    refine wk_iconst C dK_reckon_67 kiconst_0 ?_
    refine wk_aload C dK_reckon_68 rfl ?_
    obtain ⟨r70, h70, e_70, hf⟩ := bd_some hf
    refine wk_callV (As := [.ref (cad G v2), .ref (cad G v3), .int 0, .ref (cad G v5)]) (rest := []) C lw_good cw_K_43 wi_K_sum (m_K_sum hI k_v2 k_v3 k_v5 e_70) lz_28 (he_28 G (h 28)) rfl rfl rfl (Nat.le_of_ble_eq_true rfl) (by decide) dK_reckon_70 ?_
    refine wk_goto (tgt := 157) C dK_reckon_73 rfl ?_
    refine wk_aload C dK_reckon_157 rfl ?_
    refine wk_iload C dK_reckon_159 rfl ?_
    obtain ⟨r161, h161, e_161, hf⟩ := bd_some hf
    refine wk_callV (As := [.int v4]) (rest := []) C lw_good cw_K_70 wi_N_roundTo (m_N_roundTo hI k_v5 e_161) (lz_cNum k_v5) (he_cNum k_v5) rfl rfl rfl (Nat.le_of_ble_eq_true rfl) (by decide) dK_reckon_161 ?_
    refine wk_iload C dK_reckon_164 rfl ?_
    cases hf
    exact wk_ireturn C hq dK_reckon_166
  · have hf := (if_neg c_24_0).symm.trans hf
    by_cases c_24_1 : v1 = 1
    · have hf := (if_pos c_24_1).symm.trans hf
      refine wk_tableIn (tgt := 76) C dK_reckon_24 (z := 1) (by rw [c_24_1]; decide) (by decide) (by decide) rfl rfl ?_
      refine wk_aload_n C 0 dK_reckon_76 rfl rfl ?_
      refine wk_aload_n C 2 dK_reckon_77 rfl rfl ?_
      refine wk_aload_n C 3 dK_reckon_78 rfl rfl ?_
      refine wk_iconst C dK_reckon_79 kiconst_1 ?_
      refine wk_aload C dK_reckon_80 rfl ?_
      obtain ⟨r82, h82, e_82, hf⟩ := bd_some hf
      refine wk_callV (As := [.ref (cad G v2), .ref (cad G v3), .int 1, .ref (cad G v5)]) (rest := []) C lw_good cw_K_43 wi_K_sum (m_K_sum hI k_v2 k_v3 k_v5 e_82) lz_28 (he_28 G (h 28)) rfl rfl rfl (Nat.le_of_ble_eq_true rfl) (by decide) dK_reckon_82 ?_
      refine wk_goto (tgt := 157) C dK_reckon_85 rfl ?_
      refine wk_aload C dK_reckon_157 rfl ?_
      refine wk_iload C dK_reckon_159 rfl ?_
      obtain ⟨r161, h161, e_161, hf⟩ := bd_some hf
      refine wk_callV (As := [.int v4]) (rest := []) C lw_good cw_K_70 wi_N_roundTo (m_N_roundTo hI k_v5 e_161) (lz_cNum k_v5) (he_cNum k_v5) rfl rfl rfl (Nat.le_of_ble_eq_true rfl) (by decide) dK_reckon_161 ?_
      refine wk_iload C dK_reckon_164 rfl ?_
      cases hf
      exact wk_ireturn C hq dK_reckon_166
    · have hf := (if_neg c_24_1).symm.trans hf
      by_cases c_24_2 : v1 = 2
      · have hf := (if_pos c_24_2).symm.trans hf
        refine wk_tableIn (tgt := 88) C dK_reckon_24 (z := 2) (by rw [c_24_2]; decide) (by decide) (by decide) rfl rfl ?_
        refine wk_aload_n C 0 dK_reckon_88 rfl rfl ?_
        refine wk_aload_n C 2 dK_reckon_89 rfl rfl ?_
        refine wk_aload_n C 3 dK_reckon_90 rfl rfl ?_
        refine wk_aload C dK_reckon_91 rfl ?_
        obtain ⟨r93, h93, e_93, hf⟩ := bd_some hf
        refine wk_callV (As := [.ref (cad G v2), .ref (cad G v3), .ref (cad G v5)]) (rest := []) C lw_good cw_K_47 wi_K_product (m_K_product hI k_v2 k_v3 k_v5 e_93) lz_28 (he_28 G (h 28)) rfl rfl rfl (Nat.le_of_ble_eq_true rfl) (by decide) dK_reckon_93 ?_
        refine wk_goto (tgt := 157) C dK_reckon_96 rfl ?_
        refine wk_aload C dK_reckon_157 rfl ?_
        refine wk_iload C dK_reckon_159 rfl ?_
        obtain ⟨r161, h161, e_161, hf⟩ := bd_some hf
        refine wk_callV (As := [.int v4]) (rest := []) C lw_good cw_K_70 wi_N_roundTo (m_N_roundTo hI k_v5 e_161) (lz_cNum k_v5) (he_cNum k_v5) rfl rfl rfl (Nat.le_of_ble_eq_true rfl) (by decide) dK_reckon_161 ?_
        refine wk_iload C dK_reckon_164 rfl ?_
        cases hf
        exact wk_ireturn C hq dK_reckon_166
      · have hf := (if_neg c_24_2).symm.trans hf
        by_cases c_24_3 : v1 = 3
        · have hf := (if_pos c_24_3).symm.trans hf
          refine wk_tableIn (tgt := 99) C dK_reckon_24 (z := 3) (by rw [c_24_3]; decide) (by decide) (by decide) rfl rfl ?_
          refine wk_aload_n C 0 dK_reckon_99 rfl rfl ?_
          refine wk_aload_n C 2 dK_reckon_100 rfl rfl ?_
          refine wk_aload_n C 3 dK_reckon_101 rfl rfl ?_
          refine wk_iload C dK_reckon_102 rfl ?_
          refine wk_aload C dK_reckon_104 rfl ?_
          obtain ⟨r106, h106, e_106, hf⟩ := bd_some hf
          refine wk_callV (As := [.ref (cad G v2), .ref (cad G v3), .int v4, .ref (cad G v5)]) (rest := []) C lw_good cw_K_51 wi_K_quotient (m_K_quotient hI k_v2 k_v3 k_v5 e_106) lz_28 (he_28 G (h 28)) rfl rfl rfl (Nat.le_of_ble_eq_true rfl) (by decide) dK_reckon_106 ?_
          refine wk_goto (tgt := 157) C dK_reckon_109 rfl ?_
          refine wk_aload C dK_reckon_157 rfl ?_
          refine wk_iload C dK_reckon_159 rfl ?_
          obtain ⟨r161, h161, e_161, hf⟩ := bd_some hf
          refine wk_callV (As := [.int v4]) (rest := []) C lw_good cw_K_70 wi_N_roundTo (m_N_roundTo hI k_v5 e_161) (lz_cNum k_v5) (he_cNum k_v5) rfl rfl rfl (Nat.le_of_ble_eq_true rfl) (by decide) dK_reckon_161 ?_
          refine wk_iload C dK_reckon_164 rfl ?_
          cases hf
          exact wk_ireturn C hq dK_reckon_166
        · have hf := (if_neg c_24_3).symm.trans hf
          by_cases c_24_4 : v1 = 4
          · have hf := (if_pos c_24_4).symm.trans hf
            refine wk_tableIn (tgt := 112) C dK_reckon_24 (z := 4) (by rw [c_24_4]; decide) (by decide) (by decide) rfl rfl ?_
            refine wk_aload_n C 0 dK_reckon_112 rfl rfl ?_
            refine wk_aload_n C 2 dK_reckon_113 rfl rfl ?_
            refine wk_aload_n C 3 dK_reckon_114 rfl rfl ?_
            refine wk_iload C dK_reckon_115 rfl ?_
            refine wk_aload C dK_reckon_117 rfl ?_
            obtain ⟨r119, h119, e_119, hf⟩ := bd_some hf
            refine wk_callV (As := [.ref (cad G v2), .ref (cad G v3), .int v4, .ref (cad G v5)]) (rest := []) C lw_good cw_K_55 wi_K_partOf (m_K_partOf hI k_v2 k_v3 k_v5 e_119) lz_28 (he_28 G (h 28)) rfl rfl rfl (Nat.le_of_ble_eq_true rfl) (by decide) dK_reckon_119 ?_
            refine wk_istore C dK_reckon_122 (by decide) ?_
            refine wk_goto (tgt := 157) C dK_reckon_124 rfl ?_
            refine wk_aload C dK_reckon_157 rfl ?_
            refine wk_iload C dK_reckon_159 rfl ?_
            obtain ⟨r161, h161, e_161, hf⟩ := bd_some hf
            refine wk_callV (As := [.int v4]) (rest := []) C lw_good cw_K_70 wi_N_roundTo (m_N_roundTo hI k_v5 e_161) (lz_cNum k_v5) (he_cNum k_v5) rfl rfl rfl (Nat.le_of_ble_eq_true rfl) (by decide) dK_reckon_161 ?_
            refine wk_iload C dK_reckon_164 rfl ?_
            cases hf
            exact wk_ireturn C hq dK_reckon_166
          · have hf := (if_neg c_24_4).symm.trans hf
            by_cases c_24_5 : v1 = 5
            · have hf := (if_pos c_24_5).symm.trans hf
              refine wk_tableIn (tgt := 127) C dK_reckon_24 (z := 5) (by rw [c_24_5]; decide) (by decide) (by decide) rfl rfl ?_
              refine wk_aload_n C 0 dK_reckon_127 rfl rfl ?_
              refine wk_aload_n C 2 dK_reckon_128 rfl rfl ?_
              refine wk_aload_n C 3 dK_reckon_129 rfl rfl ?_
              refine wk_iload C dK_reckon_130 rfl ?_
              refine wk_aload C dK_reckon_132 rfl ?_
              obtain ⟨r134, h134, e_134, hf⟩ := bd_some hf
              refine wk_callV (As := [.ref (cad G v2), .ref (cad G v3), .int v4, .ref (cad G v5)]) (rest := []) C lw_good cw_K_59 wi_K_restOf (m_K_restOf hI k_v2 k_v3 k_v5 e_134) lz_28 (he_28 G (h 28)) rfl rfl rfl (Nat.le_of_ble_eq_true rfl) (by decide) dK_reckon_134 ?_
              refine wk_istore C dK_reckon_137 (by decide) ?_
              refine wk_goto (tgt := 157) C dK_reckon_139 rfl ?_
              refine wk_aload C dK_reckon_157 rfl ?_
              refine wk_iload C dK_reckon_159 rfl ?_
              obtain ⟨r161, h161, e_161, hf⟩ := bd_some hf
              refine wk_callV (As := [.int v4]) (rest := []) C lw_good cw_K_70 wi_N_roundTo (m_N_roundTo hI k_v5 e_161) (lz_cNum k_v5) (he_cNum k_v5) rfl rfl rfl (Nat.le_of_ble_eq_true rfl) (by decide) dK_reckon_161 ?_
              refine wk_iload C dK_reckon_164 rfl ?_
              cases hf
              exact wk_ireturn C hq dK_reckon_166
            · have hf := (if_neg c_24_5).symm.trans hf
              refine wk_tableOut (tgt := 142) C dK_reckon_24 (wk_out6 c_24_0 c_24_1 c_24_2 c_24_3 c_24_4 c_24_5) rfl ?_
              refine wk_aload_n C 0 dK_reckon_142 rfl rfl ?_
              refine wk_aload_n C 2 dK_reckon_143 rfl rfl ?_
              refine wk_aload_n C 3 dK_reckon_144 rfl rfl ?_
              obtain ⟨r145, h145, e_145, hf⟩ := bd_some hf
              refine wk_callV (As := []) (rest := [.ref (cad G v2), .ref (cad G 28)]) C lw_good cw_K_62 wi_N_wholeValue (m_N_wholeValue hI k_v3 e_145) (lz_cNum k_v3) (he_cNum k_v3) rfl rfl rfl (Nat.le_of_ble_eq_true rfl) (by decide) dK_reckon_145 ?_
              refine wk_iload C dK_reckon_148 rfl ?_
              refine wk_aload C dK_reckon_150 rfl ?_
              obtain ⟨r152, h152, e_152, hf⟩ := bd_some hf
              refine wk_callV (As := [.ref (cad G v2), .int r145, .int v4, .ref (cad G v5)]) (rest := []) C lw_good cw_K_66 wi_K_powerOf (m_K_powerOf hI k_v2 k_v5 e_152) lz_28 (he_28 G (h145 28)) rfl rfl rfl (Nat.le_of_ble_eq_true rfl) (by decide) dK_reckon_152 ?_
              refine wk_istore C dK_reckon_155 (by decide) ?_
              refine wk_aload C dK_reckon_157 rfl ?_
              refine wk_iload C dK_reckon_159 rfl ?_
              obtain ⟨r161, h161, e_161, hf⟩ := bd_some hf
              refine wk_callV (As := [.int v4]) (rest := []) C lw_good cw_K_70 wi_N_roundTo (m_N_roundTo hI k_v5 e_161) (lz_cNum k_v5) (he_cNum k_v5) rfl rfl rfl (Nat.le_of_ble_eq_true rfl) (by decide) dK_reckon_161 ?_
              refine wk_iload C dK_reckon_164 rfl ?_
              cases hf
              exact wk_ireturn C hq dK_reckon_166
set_option maxHeartbeats 4000000 in
set_option maxRecDepth 100000 in
theorem b_K_reckon {X : wk_X} {G : cGt} (hI : wd_inj (vC G)) (C : wk_C X (vC G) cK_reckon RK 7 5 126) {v1 : Int32} {v2 : Nat} {v3 : Nat} {v4 : Int32} {v5 : Nat} {h : Hp} {q : Int32 × Hp} (k_v2 : cNum v2) (k_v3 : cNum v3) (k_v5 : cNum v5) (hf : f_K_reckon v1 v2 v3 v4 v5 h = some q) (hq : wk_Q X (vC G) (some (.int q.1)) q.2 (some .int)) : WW X (vC G) h 0 [(0, .ref (cad G 28)), (1, .int v1), (2, .ref (cad G v2)), (3, .ref (cad G v3)), (4, .int v4), (5, .ref (cad G v5))] [] := by
  unfold f_K_reckon at hf
  refine wk_iload_n C 1 dK_reckon_0 rfl rfl ?_
  refine wk_iconst C dK_reckon_1 kiconst_3 ?_
  refine wk_icmp_lt (tgt := 20) C dK_reckon_2 rfl hf (fun c_2 hf => ?_) (fun c_2 hf => ?_)
  · exact wk_go (b_K_reckon_20 hI C k_v2 k_v3 k_v5 hf hq) (And.intro rfl (And.intro rfl (And.intro rfl (And.intro rfl (And.intro rfl (And.intro rfl trivial))))))
  · refine wk_iload_n C 1 dK_reckon_5 rfl rfl ?_
    refine wk_iconst C dK_reckon_6 kiconst_5 ?_
    refine wk_icmp_gt (tgt := 20) C dK_reckon_7 rfl hf (fun c_7 hf => ?_) (fun c_7 hf => ?_)
    · exact wk_go (b_K_reckon_20 hI C k_v2 k_v3 k_v5 hf hq) (And.intro rfl (And.intro rfl (And.intro rfl (And.intro rfl (And.intro rfl (And.intro rfl trivial))))))
    · refine wk_aload_n C 3 dK_reckon_10 rfl rfl ?_
      refine gf_K_39 C k_v3 dK_reckon_11 ?_
      refine wk_if_ne (tgt := 20) C dK_reckon_14 rfl hf (fun c_14 hf => ?_) (fun c_14 hf => ?_)
      · exact wk_go (b_K_reckon_20 hI C k_v2 k_v3 k_v5 hf hq) (And.intro rfl (And.intro rfl (And.intro rfl (And.intro rfl (And.intro rfl (And.intro rfl trivial))))))
      · refine wk_bipush C dK_reckon_17 kbipush_42 ?_
        cases hf
        exact wk_ireturn C hq dK_reckon_19
theorem m_K_reckon {l : Launch} {G : cGt} (hI : wd_inj (vC G)) {v1 : Int32} {v2 : Nat} {v3 : Nat} {v4 : Int32} {v5 : Nat} {h h' : Hp} {r : Int32} (k_v2 : cNum v2) (k_v3 : cNum v3) (k_v5 : cNum v5) (hf : f_K_reckon v1 v2 v3 v4 v5 h = some (r, h')) : wk_M l (vC G) yK_reckon cK_reckon 7 (some .int) 5 126 [.ref (cad G 28), .int v1, .ref (cad G v2), .ref (cad G v3), .int v4, .ref (cad G v5)] h (some (.int r)) h' :=
  wk_met hI (by decide +kernel) rfl (Nat.le_of_ble_eq_true rfl) (wk_cat1 rfl) (fun X hX C hq => by subst hX; exact b_K_reckon hI C k_v2 k_v3 k_v5 hf hq)
