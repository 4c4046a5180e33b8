theorem dR_isDigit_0 : decode cR_isDigit 0 = .ok (.iload_n 0, 1) := by decide +kernel
theorem dR_isDigit_1 : decode cR_isDigit 1 = .ok (.bipush 48, 2) := by decide +kernel
theorem dR_isDigit_3 : decode cR_isDigit 3 = .ok (.if_icmp .lt 13, 3) := by decide +kernel
theorem dR_isDigit_6 : decode cR_isDigit 6 = .ok (.iload_n 0, 1) := by decide +kernel
theorem dR_isDigit_7 : decode cR_isDigit 7 = .ok (.bipush 57, 2) := by decide +kernel
theorem dR_isDigit_9 : decode cR_isDigit 9 = .ok (.if_icmp .gt 7, 3) := by decide +kernel
theorem dR_isDigit_12 : decode cR_isDigit 12 = .ok (.iconst 1, 1) := by decide +kernel
theorem dR_isDigit_13 : decode cR_isDigit 13 = .ok (.goto 4, 3) := by decide +kernel
theorem dR_isDigit_16 : decode cR_isDigit 16 = .ok (.iconst 0, 1) := by decide +kernel
theorem dR_isDigit_17 : decode cR_isDigit 17 = .ok (.ireturn, 1) := by decide +kernel
theorem dR_skipBlanks_0 : decode cR_skipBlanks 0 = .ok (.aload_n 0, 1) := by decide +kernel
theorem dR_skipBlanks_1 : decode cR_skipBlanks 1 = .ok (.getfield 9, 3) := by decide +kernel
theorem dR_skipBlanks_4 : decode cR_skipBlanks 4 = .ok (.aload_n 1, 1) := by decide +kernel
theorem dR_skipBlanks_5 : decode cR_skipBlanks 5 = .ok (.getfield 42, 3) := by decide +kernel
theorem dR_skipBlanks_8 : decode cR_skipBlanks 8 = .ok (.if_icmp .ge 29, 3) := by decide +kernel
theorem dR_skipBlanks_11 : decode cR_skipBlanks 11 = .ok (.aload_n 1, 1) := by decide +kernel
theorem dR_skipBlanks_12 : decode cR_skipBlanks 12 = .ok (.aload_n 0, 1) := by decide +kernel
theorem dR_skipBlanks_13 : decode cR_skipBlanks 13 = .ok (.getfield 9, 3) := by decide +kernel
theorem dR_skipBlanks_16 : decode cR_skipBlanks 16 = .ok (.invokevirtual 47, 3) := by decide +kernel
theorem dR_skipBlanks_19 : decode cR_skipBlanks 19 = .ok (.bipush 32, 2) := by decide +kernel
theorem dR_skipBlanks_21 : decode cR_skipBlanks 21 = .ok (.if_icmp .ne 16, 3) := by decide +kernel
theorem dR_skipBlanks_24 : decode cR_skipBlanks 24 = .ok (.aload_n 0, 1) := by decide +kernel
theorem dR_skipBlanks_25 : decode cR_skipBlanks 25 = .ok (.dup, 1) := by decide +kernel
theorem dR_skipBlanks_26 : decode cR_skipBlanks 26 = .ok (.getfield 9, 3) := by decide +kernel
theorem dR_skipBlanks_29 : decode cR_skipBlanks 29 = .ok (.iconst 1, 1) := by decide +kernel
theorem dR_skipBlanks_30 : decode cR_skipBlanks 30 = .ok (.iadd, 1) := by decide +kernel
theorem dR_skipBlanks_31 : decode cR_skipBlanks 31 = .ok (.putfield 9, 3) := by decide +kernel
theorem dR_skipBlanks_34 : decode cR_skipBlanks 34 = .ok (.goto (-34), 3) := by decide +kernel
theorem dR_skipBlanks_37 : decode cR_skipBlanks 37 = .ok (.return_, 1) := by decide +kernel
theorem dR_readSign_0 : decode cR_readSign 0 = .ok (.aload_n 1, 1) := by decide +kernel
theorem dR_readSign_1 : decode cR_readSign 1 = .ok (.aload_n 0, 1) := by decide +kernel
theorem dR_readSign_2 : decode cR_readSign 2 = .ok (.getfield 9, 3) := by decide +kernel
theorem dR_readSign_5 : decode cR_readSign 5 = .ok (.invokevirtual 47, 3) := by decide +kernel
theorem dR_readSign_8 : decode cR_readSign 8 = .ok (.istore_n 2, 1) := by decide +kernel
theorem dR_readSign_9 : decode cR_readSign 9 = .ok (.iload_n 2, 1) := by decide +kernel
theorem dR_readSign_10 : decode cR_readSign 10 = .ok (.bipush 43, 2) := by decide +kernel
theorem dR_readSign_12 : decode cR_readSign 12 = .ok (.if_icmp .eq 9, 3) := by decide +kernel
theorem dR_readSign_15 : decode cR_readSign 15 = .ok (.iload_n 2, 1) := by decide +kernel
theorem dR_readSign_16 : decode cR_readSign 16 = .ok (.bipush 45, 2) := by decide +kernel
theorem dR_readSign_18 : decode cR_readSign 18 = .ok (.if_icmp .ne 13, 3) := by decide +kernel
theorem dR_readSign_21 : decode cR_readSign 21 = .ok (.aload_n 0, 1) := by decide +kernel
theorem dR_readSign_22 : decode cR_readSign 22 = .ok (.dup, 1) := by decide +kernel
theorem dR_readSign_23 : decode cR_readSign 23 = .ok (.getfield 9, 3) := by decide +kernel
theorem dR_readSign_26 : decode cR_readSign 26 = .ok (.iconst 1, 1) := by decide +kernel
theorem dR_readSign_27 : decode cR_readSign 27 = .ok (.iadd, 1) := by decide +kernel
theorem dR_readSign_28 : decode cR_readSign 28 = .ok (.putfield 9, 3) := by decide +kernel
theorem dR_readSign_31 : decode cR_readSign 31 = .ok (.iload_n 2, 1) := by decide +kernel
theorem dR_readSign_32 : decode cR_readSign 32 = .ok (.bipush 45, 2) := by decide +kernel
theorem dR_readSign_34 : decode cR_readSign 34 = .ok (.if_icmp .ne 7, 3) := by decide +kernel
theorem dR_readSign_37 : decode cR_readSign 37 = .ok (.iconst (-1), 1) := by decide +kernel
theorem dR_readSign_38 : decode cR_readSign 38 = .ok (.goto 4, 3) := by decide +kernel
theorem dR_readSign_41 : decode cR_readSign 41 = .ok (.iconst 1, 1) := by decide +kernel
theorem dR_readSign_42 : decode cR_readSign 42 = .ok (.ireturn, 1) := by decide +kernel
theorem dR_readDigits_0 : decode cR_readDigits 0 = .ok (.iconst 0, 1) := by decide +kernel
theorem dR_readDigits_1 : decode cR_readDigits 1 = .ok (.istore_n 3, 1) := by decide +kernel
theorem dR_readDigits_2 : decode cR_readDigits 2 = .ok (.iconst 0, 1) := by decide +kernel
theorem dR_readDigits_3 : decode cR_readDigits 3 = .ok (.istore 4, 2) := by decide +kernel
theorem dR_readDigits_5 : decode cR_readDigits 5 = .ok (.iconst 0, 1) := by decide +kernel
theorem dR_readDigits_6 : decode cR_readDigits 6 = .ok (.istore 5, 2) := by decide +kernel
theorem dR_readDigits_8 : decode cR_readDigits 8 = .ok (.aload_n 0, 1) := by decide +kernel
theorem dR_readDigits_9 : decode cR_readDigits 9 = .ok (.getfield 9, 3) := by decide +kernel
theorem dR_readDigits_12 : decode cR_readDigits 12 = .ok (.aload_n 1, 1) := by decide +kernel
theorem dR_readDigits_13 : decode cR_readDigits 13 = .ok (.getfield 42, 3) := by decide +kernel
theorem dR_readDigits_16 : decode cR_readDigits 16 = .ok (.if_icmp .ge 79, 3) := by decide +kernel
theorem dR_readDigits_19 : decode cR_readDigits 19 = .ok (.aload_n 1, 1) := by decide +kernel
theorem dR_readDigits_20 : decode cR_readDigits 20 = .ok (.aload_n 0, 1) := by decide +kernel
theorem dR_readDigits_21 : decode cR_readDigits 21 = .ok (.getfield 9, 3) := by decide +kernel
theorem dR_readDigits_24 : decode cR_readDigits 24 = .ok (.invokevirtual 47, 3) := by decide +kernel
theorem dR_readDigits_27 : decode cR_readDigits 27 = .ok (.istore 6, 2) := by decide +kernel
theorem dR_readDigits_29 : decode cR_readDigits 29 = .ok (.iload 6, 2) := by decide +kernel
theorem dR_readDigits_31 : decode cR_readDigits 31 = .ok (.invokestatic 51, 3) := by decide +kernel
theorem dR_readDigits_34 : decode cR_readDigits 34 = .ok (.ifCond .eq 33, 3) := by decide +kernel
theorem dR_readDigits_37 : decode cR_readDigits 37 = .ok (.aload_n 2, 1) := by decide +kernel
theorem dR_readDigits_38 : decode cR_readDigits 38 = .ok (.iload 6, 2) := by decide +kernel
theorem dR_readDigits_40 : decode cR_readDigits 40 = .ok (.bipush 48, 2) := by decide +kernel
theorem dR_readDigits_42 : decode cR_readDigits 42 = .ok (.isub, 1) := by decide +kernel
theorem dR_readDigits_43 : decode cR_readDigits 43 = .ok (.invokevirtual 55, 3) := by decide +kernel
theorem dR_readDigits_46 : decode cR_readDigits 46 = .ok (.iinc 3 1, 3) := by decide +kernel
theorem dR_readDigits_49 : decode cR_readDigits 49 = .ok (.iload 4, 2) := by decide +kernel
theorem dR_readDigits_51 : decode cR_readDigits 51 = .ok (.iload 5, 2) := by decide +kernel
theorem dR_readDigits_53 : decode cR_readDigits 53 = .ok (.ifCond .eq 7, 3) := by decide +kernel
theorem dR_readDigits_56 : decode cR_readDigits 56 = .ok (.iconst 1, 1) := by decide +kernel
theorem dR_readDigits_57 : decode cR_readDigits 57 = .ok (.goto 4, 3) := by decide +kernel
theorem dR_readDigits_60 : decode cR_readDigits 60 = .ok (.iconst 0, 1) := by decide +kernel
theorem dR_readDigits_61 : decode cR_readDigits 61 = .ok (.iadd, 1) := by decide +kernel
theorem dR_readDigits_62 : decode cR_readDigits 62 = .ok (.istore 4, 2) := by decide +kernel
theorem dR_readDigits_64 : decode cR_readDigits 64 = .ok (.goto 18, 3) := by decide +kernel
theorem dR_readDigits_67 : decode cR_readDigits 67 = .ok (.iload 6, 2) := by decide +kernel
theorem dR_readDigits_69 : decode cR_readDigits 69 = .ok (.bipush 46, 2) := by decide +kernel
theorem dR_readDigits_71 : decode cR_readDigits 71 = .ok (.if_icmp .ne 24, 3) := by decide +kernel
theorem dR_readDigits_74 : decode cR_readDigits 74 = .ok (.iload 5, 2) := by decide +kernel
theorem dR_readDigits_76 : decode cR_readDigits 76 = .ok (.ifCond .ne 19, 3) := by decide +kernel
theorem dR_readDigits_79 : decode cR_readDigits 79 = .ok (.iconst 1, 1) := by decide +kernel
theorem dR_readDigits_80 : decode cR_readDigits 80 = .ok (.istore 5, 2) := by decide +kernel
theorem dR_readDigits_82 : decode cR_readDigits 82 = .ok (.aload_n 0, 1) := by decide +kernel
theorem dR_readDigits_83 : decode cR_readDigits 83 = .ok (.dup, 1) := by decide +kernel
theorem dR_readDigits_84 : decode cR_readDigits 84 = .ok (.getfield 9, 3) := by decide +kernel
theorem dR_readDigits_87 : decode cR_readDigits 87 = .ok (.iconst 1, 1) := by decide +kernel
theorem dR_readDigits_88 : decode cR_readDigits 88 = .ok (.iadd, 1) := by decide +kernel
theorem dR_readDigits_89 : decode cR_readDigits 89 = .ok (.putfield 9, 3) := by decide +kernel
theorem dR_readDigits_92 : decode cR_readDigits 92 = .ok (.goto (-84), 3) := by decide +kernel
theorem dR_readDigits_95 : decode cR_readDigits 95 = .ok (.aload_n 2, 1) := by decide +kernel
theorem dR_readDigits_96 : decode cR_readDigits 96 = .ok (.iload 4, 2) := by decide +kernel
theorem dR_readDigits_98 : decode cR_readDigits 98 = .ok (.ineg, 1) := by decide +kernel
theorem dR_readDigits_99 : decode cR_readDigits 99 = .ok (.putfield 35, 3) := by decide +kernel
theorem dR_readDigits_102 : decode cR_readDigits 102 = .ok (.iload_n 3, 1) := by decide +kernel
theorem dR_readDigits_103 : decode cR_readDigits 103 = .ok (.ifCond .le 7, 3) := by decide +kernel
theorem dR_readDigits_106 : decode cR_readDigits 106 = .ok (.iconst 1, 1) := by decide +kernel
theorem dR_readDigits_107 : decode cR_readDigits 107 = .ok (.goto 4, 3) := by decide +kernel
theorem dR_readDigits_110 : decode cR_readDigits 110 = .ok (.iconst 0, 1) := by decide +kernel
theorem dR_readDigits_111 : decode cR_readDigits 111 = .ok (.ireturn, 1) := by decide +kernel
theorem dR_readExponent_0 : decode cR_readExponent 0 = .ok (.aload_n 1, 1) := by decide +kernel
theorem dR_readExponent_1 : decode cR_readExponent 1 = .ok (.aload_n 0, 1) := by decide +kernel
theorem dR_readExponent_2 : decode cR_readExponent 2 = .ok (.getfield 9, 3) := by decide +kernel
theorem dR_readExponent_5 : decode cR_readExponent 5 = .ok (.invokevirtual 47, 3) := by decide +kernel
theorem dR_readExponent_8 : decode cR_readExponent 8 = .ok (.istore_n 3, 1) := by decide +kernel
theorem dR_readExponent_9 : decode cR_readExponent 9 = .ok (.iload_n 3, 1) := by decide +kernel
theorem dR_readExponent_10 : decode cR_readExponent 10 = .ok (.bipush 69, 2) := by decide +kernel
theorem dR_readExponent_12 : decode cR_readExponent 12 = .ok (.if_icmp .eq 11, 3) := by decide +kernel
theorem dR_readExponent_15 : decode cR_readExponent 15 = .ok (.iload_n 3, 1) := by decide +kernel
theorem dR_readExponent_16 : decode cR_readExponent 16 = .ok (.bipush 101, 2) := by decide +kernel
theorem dR_readExponent_18 : decode cR_readExponent 18 = .ok (.if_icmp .eq 5, 3) := by decide +kernel
theorem dR_readExponent_21 : decode cR_readExponent 21 = .ok (.iconst 1, 1) := by decide +kernel
theorem dR_readExponent_22 : decode cR_readExponent 22 = .ok (.ireturn, 1) := by decide +kernel
theorem dR_readExponent_23 : decode cR_readExponent 23 = .ok (.aload_n 0, 1) := by decide +kernel
theorem dR_readExponent_24 : decode cR_readExponent 24 = .ok (.dup, 1) := by decide +kernel
theorem dR_readExponent_25 : decode cR_readExponent 25 = .ok (.getfield 9, 3) := by decide +kernel
theorem dR_readExponent_28 : decode cR_readExponent 28 = .ok (.iconst 1, 1) := by decide +kernel
theorem dR_readExponent_29 : decode cR_readExponent 29 = .ok (.iadd, 1) := by decide +kernel
theorem dR_readExponent_30 : decode cR_readExponent 30 = .ok (.putfield 9, 3) := by decide +kernel
theorem dR_readExponent_33 : decode cR_readExponent 33 = .ok (.aload_n 0, 1) := by decide +kernel
theorem dR_readExponent_34 : decode cR_readExponent 34 = .ok (.aload_n 1, 1) := by decide +kernel
theorem dR_readExponent_35 : decode cR_readExponent 35 = .ok (.invokevirtual 24, 3) := by decide +kernel
theorem dR_readExponent_38 : decode cR_readExponent 38 = .ok (.istore 4, 2) := by decide +kernel
theorem dR_readExponent_40 : decode cR_readExponent 40 = .ok (.iconst 0, 1) := by decide +kernel
theorem dR_readExponent_41 : decode cR_readExponent 41 = .ok (.istore 5, 2) := by decide +kernel
theorem dR_readExponent_43 : decode cR_readExponent 43 = .ok (.iconst 0, 1) := by decide +kernel
theorem dR_readExponent_44 : decode cR_readExponent 44 = .ok (.istore 6, 2) := by decide +kernel
theorem dR_readExponent_46 : decode cR_readExponent 46 = .ok (.iload 6, 2) := by decide +kernel
theorem dR_readExponent_48 : decode cR_readExponent 48 = .ok (.iconst 3, 1) := by decide +kernel
theorem dR_readExponent_49 : decode cR_readExponent 49 = .ok (.if_icmp .ge 52, 3) := by decide +kernel
theorem dR_readExponent_52 : decode cR_readExponent 52 = .ok (.aload_n 1, 1) := by decide +kernel
theorem dR_readExponent_53 : decode cR_readExponent 53 = .ok (.aload_n 0, 1) := by decide +kernel
theorem dR_readExponent_54 : decode cR_readExponent 54 = .ok (.getfield 9, 3) := by decide +kernel
theorem dR_readExponent_57 : decode cR_readExponent 57 = .ok (.invokevirtual 47, 3) := by decide +kernel
theorem dR_readExponent_60 : decode cR_readExponent 60 = .ok (.invokestatic 51, 3) := by decide +kernel
theorem dR_readExponent_63 : decode cR_readExponent 63 = .ok (.ifCond .eq 38, 3) := by decide +kernel
theorem dR_readExponent_66 : decode cR_readExponent 66 = .ok (.iload 5, 2) := by decide +kernel
theorem dR_readExponent_68 : decode cR_readExponent 68 = .ok (.bipush 10, 2) := by decide +kernel
theorem dR_readExponent_70 : decode cR_readExponent 70 = .ok (.imul, 1) := by decide +kernel
theorem dR_readExponent_71 : decode cR_readExponent 71 = .ok (.aload_n 1, 1) := by decide +kernel
theorem dR_readExponent_72 : decode cR_readExponent 72 = .ok (.aload_n 0, 1) := by decide +kernel
theorem dR_readExponent_73 : decode cR_readExponent 73 = .ok (.getfield 9, 3) := by decide +kernel
theorem dR_readExponent_76 : decode cR_readExponent 76 = .ok (.invokevirtual 47, 3) := by decide +kernel
theorem dR_readExponent_79 : decode cR_readExponent 79 = .ok (.iadd, 1) := by decide +kernel
theorem dR_readExponent_80 : decode cR_readExponent 80 = .ok (.bipush 48, 2) := by decide +kernel
theorem dR_readExponent_82 : decode cR_readExponent 82 = .ok (.isub, 1) := by decide +kernel
theorem dR_readExponent_83 : decode cR_readExponent 83 = .ok (.istore 5, 2) := by decide +kernel
theorem dR_readExponent_85 : decode cR_readExponent 85 = .ok (.aload_n 0, 1) := by decide +kernel
theorem dR_readExponent_86 : decode cR_readExponent 86 = .ok (.dup, 1) := by decide +kernel
theorem dR_readExponent_87 : decode cR_readExponent 87 = .ok (.getfield 9, 3) := by decide +kernel
theorem dR_readExponent_90 : decode cR_readExponent 90 = .ok (.iconst 1, 1) := by decide +kernel
theorem dR_readExponent_91 : decode cR_readExponent 91 = .ok (.iadd, 1) := by decide +kernel
theorem dR_readExponent_92 : decode cR_readExponent 92 = .ok (.putfield 9, 3) := by decide +kernel
theorem dR_readExponent_95 : decode cR_readExponent 95 = .ok (.iinc 6 1, 3) := by decide +kernel
theorem dR_readExponent_98 : decode cR_readExponent 98 = .ok (.goto (-52), 3) := by decide +kernel
theorem dR_readExponent_101 : decode cR_readExponent 101 = .ok (.aload_n 2, 1) := by decide +kernel
theorem dR_readExponent_102 : decode cR_readExponent 102 = .ok (.dup, 1) := by decide +kernel
theorem dR_readExponent_103 : decode cR_readExponent 103 = .ok (.getfield 35, 3) := by decide +kernel
theorem dR_readExponent_106 : decode cR_readExponent 106 = .ok (.iload 4, 2) := by decide +kernel
theorem dR_readExponent_108 : decode cR_readExponent 108 = .ok (.iload 5, 2) := by decide +kernel
theorem dR_readExponent_110 : decode cR_readExponent 110 = .ok (.imul, 1) := by decide +kernel
theorem dR_readExponent_111 : decode cR_readExponent 111 = .ok (.iadd, 1) := by decide +kernel
theorem dR_readExponent_112 : decode cR_readExponent 112 = .ok (.putfield 35, 3) := by decide +kernel
theorem dR_readExponent_115 : decode cR_readExponent 115 = .ok (.iload 6, 2) := by decide +kernel
theorem dR_readExponent_117 : decode cR_readExponent 117 = .ok (.ifCond .le 7, 3) := by decide +kernel
theorem dR_readExponent_120 : decode cR_readExponent 120 = .ok (.iconst 1, 1) := by decide +kernel
theorem dR_readExponent_121 : decode cR_readExponent 121 = .ok (.goto 4, 3) := by decide +kernel
theorem dR_readExponent_124 : decode cR_readExponent 124 = .ok (.iconst 0, 1) := by decide +kernel
theorem dR_readExponent_125 : decode cR_readExponent 125 = .ok (.ireturn, 1) := by decide +kernel
theorem dR_read_0 : decode cR_read 0 = .ok (.aload_n 0, 1) := by decide +kernel
theorem dR_read_1 : decode cR_read 1 = .ok (.iconst 0, 1) := by decide +kernel
theorem dR_read_2 : decode cR_read 2 = .ok (.putfield 9, 3) := by decide +kernel
theorem dR_read_5 : decode cR_read 5 = .ok (.aload_n 2, 1) := by decide +kernel
theorem dR_read_6 : decode cR_read 6 = .ok (.invokevirtual 15, 3) := by decide +kernel
theorem dR_read_9 : decode cR_read 9 = .ok (.aload_n 0, 1) := by decide +kernel
theorem dR_read_10 : decode cR_read 10 = .ok (.aload_n 1, 1) := by decide +kernel
theorem dR_read_11 : decode cR_read 11 = .ok (.invokevirtual 20, 3) := by decide +kernel
theorem dR_read_14 : decode cR_read 14 = .ok (.aload_n 0, 1) := by decide +kernel
theorem dR_read_15 : decode cR_read 15 = .ok (.aload_n 1, 1) := by decide +kernel
theorem dR_read_16 : decode cR_read 16 = .ok (.invokevirtual 24, 3) := by decide +kernel
theorem dR_read_19 : decode cR_read 19 = .ok (.istore_n 3, 1) := by decide +kernel
theorem dR_read_20 : decode cR_read 20 = .ok (.aload_n 0, 1) := by decide +kernel
theorem dR_read_21 : decode cR_read 21 = .ok (.aload_n 1, 1) := by decide +kernel
theorem dR_read_22 : decode cR_read 22 = .ok (.invokevirtual 20, 3) := by decide +kernel
theorem dR_read_25 : decode cR_read 25 = .ok (.aload_n 0, 1) := by decide +kernel
theorem dR_read_26 : decode cR_read 26 = .ok (.aload_n 1, 1) := by decide +kernel
theorem dR_read_27 : decode cR_read 27 = .ok (.aload_n 2, 1) := by decide +kernel
theorem dR_read_28 : decode cR_read 28 = .ok (.invokevirtual 28, 3) := by decide +kernel
theorem dR_read_31 : decode cR_read 31 = .ok (.ifCond .eq 12, 3) := by decide +kernel
theorem dR_read_34 : decode cR_read 34 = .ok (.aload_n 0, 1) := by decide +kernel
theorem dR_read_35 : decode cR_read 35 = .ok (.aload_n 1, 1) := by decide +kernel
theorem dR_read_36 : decode cR_read 36 = .ok (.aload_n 2, 1) := by decide +kernel
theorem dR_read_37 : decode cR_read 37 = .ok (.invokevirtual 32, 3) := by decide +kernel
theorem dR_read_40 : decode cR_read 40 = .ok (.ifCond .ne 5, 3) := by decide +kernel
theorem dR_read_43 : decode cR_read 43 = .ok (.iconst 0, 1) := by decide +kernel
theorem dR_read_44 : decode cR_read 44 = .ok (.ireturn, 1) := by decide +kernel
theorem dR_read_45 : decode cR_read 45 = .ok (.aload_n 0, 1) := by decide +kernel
theorem dR_read_46 : decode cR_read 46 = .ok (.aload_n 1, 1) := by decide +kernel
theorem dR_read_47 : decode cR_read 47 = .ok (.invokevirtual 20, 3) := by decide +kernel
theorem dR_read_50 : decode cR_read 50 = .ok (.aload_n 2, 1) := by decide +kernel
theorem dR_read_51 : decode cR_read 51 = .ok (.iload_n 3, 1) := by decide +kernel
theorem dR_read_52 : decode cR_read 52 = .ok (.aload_n 2, 1) := by decide +kernel
theorem dR_read_53 : decode cR_read 53 = .ok (.getfield 35, 3) := by decide +kernel
theorem dR_read_56 : decode cR_read 56 = .ok (.invokevirtual 38, 3) := by decide +kernel
theorem dR_read_59 : decode cR_read 59 = .ok (.aload_n 0, 1) := by decide +kernel
theorem dR_read_60 : decode cR_read 60 = .ok (.getfield 9, 3) := by decide +kernel
theorem dR_read_63 : decode cR_read 63 = .ok (.aload_n 1, 1) := by decide +kernel
theorem dR_read_64 : decode cR_read 64 = .ok (.getfield 42, 3) := by decide +kernel
theorem dR_read_67 : decode cR_read 67 = .ok (.if_icmp .ne 7, 3) := by decide +kernel
theorem dR_read_70 : decode cR_read 70 = .ok (.iconst 1, 1) := by decide +kernel
theorem dR_read_71 : decode cR_read 71 = .ok (.goto 4, 3) := by decide +kernel
theorem dR_read_74 : decode cR_read 74 = .ok (.iconst 0, 1) := by decide +kernel
theorem dR_read_75 : decode cR_read 75 = .ok (.ireturn, 1) := by decide +kernel
theorem dT_addSign_0 : decode cT_addSign 0 = .ok (.aload_n 1, 1) := by decide +kernel
theorem dT_addSign_1 : decode cT_addSign 1 = .ok (.getfield 70, 3) := by decide +kernel
theorem dT_addSign_4 : decode cT_addSign 4 = .ok (.ifCond .ge 9, 3) := by decide +kernel
theorem dT_addSign_7 : decode cT_addSign 7 = .ok (.aload_n 2, 1) := by decide +kernel
theorem dT_addSign_8 : decode cT_addSign 8 = .ok (.bipush 45, 2) := by decide +kernel
theorem dT_addSign_10 : decode cT_addSign 10 = .ok (.invokevirtual 50, 3) := by decide +kernel
theorem dT_addSign_13 : decode cT_addSign 13 = .ok (.return_, 1) := by decide +kernel
theorem dT_addExponent_0 : decode cT_addExponent 0 = .ok (.iload_n 1, 1) := by decide +kernel
theorem dT_addExponent_1 : decode cT_addExponent 1 = .ok (.ifCond .ne 4, 3) := by decide +kernel
theorem dT_addExponent_4 : decode cT_addExponent 4 = .ok (.return_, 1) := by decide +kernel
theorem dT_addExponent_5 : decode cT_addExponent 5 = .ok (.aload_n 2, 1) := by decide +kernel
theorem dT_addExponent_6 : decode cT_addExponent 6 = .ok (.bipush 69, 2) := by decide +kernel
theorem dT_addExponent_8 : decode cT_addExponent 8 = .ok (.invokevirtual 50, 3) := by decide +kernel
theorem dT_addExponent_11 : decode cT_addExponent 11 = .ok (.aload_n 2, 1) := by decide +kernel
theorem dT_addExponent_12 : decode cT_addExponent 12 = .ok (.iload_n 1, 1) := by decide +kernel
theorem dT_addExponent_13 : decode cT_addExponent 13 = .ok (.ifCond .ge 8, 3) := by decide +kernel
theorem dT_addExponent_16 : decode cT_addExponent 16 = .ok (.bipush 45, 2) := by decide +kernel
theorem dT_addExponent_18 : decode cT_addExponent 18 = .ok (.goto 5, 3) := by decide +kernel
theorem dT_addExponent_21 : decode cT_addExponent 21 = .ok (.bipush 43, 2) := by decide +kernel
theorem dT_addExponent_23 : decode cT_addExponent 23 = .ok (.invokevirtual 50, 3) := by decide +kernel
theorem dT_addExponent_26 : decode cT_addExponent 26 = .ok (.iload_n 1, 1) := by decide +kernel
theorem dT_addExponent_27 : decode cT_addExponent 27 = .ok (.invokestatic 67, 3) := by decide +kernel
theorem dT_addExponent_30 : decode cT_addExponent 30 = .ok (.istore_n 3, 1) := by decide +kernel
theorem dT_addExponent_31 : decode cT_addExponent 31 = .ok (.iload_n 3, 1) := by decide +kernel
theorem dT_addExponent_32 : decode cT_addExponent 32 = .ok (.bipush 100, 2) := by decide +kernel
theorem dT_addExponent_34 : decode cT_addExponent 34 = .ok (.if_icmp .lt 14, 3) := by decide +kernel
theorem dT_addExponent_37 : decode cT_addExponent 37 = .ok (.aload_n 2, 1) := by decide +kernel
theorem dT_addExponent_38 : decode cT_addExponent 38 = .ok (.bipush 48, 2) := by decide +kernel
theorem dT_addExponent_40 : decode cT_addExponent 40 = .ok (.iload_n 3, 1) := by decide +kernel
theorem dT_addExponent_41 : decode cT_addExponent 41 = .ok (.bipush 100, 2) := by decide +kernel
theorem dT_addExponent_43 : decode cT_addExponent 43 = .ok (.idiv, 1) := by decide +kernel
theorem dT_addExponent_44 : decode cT_addExponent 44 = .ok (.iadd, 1) := by decide +kernel
theorem dT_addExponent_45 : decode cT_addExponent 45 = .ok (.invokevirtual 50, 3) := by decide +kernel
theorem dT_addExponent_48 : decode cT_addExponent 48 = .ok (.iload_n 3, 1) := by decide +kernel
theorem dT_addExponent_49 : decode cT_addExponent 49 = .ok (.bipush 10, 2) := by decide +kernel
theorem dT_addExponent_51 : decode cT_addExponent 51 = .ok (.if_icmp .lt 17, 3) := by decide +kernel
theorem dT_addExponent_54 : decode cT_addExponent 54 = .ok (.aload_n 2, 1) := by decide +kernel
theorem dT_addExponent_55 : decode cT_addExponent 55 = .ok (.bipush 48, 2) := by decide +kernel
theorem dT_addExponent_57 : decode cT_addExponent 57 = .ok (.iload_n 3, 1) := by decide +kernel
theorem dT_addExponent_58 : decode cT_addExponent 58 = .ok (.bipush 10, 2) := by decide +kernel
theorem dT_addExponent_60 : decode cT_addExponent 60 = .ok (.idiv, 1) := by decide +kernel
theorem dT_addExponent_61 : decode cT_addExponent 61 = .ok (.bipush 10, 2) := by decide +kernel
theorem dT_addExponent_63 : decode cT_addExponent 63 = .ok (.irem, 1) := by decide +kernel
theorem dT_addExponent_64 : decode cT_addExponent 64 = .ok (.iadd, 1) := by decide +kernel
theorem dT_addExponent_65 : decode cT_addExponent 65 = .ok (.invokevirtual 50, 3) := by decide +kernel
theorem dT_addExponent_68 : decode cT_addExponent 68 = .ok (.aload_n 2, 1) := by decide +kernel
theorem dT_addExponent_69 : decode cT_addExponent 69 = .ok (.bipush 48, 2) := by decide +kernel
theorem dT_addExponent_71 : decode cT_addExponent 71 = .ok (.iload_n 3, 1) := by decide +kernel
theorem dT_addExponent_72 : decode cT_addExponent 72 = .ok (.bipush 10, 2) := by decide +kernel
theorem dT_addExponent_74 : decode cT_addExponent 74 = .ok (.irem, 1) := by decide +kernel
theorem dT_addExponent_75 : decode cT_addExponent 75 = .ok (.iadd, 1) := by decide +kernel
theorem dT_addExponent_76 : decode cT_addExponent 76 = .ok (.invokevirtual 50, 3) := by decide +kernel
theorem dT_addExponent_79 : decode cT_addExponent 79 = .ok (.return_, 1) := by decide +kernel
theorem dT_addPlain_0 : decode cT_addPlain 0 = .ok (.aload_n 0, 1) := by decide +kernel
theorem dT_addPlain_1 : decode cT_addPlain 1 = .ok (.aload_n 1, 1) := by decide +kernel
theorem dT_addPlain_2 : decode cT_addPlain 2 = .ok (.aload_n 3, 1) := by decide +kernel
theorem dT_addPlain_3 : decode cT_addPlain 3 = .ok (.invokevirtual 36, 3) := by decide +kernel
theorem dT_addPlain_6 : decode cT_addPlain 6 = .ok (.aload_n 1, 1) := by decide +kernel
theorem dT_addPlain_7 : decode cT_addPlain 7 = .ok (.invokevirtual 21, 3) := by decide +kernel
theorem dT_addPlain_10 : decode cT_addPlain 10 = .ok (.iconst 1, 1) := by decide +kernel
theorem dT_addPlain_11 : decode cT_addPlain 11 = .ok (.invokestatic 40, 3) := by decide +kernel
theorem dT_addPlain_14 : decode cT_addPlain 14 = .ok (.iconst 1, 1) := by decide +kernel
theorem dT_addPlain_15 : decode cT_addPlain 15 = .ok (.isub, 1) := by decide +kernel
theorem dT_addPlain_16 : decode cT_addPlain 16 = .ok (.istore 4, 2) := by decide +kernel
theorem dT_addPlain_18 : decode cT_addPlain 18 = .ok (.iload 4, 2) := by decide +kernel
theorem dT_addPlain_20 : decode cT_addPlain 20 = .ok (.ifCond .lt 22, 3) := by decide +kernel
theorem dT_addPlain_23 : decode cT_addPlain 23 = .ok (.aload_n 3, 1) := by decide +kernel
theorem dT_addPlain_24 : decode cT_addPlain 24 = .ok (.bipush 48, 2) := by decide +kernel
theorem dT_addPlain_26 : decode cT_addPlain 26 = .ok (.aload_n 1, 1) := by decide +kernel
theorem dT_addPlain_27 : decode cT_addPlain 27 = .ok (.iload 4, 2) := by decide +kernel
theorem dT_addPlain_29 : decode cT_addPlain 29 = .ok (.invokevirtual 46, 3) := by decide +kernel
theorem dT_addPlain_32 : decode cT_addPlain 32 = .ok (.iadd, 1) := by decide +kernel
theorem dT_addPlain_33 : decode cT_addPlain 33 = .ok (.invokevirtual 50, 3) := by decide +kernel
theorem dT_addPlain_36 : decode cT_addPlain 36 = .ok (.iinc 4 (-1), 3) := by decide +kernel
theorem dT_addPlain_39 : decode cT_addPlain 39 = .ok (.goto (-21), 3) := by decide +kernel
theorem dT_addPlain_42 : decode cT_addPlain 42 = .ok (.iload_n 2, 1) := by decide +kernel
theorem dT_addPlain_43 : decode cT_addPlain 43 = .ok (.ifCond .le 9, 3) := by decide +kernel
theorem dT_addPlain_46 : decode cT_addPlain 46 = .ok (.aload_n 3, 1) := by decide +kernel
theorem dT_addPlain_47 : decode cT_addPlain 47 = .ok (.bipush 46, 2) := by decide +kernel
theorem dT_addPlain_49 : decode cT_addPlain 49 = .ok (.invokevirtual 50, 3) := by decide +kernel
theorem dT_addPlain_52 : decode cT_addPlain 52 = .ok (.iconst 1, 1) := by decide +kernel
theorem dT_addPlain_53 : decode cT_addPlain 53 = .ok (.istore 4, 2) := by decide +kernel
theorem dT_addPlain_55 : decode cT_addPlain 55 = .ok (.iload 4, 2) := by decide +kernel
theorem dT_addPlain_57 : decode cT_addPlain 57 = .ok (.iload_n 2, 1) := by decide +kernel
theorem dT_addPlain_58 : decode cT_addPlain 58 = .ok (.if_icmp .gt 23, 3) := by decide +kernel
theorem dT_addPlain_61 : decode cT_addPlain 61 = .ok (.aload_n 3, 1) := by decide +kernel
theorem dT_addPlain_62 : decode cT_addPlain 62 = .ok (.bipush 48, 2) := by decide +kernel
theorem dT_addPlain_64 : decode cT_addPlain 64 = .ok (.aload_n 1, 1) := by decide +kernel
theorem dT_addPlain_65 : decode cT_addPlain 65 = .ok (.iload 4, 2) := by decide +kernel
theorem dT_addPlain_67 : decode cT_addPlain 67 = .ok (.ineg, 1) := by decide +kernel
theorem dT_addPlain_68 : decode cT_addPlain 68 = .ok (.invokevirtual 46, 3) := by decide +kernel
theorem dT_addPlain_71 : decode cT_addPlain 71 = .ok (.iadd, 1) := by decide +kernel
theorem dT_addPlain_72 : decode cT_addPlain 72 = .ok (.invokevirtual 50, 3) := by decide +kernel
theorem dT_addPlain_75 : decode cT_addPlain 75 = .ok (.iinc 4 1, 3) := by decide +kernel
theorem dT_addPlain_78 : decode cT_addPlain 78 = .ok (.goto (-23), 3) := by decide +kernel
theorem dT_addPlain_81 : decode cT_addPlain 81 = .ok (.return_, 1) := by decide +kernel
theorem dT_addWithExponent_0 : decode cT_addWithExponent 0 = .ok (.aload_n 1, 1) := by decide +kernel
theorem dT_addWithExponent_1 : decode cT_addWithExponent 1 = .ok (.invokevirtual 9, 3) := by decide +kernel
theorem dT_addWithExponent_4 : decode cT_addWithExponent 4 = .ok (.istore 4, 2) := by decide +kernel
theorem dT_addWithExponent_6 : decode cT_addWithExponent 6 = .ok (.iload_n 2, 1) := by decide +kernel
theorem dT_addWithExponent_7 : decode cT_addWithExponent 7 = .ok (.iconst 1, 1) := by decide +kernel
theorem dT_addWithExponent_8 : decode cT_addWithExponent 8 = .ok (.if_icmp .ne 14, 3) := by decide +kernel
theorem dT_addWithExponent_11 : decode cT_addWithExponent 11 = .ok (.iload 4, 2) := by decide +kernel
theorem dT_addWithExponent_13 : decode cT_addWithExponent 13 = .ok (.iconst 3, 1) := by decide +kernel
theorem dT_addWithExponent_14 : decode cT_addWithExponent 14 = .ok (.invokestatic 54, 3) := by decide +kernel
theorem dT_addWithExponent_17 : decode cT_addWithExponent 17 = .ok (.iconst 1, 1) := by decide +kernel
theorem dT_addWithExponent_18 : decode cT_addWithExponent 18 = .ok (.iadd, 1) := by decide +kernel
theorem dT_addWithExponent_19 : decode cT_addWithExponent 19 = .ok (.goto 4, 3) := by decide +kernel
theorem dT_addWithExponent_22 : decode cT_addWithExponent 22 = .ok (.iconst 1, 1) := by decide +kernel
theorem dT_addWithExponent_23 : decode cT_addWithExponent 23 = .ok (.istore 5, 2) := by decide +kernel
theorem dT_addWithExponent_25 : decode cT_addWithExponent 25 = .ok (.aload_n 0, 1) := by decide +kernel
theorem dT_addWithExponent_26 : decode cT_addWithExponent 26 = .ok (.aload_n 1, 1) := by decide +kernel
theorem dT_addWithExponent_27 : decode cT_addWithExponent 27 = .ok (.aload_n 3, 1) := by decide +kernel
theorem dT_addWithExponent_28 : decode cT_addWithExponent 28 = .ok (.invokevirtual 36, 3) := by decide +kernel
theorem dT_addWithExponent_31 : decode cT_addWithExponent 31 = .ok (.iconst 0, 1) := by decide +kernel
theorem dT_addWithExponent_32 : decode cT_addWithExponent 32 = .ok (.istore 6, 2) := by decide +kernel
theorem dT_addWithExponent_34 : decode cT_addWithExponent 34 = .ok (.iload 6, 2) := by decide +kernel
theorem dT_addWithExponent_36 : decode cT_addWithExponent 36 = .ok (.iload 5, 2) := by decide +kernel
theorem dT_addWithExponent_38 : decode cT_addWithExponent 38 = .ok (.if_icmp .ge 22, 3) := by decide +kernel
theorem dT_addWithExponent_41 : decode cT_addWithExponent 41 = .ok (.aload_n 3, 1) := by decide +kernel
theorem dT_addWithExponent_42 : decode cT_addWithExponent 42 = .ok (.bipush 48, 2) := by decide +kernel
theorem dT_addWithExponent_44 : decode cT_addWithExponent 44 = .ok (.aload_n 1, 1) := by decide +kernel
theorem dT_addWithExponent_45 : decode cT_addWithExponent 45 = .ok (.iload 6, 2) := by decide +kernel
theorem dT_addWithExponent_47 : decode cT_addWithExponent 47 = .ok (.invokevirtual 57, 3) := by decide +kernel
theorem dT_addWithExponent_50 : decode cT_addWithExponent 50 = .ok (.iadd, 1) := by decide +kernel
theorem dT_addWithExponent_51 : decode cT_addWithExponent 51 = .ok (.invokevirtual 50, 3) := by decide +kernel
theorem dT_addWithExponent_54 : decode cT_addWithExponent 54 = .ok (.iinc 6 1, 3) := by decide +kernel
theorem dT_addWithExponent_57 : decode cT_addWithExponent 57 = .ok (.goto (-23), 3) := by decide +kernel
theorem dT_addWithExponent_60 : decode cT_addWithExponent 60 = .ok (.aload_n 1, 1) := by decide +kernel
theorem dT_addWithExponent_61 : decode cT_addWithExponent 61 = .ok (.getfield 60, 3) := by decide +kernel
theorem dT_addWithExponent_64 : decode cT_addWithExponent 64 = .ok (.iload 5, 2) := by decide +kernel
theorem dT_addWithExponent_66 : decode cT_addWithExponent 66 = .ok (.if_icmp .le 9, 3) := by decide +kernel
theorem dT_addWithExponent_69 : decode cT_addWithExponent 69 = .ok (.aload_n 3, 1) := by decide +kernel
theorem dT_addWithExponent_70 : decode cT_addWithExponent 70 = .ok (.bipush 46, 2) := by decide +kernel
theorem dT_addWithExponent_72 : decode cT_addWithExponent 72 = .ok (.invokevirtual 50, 3) := by decide +kernel
theorem dT_addWithExponent_75 : decode cT_addWithExponent 75 = .ok (.iload 5, 2) := by decide +kernel
theorem dT_addWithExponent_77 : decode cT_addWithExponent 77 = .ok (.istore 6, 2) := by decide +kernel
theorem dT_addWithExponent_79 : decode cT_addWithExponent 79 = .ok (.iload 6, 2) := by decide +kernel
theorem dT_addWithExponent_81 : decode cT_addWithExponent 81 = .ok (.aload_n 1, 1) := by decide +kernel
theorem dT_addWithExponent_82 : decode cT_addWithExponent 82 = .ok (.getfield 60, 3) := by decide +kernel
theorem dT_addWithExponent_85 : decode cT_addWithExponent 85 = .ok (.if_icmp .ge 22, 3) := by decide +kernel
theorem dT_addWithExponent_88 : decode cT_addWithExponent 88 = .ok (.aload_n 3, 1) := by decide +kernel
theorem dT_addWithExponent_89 : decode cT_addWithExponent 89 = .ok (.bipush 48, 2) := by decide +kernel
theorem dT_addWithExponent_91 : decode cT_addWithExponent 91 = .ok (.aload_n 1, 1) := by decide +kernel
theorem dT_addWithExponent_92 : decode cT_addWithExponent 92 = .ok (.iload 6, 2) := by decide +kernel
theorem dT_addWithExponent_94 : decode cT_addWithExponent 94 = .ok (.invokevirtual 57, 3) := by decide +kernel
theorem dT_addWithExponent_97 : decode cT_addWithExponent 97 = .ok (.iadd, 1) := by decide +kernel
theorem dT_addWithExponent_98 : decode cT_addWithExponent 98 = .ok (.invokevirtual 50, 3) := by decide +kernel
theorem dT_addWithExponent_101 : decode cT_addWithExponent 101 = .ok (.iinc 6 1, 3) := by decide +kernel
theorem dT_addWithExponent_104 : decode cT_addWithExponent 104 = .ok (.goto (-25), 3) := by decide +kernel
theorem dT_addWithExponent_107 : decode cT_addWithExponent 107 = .ok (.aload_n 0, 1) := by decide +kernel
theorem dT_addWithExponent_108 : decode cT_addWithExponent 108 = .ok (.iload 4, 2) := by decide +kernel
theorem dT_addWithExponent_110 : decode cT_addWithExponent 110 = .ok (.iload 5, 2) := by decide +kernel
theorem dT_addWithExponent_112 : decode cT_addWithExponent 112 = .ok (.isub, 1) := by decide +kernel
theorem dT_addWithExponent_113 : decode cT_addWithExponent 113 = .ok (.iconst 1, 1) := by decide +kernel
theorem dT_addWithExponent_114 : decode cT_addWithExponent 114 = .ok (.iadd, 1) := by decide +kernel
theorem dT_addWithExponent_115 : decode cT_addWithExponent 115 = .ok (.aload_n 3, 1) := by decide +kernel
theorem dT_addWithExponent_116 : decode cT_addWithExponent 116 = .ok (.invokevirtual 63, 3) := by decide +kernel
theorem dT_addWithExponent_119 : decode cT_addWithExponent 119 = .ok (.return_, 1) := by decide +kernel
theorem dT_write_0 : decode cT_write 0 = .ok (.aload_n 1, 1) := by decide +kernel
theorem dT_write_1 : decode cT_write 1 = .ok (.invokevirtual 9, 3) := by decide +kernel
theorem dT_write_4 : decode cT_write 4 = .ok (.istore 5, 2) := by decide +kernel
theorem dT_write_6 : decode cT_write 6 = .ok (.iload 5, 2) := by decide +kernel
theorem dT_write_8 : decode cT_write 8 = .ok (.sipush 999, 3) := by decide +kernel
theorem dT_write_11 : decode cT_write 11 = .ok (.if_icmp .gt 11, 3) := by decide +kernel
theorem dT_write_14 : decode cT_write 14 = .ok (.iload 5, 2) := by decide +kernel
theorem dT_write_16 : decode cT_write 16 = .ok (.sipush (-999), 3) := by decide +kernel
theorem dT_write_19 : decode cT_write 19 = .ok (.if_icmp .ge 6, 3) := by decide +kernel
theorem dT_write_22 : decode cT_write 22 = .ok (.bipush 42, 2) := by decide +kernel
theorem dT_write_24 : decode cT_write 24 = .ok (.ireturn, 1) := by decide +kernel
theorem dT_write_25 : decode cT_write 25 = .ok (.aload 4, 2) := by decide +kernel
theorem dT_write_27 : decode cT_write 27 = .ok (.iconst 0, 1) := by decide +kernel
theorem dT_write_28 : decode cT_write 28 = .ok (.putfield 15, 3) := by decide +kernel
theorem dT_write_31 : decode cT_write 31 = .ok (.aload_n 1, 1) := by decide +kernel
theorem dT_write_32 : decode cT_write 32 = .ok (.invokevirtual 21, 3) := by decide +kernel
theorem dT_write_35 : decode cT_write 35 = .ok (.iload_n 2, 1) := by decide +kernel
theorem dT_write_36 : decode cT_write 36 = .ok (.if_icmp .gt 27, 3) := by decide +kernel
theorem dT_write_39 : decode cT_write 39 = .ok (.aload_n 1, 1) := by decide +kernel
theorem dT_write_40 : decode cT_write 40 = .ok (.invokevirtual 24, 3) := by decide +kernel
theorem dT_write_43 : decode cT_write 43 = .ok (.iconst 2, 1) := by decide +kernel
theorem dT_write_44 : decode cT_write 44 = .ok (.iload_n 2, 1) := by decide +kernel
theorem dT_write_45 : decode cT_write 45 = .ok (.imul, 1) := by decide +kernel
theorem dT_write_46 : decode cT_write 46 = .ok (.if_icmp .gt 17, 3) := by decide +kernel
theorem dT_write_49 : decode cT_write 49 = .ok (.aload_n 0, 1) := by decide +kernel
theorem dT_write_50 : decode cT_write 50 = .ok (.aload_n 1, 1) := by decide +kernel
theorem dT_write_51 : decode cT_write 51 = .ok (.aload_n 1, 1) := by decide +kernel
theorem dT_write_52 : decode cT_write 52 = .ok (.invokevirtual 24, 3) := by decide +kernel
theorem dT_write_55 : decode cT_write 55 = .ok (.aload 4, 2) := by decide +kernel
theorem dT_write_57 : decode cT_write 57 = .ok (.invokevirtual 27, 3) := by decide +kernel
theorem dT_write_60 : decode cT_write 60 = .ok (.goto 11, 3) := by decide +kernel
theorem dT_write_63 : decode cT_write 63 = .ok (.aload_n 0, 1) := by decide +kernel
theorem dT_write_64 : decode cT_write 64 = .ok (.aload_n 1, 1) := by decide +kernel
theorem dT_write_65 : decode cT_write 65 = .ok (.iload_n 3, 1) := by decide +kernel
theorem dT_write_66 : decode cT_write 66 = .ok (.aload 4, 2) := by decide +kernel
theorem dT_write_68 : decode cT_write 68 = .ok (.invokevirtual 33, 3) := by decide +kernel
theorem dT_write_71 : decode cT_write 71 = .ok (.iconst 0, 1) := by decide +kernel
theorem dT_write_72 : decode cT_write 72 = .ok (.ireturn, 1) := by decide +kernel
set_option maxHeartbeats 4000000 in
set_option maxRecDepth 100000 in
theorem b_R_isDigit {X : wk_X} {G : cGt} (hI : wd_inj (vC G)) (C : wk_C X (vC G) cR_isDigit RR 1 0 0) {v0 : Int32} {h : Hp} {q : Int32 × Hp}  (hf : f_R_isDigit v0 h = some q) (hq : wk_Q X (vC G) (some (.int q.1)) q.2 (some .boolean)) : WW X (vC G) h 0 [(0, .int v0)] [] := by
  unfold f_R_isDigit at hf
  refine wk_iload_n C 0 dR_isDigit_0 rfl rfl ?_
  refine wk_bipush C dR_isDigit_1 kbipush_48 ?_
  refine wk_icmp_lt (tgt := 16) C dR_isDigit_3 rfl hf (fun c_3 hf => ?_) (fun c_3 hf => ?_)
  · refine wk_iconst C dR_isDigit_16 kiconst_0 ?_
    cases hf
    exact wk_zreturn C hq rfl dR_isDigit_17
  · refine wk_iload_n C 0 dR_isDigit_6 rfl rfl ?_
    refine wk_bipush C dR_isDigit_7 kbipush_57 ?_
    refine wk_icmp_gt (tgt := 16) C dR_isDigit_9 rfl hf (fun c_9 hf => ?_) (fun c_9 hf => ?_)
    · refine wk_iconst C dR_isDigit_16 kiconst_0 ?_
      cases hf
      exact wk_zreturn C hq rfl dR_isDigit_17
    · refine wk_iconst C dR_isDigit_12 kiconst_1 ?_
      refine wk_goto (tgt := 17) C dR_isDigit_13 rfl ?_
      cases hf
      exact wk_zreturn C hq rfl dR_isDigit_17
theorem m_R_isDigit {l : Launch} {G : cGt} (hI : wd_inj (vC G)) {v0 : Int32} {h h' : Hp} {r : Int32}  (hf : f_R_isDigit v0 h = some (r, h')) : wk_M l (vC G) yR_isDigit cR_isDigit 1 (some .boolean) 0 0 [.int v0] h (some (.int r)) h' :=
  wk_met hI (by decide +kernel) rfl (Nat.le_of_ble_eq_true rfl) (wk_cat1 rfl) (fun X hX C hq => by subst hX; exact b_R_isDigit hI C  hf hq)
set_option maxHeartbeats 4000000 in
set_option maxRecDepth 100000 in
theorem b_R_skipBlanks_0 {X : wk_X} {G : cGt} (hI : wd_inj (vC G)) (C : wk_C X (vC G) cR_skipBlanks RR 2 1 21) : ∀ (n : Nat) {v1 : Nat} {h : Hp} {q : Unit × Hp} (k_v1 : cLine v1) (hf : f_R_skipBlanks_0 n v1 h = some q) (hq : wk_Q X (vC G) none q.2 none), WW X (vC G) h 0 [(0, .ref (cad G 26)), (1, .ref (cad G v1))] [] := by
  intro n
  induction n with
  | zero =>
    intros
    rename_i hf _
    cases hf
  | succ n ih =>
    intro v1 h q k_v1 hf hq
    rw [f_R_skipBlanks_0] at hf
    refine wk_aload_n C 0 dR_skipBlanks_0 rfl rfl ?_
    refine gf_R_9 C dR_skipBlanks_1 ?_
    refine wk_aload_n C 1 dR_skipBlanks_4 rfl rfl ?_
    refine gf_R_42 C k_v1 dR_skipBlanks_5 ?_
    refine wk_icmp_ge (tgt := 37) C dR_skipBlanks_8 rfl hf (fun c_8 hf => ?_) (fun c_8 hf => ?_)
    · cases hf
      exact wk_return C hq dR_skipBlanks_37
    · refine wk_aload_n C 1 dR_skipBlanks_11 rfl rfl ?_
      refine wk_aload_n C 0 dR_skipBlanks_12 rfl rfl ?_
      refine gf_R_9 C dR_skipBlanks_13 ?_
      obtain ⟨r16, h16, e_16, hf⟩ := bd_some hf
      refine wk_callV (As := [.int (h 26 0)]) (rest := []) C lw_good cw_R_47 wi_L_byteAt (m_L_byteAt hI k_v1 e_16) (lz_cLine k_v1) (he_cLine k_v1) rfl rfl rfl (Nat.le_of_ble_eq_true rfl) (by decide) dR_skipBlanks_16 ?_
      refine wk_bipush C dR_skipBlanks_19 kbipush_32 ?_
      refine wk_icmp_ne (tgt := 37) C dR_skipBlanks_21 rfl hf (fun c_21 hf => ?_) (fun c_21 hf => ?_)
      · cases hf
        exact wk_return C hq dR_skipBlanks_37
      · refine wk_aload_n C 0 dR_skipBlanks_24 rfl rfl ?_
        refine wk_dup C dR_skipBlanks_25 rfl ?_
        refine gf_R_9 C dR_skipBlanks_26 ?_
        refine wk_iconst C dR_skipBlanks_29 kiconst_1 ?_
        refine wk_iadd C dR_skipBlanks_30 ?_
        refine pf_R_9 C dR_skipBlanks_31 ?_
        refine wk_goto (tgt := 0) C dR_skipBlanks_34 rfl ?_
        exact wk_go (ih k_v1 hf hq) (And.intro rfl (And.intro rfl trivial))
set_option maxHeartbeats 4000000 in
set_option maxRecDepth 100000 in
theorem b_R_skipBlanks {X : wk_X} {G : cGt} (hI : wd_inj (vC G)) (C : wk_C X (vC G) cR_skipBlanks RR 2 1 21) {v1 : Nat} {h : Hp} {q : Unit × Hp} (k_v1 : cLine v1) (hf : f_R_skipBlanks v1 h = some q) (hq : wk_Q X (vC G) none q.2 none) : WW X (vC G) h 0 [(0, .ref (cad G 26)), (1, .ref (cad G v1))] [] := by
  unfold f_R_skipBlanks at hf
  exact wk_go (b_R_skipBlanks_0 hI C fuel k_v1 hf hq) (And.intro rfl (And.intro rfl trivial))
theorem m_R_skipBlanks {l : Launch} {G : cGt} (hI : wd_inj (vC G)) {v1 : Nat} {h h' : Hp} {r : Unit} (k_v1 : cLine v1) (hf : f_R_skipBlanks v1 h = some (r, h')) : wk_M l (vC G) yR_skipBlanks cR_skipBlanks 2 none 1 21 [.ref (cad G 26), .ref (cad G v1)] h none h' :=
  wk_met hI (by decide +kernel) rfl (Nat.le_of_ble_eq_true rfl) (wk_cat1 rfl) (fun X hX C hq => by subst hX; exact b_R_skipBlanks hI C k_v1 hf hq)
set_option maxHeartbeats 4000000 in
set_option maxRecDepth 100000 in
theorem b_R_readSign_21 {X : wk_X} {G : cGt} (hI : wd_inj (vC G)) (C : wk_C X (vC G) cR_readSign RR 3 1 21) {v2 : Int32} {h : Hp} {q : Int32 × Hp}  (hf : f_R_readSign_21 v2 h = some q) (hq : wk_Q X (vC G) (some (.int q.1)) q.2 (some .int)) : WW X (vC G) h 21 [(0, .ref (cad G 26)), (2, .int v2)] [] := by
  unfold f_R_readSign_21 at hf
  refine wk_aload_n C 0 dR_readSign_21 rfl rfl ?_
  refine wk_dup C dR_readSign_22 rfl ?_
  refine gf_R_9 C dR_readSign_23 ?_
  refine wk_iconst C dR_readSign_26 kiconst_1 ?_
  refine wk_iadd C dR_readSign_27 ?_
  refine pf_R_9 C dR_readSign_28 ?_
  refine wk_iload_n C 2 dR_readSign_31 rfl rfl ?_
  refine wk_bipush C dR_readSign_32 kbipush_45 ?_
  refine wk_icmp_ne (tgt := 41) C dR_readSign_34 rfl hf (fun c_34 hf => ?_) (fun c_34 hf => ?_)
  · refine wk_iconst C dR_readSign_41 kiconst_1 ?_
    cases hf
    exact wk_ireturn C hq dR_readSign_42
  · refine wk_iconst C dR_readSign_37 kiconst_m1 ?_
    refine wk_goto (tgt := 42) C dR_readSign_38 rfl ?_
    cases hf
    exact wk_ireturn C hq dR_readSign_42
set_option maxHeartbeats 4000000 in
set_option maxRecDepth 100000 in
theorem b_R_readSign {X : wk_X} {G : cGt} (hI : wd_inj (vC G)) (C : wk_C X (vC G) cR_readSign RR 3 1 21) {v1 : Nat} {h : Hp} {q : Int32 × Hp} (k_v1 : cLine v1) (hf : f_R_readSign v1 h = some q) (hq : wk_Q X (vC G) (some (.int q.1)) q.2 (some .int)) : WW X (vC G) h 0 [(0, .ref (cad G 26)), (1, .ref (cad G v1))] [] := by
  unfold f_R_readSign at hf
  refine wk_aload_n C 1 dR_readSign_0 rfl rfl ?_
  refine wk_aload_n C 0 dR_readSign_1 rfl rfl ?_
  refine gf_R_9 C dR_readSign_2 ?_
  obtain ⟨r5, h5, e_5, hf⟩ := bd_some hf
  refine wk_callV (As := [.int (h 26 0)]) (rest := []) C lw_good cw_R_47 wi_L_byteAt (m_L_byteAt hI k_v1 e_5) (lz_cLine k_v1) (he_cLine k_v1) rfl rfl rfl (Nat.le_of_ble_eq_true rfl) (by decide) dR_readSign_5 ?_
  refine wk_istore_n C 2 dR_readSign_8 rfl (by decide) ?_
  refine wk_iload_n C 2 dR_readSign_9 rfl rfl ?_
  refine wk_bipush C dR_readSign_10 kbipush_43 ?_
  refine wk_icmp_eq (tgt := 21) C dR_readSign_12 rfl hf (fun c_12 hf => ?_) (fun c_12 hf => ?_)
  · exact wk_go (b_R_readSign_21 hI C hf hq) (And.intro rfl (And.intro rfl trivial))
  · refine wk_iload_n C 2 dR_readSign_15 rfl rfl ?_
    refine wk_bipush C dR_readSign_16 kbipush_45 ?_
    refine wk_icmp_ne (tgt := 31) C dR_readSign_18 rfl hf (fun c_18 hf => ?_) (fun c_18 hf => ?_)
    · refine wk_iload_n C 2 dR_readSign_31 rfl rfl ?_
      refine wk_bipush C dR_readSign_32 kbipush_45 ?_
      refine wk_icmp_ne (tgt := 41) C dR_readSign_34 rfl hf (fun c_34 hf => ?_) (fun c_34 hf => ?_)
      · refine wk_iconst C dR_readSign_41 kiconst_1 ?_
        cases hf
        exact wk_ireturn C hq dR_readSign_42
      · refine wk_iconst C dR_readSign_37 kiconst_m1 ?_
        refine wk_goto (tgt := 42) C dR_readSign_38 rfl ?_
        cases hf
        exact wk_ireturn C hq dR_readSign_42
    · exact wk_go (b_R_readSign_21 hI C hf hq) (And.intro rfl (And.intro rfl trivial))
theorem m_R_readSign {l : Launch} {G : cGt} (hI : wd_inj (vC G)) {v1 : Nat} {h h' : Hp} {r : Int32} (k_v1 : cLine v1) (hf : f_R_readSign v1 h = some (r, h')) : wk_M l (vC G) yR_readSign cR_readSign 3 (some .int) 1 21 [.ref (cad G 26), .ref (cad G v1)] h (some (.int r)) h' :=
  wk_met hI (by decide +kernel) rfl (Nat.le_of_ble_eq_true rfl) (wk_cat1 rfl) (fun X hX C hq => by subst hX; exact b_R_readSign hI C k_v1 hf hq)
set_option maxHeartbeats 4000000 in
set_option maxRecDepth 100000 in
theorem b_R_readDigits_95 {X : wk_X} {G : cGt} (hI : wd_inj (vC G)) (C : wk_C X (vC G) cR_readDigits RR 7 1 22) {v2 : Nat} {v3 : Int32} {v4 : Int32} {h : Hp} {q : Int32 × Hp} (k_v2 : cNum v2) (hf : f_R_readDigits_95 v2 v3 v4 h = some q) (hq : wk_Q X (vC G) (some (.int q.1)) q.2 (some .boolean)) : WW X (vC G) h 95 [(2, .ref (cad G v2)), (3, .int v3), (4, .int v4)] [] := by
  unfold f_R_readDigits_95 at hf
  refine wk_aload_n C 2 dR_readDigits_95 rfl rfl ?_
  refine wk_iload C dR_readDigits_96 rfl ?_
  refine wk_ineg C dR_readDigits_98 ?_
  refine pf_R_35 C k_v2 dR_readDigits_99 ?_
  refine wk_iload_n C 3 dR_readDigits_102 rfl rfl ?_
  refine wk_if_le (tgt := 110) C dR_readDigits_103 rfl hf (fun c_103 hf => ?_) (fun c_103 hf => ?_)
  · refine wk_iconst C dR_readDigits_110 kiconst_0 ?_
    cases hf
    exact wk_zreturn C hq rfl dR_readDigits_111
  · refine wk_iconst C dR_readDigits_106 kiconst_1 ?_
    refine wk_goto (tgt := 111) C dR_readDigits_107 rfl ?_
    cases hf
    exact wk_zreturn C hq rfl dR_readDigits_111
set_option maxHeartbeats 4000000 in
set_option maxRecDepth 100000 in
theorem b_R_readDigits_61 {X : wk_X} {G : cGt} (hI : wd_inj (vC G)) (C : wk_C X (vC G) cR_readDigits RR 7 1 22) {k8 : Nat → Nat → Int32 → Int32 → Int32 → Hp → Option (Int32 × Hp)} (hk8 : ∀ (v1 : Nat) (v2 : Nat) (v3 : Int32) (v4 : Int32) (v5 : Int32) (h : Hp) (q : Int32 × Hp), cLine v1 → cNum v2 → k8 v1 v2 v3 v4 v5 h = some q → wk_Q X (vC G) (some (.int q.1)) q.2 (some .boolean) → WW X (vC G) h 8 [(0, .ref (cad G 26)), (1, .ref (cad G v1)), (2, .ref (cad G v2)), (3, .int v3), (4, .int v4), (5, .int v5)] []) {v1 : Nat} {v2 : Nat} {v3 : Int32} {v5 : Int32} {s0 : Int32} {s1 : Int32} {h : Hp} {q : Int32 × Hp} (k_v1 : cLine v1) (k_v2 : cNum v2) (hf : f_R_readDigits_61 k8 v1 v2 v3 v5 s0 s1 h = some q) (hq : wk_Q X (vC G) (some (.int q.1)) q.2 (some .boolean)) : WW X (vC G) h 61 [(0, .ref (cad G 26)), (1, .ref (cad G v1)), (2, .ref (cad G v2)), (3, .int v3), (5, .int v5)] [.int s1, .int s0] := by
  unfold f_R_readDigits_61 at hf
  refine wk_iadd C dR_readDigits_61 ?_
  refine wk_istore C dR_readDigits_62 (by decide) ?_
  refine wk_goto (tgt := 82) C dR_readDigits_64 rfl ?_
  refine wk_aload_n C 0 dR_readDigits_82 rfl rfl ?_
  refine wk_dup C dR_readDigits_83 rfl ?_
  refine gf_R_9 C dR_readDigits_84 ?_
  refine wk_iconst C dR_readDigits_87 kiconst_1 ?_
  refine wk_iadd C dR_readDigits_88 ?_
  refine pf_R_9 C dR_readDigits_89 ?_
  refine wk_goto (tgt := 8) C dR_readDigits_92 rfl ?_
  exact wk_go (hk8 _ _ _ _ _ _ _ k_v1 k_v2 hf hq) (And.intro rfl (And.intro rfl (And.intro rfl (And.intro rfl (And.intro rfl (And.intro rfl trivial))))))
set_option maxHeartbeats 4000000 in
set_option maxRecDepth 100000 in
theorem b_R_readDigits_8 {X : wk_X} {G : cGt} (hI : wd_inj (vC G)) (C : wk_C X (vC G) cR_readDigits RR 7 1 22) : ∀ (n : Nat) {v1 : Nat} {v2 : Nat} {v3 : Int32} {v4 : Int32} {v5 : Int32} {h : Hp} {q : Int32 × Hp} (k_v1 : cLine v1) (k_v2 : cNum v2) (hf : f_R_readDigits_8 n v1 v2 v3 v4 v5 h = some q) (hq : wk_Q X (vC G) (some (.int q.1)) q.2 (some .boolean)), WW X (vC G) h 8 [(0, .ref (cad G 26)), (1, .ref (cad G v1)), (2, .ref (cad G v2)), (3, .int v3), (4, .int v4), (5, .int v5)] [] := by
  intro n
  induction n with
  | zero =>
    intros
    rename_i hf _
    cases hf
  | succ n ih =>
    intro v1 v2 v3 v4 v5 h q k_v1 k_v2 hf hq
    rw [f_R_readDigits_8] at hf
    refine wk_aload_n C 0 dR_readDigits_8 rfl rfl ?_
    refine gf_R_9 C dR_readDigits_9 ?_
    refine wk_aload_n C 1 dR_readDigits_12 rfl rfl ?_
    refine gf_R_42 C k_v1 dR_readDigits_13 ?_
    refine wk_icmp_ge (tgt := 95) C dR_readDigits_16 rfl hf (fun c_16 hf => ?_) (fun c_16 hf => ?_)
    · exact wk_go (b_R_readDigits_95 hI C k_v2 hf hq) (And.intro rfl (And.intro rfl (And.intro rfl trivial)))
    · refine wk_aload_n C 1 dR_readDigits_19 rfl rfl ?_
      refine wk_aload_n C 0 dR_readDigits_20 rfl rfl ?_
      refine gf_R_9 C dR_readDigits_21 ?_
      obtain ⟨r24, h24, e_24, hf⟩ := bd_some hf
      refine wk_callV (As := [.int (h 26 0)]) (rest := []) C lw_good cw_R_47 wi_L_byteAt (m_L_byteAt hI k_v1 e_24) (lz_cLine k_v1) (he_cLine k_v1) rfl rfl rfl (Nat.le_of_ble_eq_true rfl) (by decide) dR_readDigits_24 ?_
      refine wk_istore C dR_readDigits_27 (by decide) ?_
      refine wk_iload C dR_readDigits_29 rfl ?_
      obtain ⟨r31, h31, e_31, hf⟩ := bd_some hf
      refine wk_callS (As := [.int r24]) (rest := []) C lw_good cw_R_51 ws_R_isDigit (m_R_isDigit hI e_31) rfl rfl (Nat.le_of_ble_eq_true rfl) (by decide) dR_readDigits_31 ?_
      refine wk_if_eq (tgt := 67) C dR_readDigits_34 rfl hf (fun c_34 hf => ?_) (fun c_34 hf => ?_)
      · refine wk_iload C dR_readDigits_67 rfl ?_
        refine wk_bipush C dR_readDigits_69 kbipush_46 ?_
        refine wk_icmp_ne (tgt := 95) C dR_readDigits_71 rfl hf (fun c_71 hf => ?_) (fun c_71 hf => ?_)
        · exact wk_go (b_R_readDigits_95 hI C k_v2 hf hq) (And.intro rfl (And.intro rfl (And.intro rfl trivial)))
        · refine wk_iload C dR_readDigits_74 rfl ?_
          refine wk_if_ne (tgt := 95) C dR_readDigits_76 rfl hf (fun c_76 hf => ?_) (fun c_76 hf => ?_)
          · exact wk_go (b_R_readDigits_95 hI C k_v2 hf hq) (And.intro rfl (And.intro rfl (And.intro rfl trivial)))
          · refine wk_iconst C dR_readDigits_79 kiconst_1 ?_
            refine wk_istore C dR_readDigits_80 (by decide) ?_
            refine wk_aload_n C 0 dR_readDigits_82 rfl rfl ?_
            refine wk_dup C dR_readDigits_83 rfl ?_
            refine gf_R_9 C dR_readDigits_84 ?_
            refine wk_iconst C dR_readDigits_87 kiconst_1 ?_
            refine wk_iadd C dR_readDigits_88 ?_
            refine pf_R_9 C dR_readDigits_89 ?_
            refine wk_goto (tgt := 8) C dR_readDigits_92 rfl ?_
            exact wk_go (ih k_v1 k_v2 hf hq) (And.intro rfl (And.intro rfl (And.intro rfl (And.intro rfl (And.intro rfl (And.intro rfl trivial))))))
      · refine wk_aload_n C 2 dR_readDigits_37 rfl rfl ?_
        refine wk_iload C dR_readDigits_38 rfl ?_
        refine wk_bipush C dR_readDigits_40 kbipush_48 ?_
        refine wk_isub C dR_readDigits_42 ?_
        obtain ⟨r43, h43, e_43, hf⟩ := bd_some hf
        refine wk_callV (As := [.int (r24 - 48)]) (rest := []) C lw_good cw_R_55 wi_N_push (m_N_push hI k_v2 e_43) (lz_cNum k_v2) (he_cNum k_v2) rfl rfl rfl (Nat.le_of_ble_eq_true rfl) (by decide) dR_readDigits_43 ?_
        refine wk_iinc C dR_readDigits_46 rfl kiconst_1 (by decide) ?_
        refine wk_iload C dR_readDigits_49 rfl ?_
        refine wk_iload C dR_readDigits_51 rfl ?_
        refine wk_if_eq (tgt := 60) C dR_readDigits_53 rfl hf (fun c_53 hf => ?_) (fun c_53 hf => ?_)
        · refine wk_iconst C dR_readDigits_60 kiconst_0 ?_
          exact wk_go (b_R_readDigits_61 hI C (fun _ _ _ _ _ _ _ k_v1 k_v2 hf hq => ih k_v1 k_v2 hf hq) k_v1 k_v2 hf hq) (And.intro rfl (And.intro rfl (And.intro rfl (And.intro rfl (And.intro rfl trivial)))))
        · refine wk_iconst C dR_readDigits_56 kiconst_1 ?_
          refine wk_goto (tgt := 61) C dR_readDigits_57 rfl ?_
          exact wk_go (b_R_readDigits_61 hI C (fun _ _ _ _ _ _ _ k_v1 k_v2 hf hq => ih k_v1 k_v2 hf hq) k_v1 k_v2 hf hq) (And.intro rfl (And.intro rfl (And.intro rfl (And.intro rfl (And.intro rfl trivial)))))
set_option maxHeartbeats 4000000 in
set_option maxRecDepth 100000 in
theorem b_R_readDigits {X : wk_X} {G : cGt} (hI : wd_inj (vC G)) (C : wk_C X (vC G) cR_readDigits RR 7 1 22) {v1 : Nat} {v2 : Nat} {h : Hp} {q : Int32 × Hp} (k_v1 : cLine v1) (k_v2 : cNum v2) (hf : f_R_readDigits v1 v2 h = some q) (hq : wk_Q X (vC G) (some (.int q.1)) q.2 (some .boolean)) : WW X (vC G) h 0 [(0, .ref (cad G 26)), (1, .ref (cad G v1)), (2, .ref (cad G v2))] [] := by
  unfold f_R_readDigits at hf
  refine wk_iconst C dR_readDigits_0 kiconst_0 ?_
  refine wk_istore_n C 3 dR_readDigits_1 rfl (by decide) ?_
  refine wk_iconst C dR_readDigits_2 kiconst_0 ?_
  refine wk_istore C dR_readDigits_3 (by decide) ?_
  refine wk_iconst C dR_readDigits_5 kiconst_0 ?_
  refine wk_istore C dR_readDigits_6 (by decide) ?_
  exact wk_go (b_R_readDigits_8 hI C fuel k_v1 k_v2 hf hq) (And.intro rfl (And.intro rfl (And.intro rfl (And.intro rfl (And.intro rfl (And.intro rfl trivial))))))
theorem m_R_readDigits {l : Launch} {G : cGt} (hI : wd_inj (vC G)) {v1 : Nat} {v2 : Nat} {h h' : Hp} {r : Int32} (k_v1 : cLine v1) (k_v2 : cNum v2) (hf : f_R_readDigits v1 v2 h = some (r, h')) : wk_M l (vC G) yR_readDigits cR_readDigits 7 (some .boolean) 1 22 [.ref (cad G 26), .ref (cad G v1), .ref (cad G v2)] h (some (.int r)) h' :=
  wk_met hI (by decide +kernel) rfl (Nat.le_of_ble_eq_true rfl) (wk_cat1 rfl) (fun X hX C hq => by subst hX; exact b_R_readDigits hI C k_v1 k_v2 hf hq)
set_option maxHeartbeats 4000000 in
set_option maxRecDepth 100000 in
theorem b_R_readExponent_101 {X : wk_X} {G : cGt} (hI : wd_inj (vC G)) (C : wk_C X (vC G) cR_readExponent RR 7 2 43) {v2 : Nat} {v4 : Int32} {v5 : Int32} {v6 : Int32} {h : Hp} {q : Int32 × Hp} (k_v2 : cNum v2) (hf : f_R_readExponent_101 v2 v4 v5 v6 h = some q) (hq : wk_Q X (vC G) (some (.int q.1)) q.2 (some .boolean)) : WW X (vC G) h 101 [(2, .ref (cad G v2)), (4, .int v4), (5, .int v5), (6, .int v6)] [] := by
  unfold f_R_readExponent_101 at hf
  refine wk_aload_n C 2 dR_readExponent_101 rfl rfl ?_
  refine wk_dup C dR_readExponent_102 rfl ?_
  refine gf_R_35 C k_v2 dR_readExponent_103 ?_
  refine wk_iload C dR_readExponent_106 rfl ?_
  refine wk_iload C dR_readExponent_108 rfl ?_
  refine wk_imul C dR_readExponent_110 ?_
  refine wk_iadd C dR_readExponent_111 ?_
  refine pf_R_35 C k_v2 dR_readExponent_112 ?_
  refine wk_iload C dR_readExponent_115 rfl ?_
  refine wk_if_le (tgt := 124) C dR_readExponent_117 rfl hf (fun c_117 hf => ?_) (fun c_117 hf => ?_)
  · refine wk_iconst C dR_readExponent_124 kiconst_0 ?_
    cases hf
    exact wk_zreturn C hq rfl dR_readExponent_125
  · refine wk_iconst C dR_readExponent_120 kiconst_1 ?_
    refine wk_goto (tgt := 125) C dR_readExponent_121 rfl ?_
    cases hf
    exact wk_zreturn C hq rfl dR_readExponent_125
set_option maxHeartbeats 4000000 in
set_option maxRecDepth 100000 in
theorem b_R_readExponent_46 {X : wk_X} {G : cGt} (hI : wd_inj (vC G)) (C : wk_C X (vC G) cR_readExponent RR 7 2 43) : ∀ (n : Nat) {v1 : Nat} {v2 : Nat} {v4 : Int32} {v5 : Int32} {v6 : Int32} {h : Hp} {q : Int32 × Hp} (k_v1 : cLine v1) (k_v2 : cNum v2) (hf : f_R_readExponent_46 n v1 v2 v4 v5 v6 h = some q) (hq : wk_Q X (vC G) (some (.int q.1)) q.2 (some .boolean)), WW X (vC G) h 46 [(0, .ref (cad G 26)), (1, .ref (cad G v1)), (2, .ref (cad G v2)), (4, .int v4), (5, .int v5), (6, .int v6)] [] := by
  intro n
  induction n with
  | zero =>
    intros
    rename_i hf _
    cases hf
  | succ n ih =>
    intro v1 v2 v4 v5 v6 h q k_v1 k_v2 hf hq
    rw [f_R_readExponent_46] at hf
    refine wk_iload C dR_readExponent_46 rfl ?_
    refine wk_iconst C dR_readExponent_48 kiconst_3 ?_
    refine wk_icmp_ge (tgt := 101) C dR_readExponent_49 rfl hf (fun c_49 hf => ?_) (fun c_49 hf => ?_)
    · exact wk_go (b_R_readExponent_101 hI C k_v2 hf hq) (And.intro rfl (And.intro rfl (And.intro rfl (And.intro rfl trivial))))
    · refine wk_aload_n C 1 dR_readExponent_52 rfl rfl ?_
      refine wk_aload_n C 0 dR_readExponent_53 rfl rfl ?_
      refine gf_R_9 C dR_readExponent_54 ?_
      obtain ⟨r57, h57, e_57, hf⟩ := bd_some hf
      refine wk_callV (As := [.int (h 26 0)]) (rest := []) C lw_good cw_R_47 wi_L_byteAt (m_L_byteAt hI k_v1 e_57) (lz_cLine k_v1) (he_cLine k_v1) rfl rfl rfl (Nat.le_of_ble_eq_true rfl) (by decide) dR_readExponent_57 ?_
      obtain ⟨r60, h60, e_60, hf⟩ := bd_some hf
      refine wk_callS (As := [.int r57]) (rest := []) C lw_good cw_R_51 ws_R_isDigit (m_R_isDigit hI e_60) rfl rfl (Nat.le_of_ble_eq_true rfl) (by decide) dR_readExponent_60 ?_
      refine wk_if_eq (tgt := 101) C dR_readExponent_63 rfl hf (fun c_63 hf => ?_) (fun c_63 hf => ?_)
      · exact wk_go (b_R_readExponent_101 hI C k_v2 hf hq) (And.intro rfl (And.intro rfl (And.intro rfl (And.intro rfl trivial))))
      · refine wk_iload C dR_readExponent_66 rfl ?_
        refine wk_bipush C dR_readExponent_68 kbipush_10 ?_
        refine wk_imul C dR_readExponent_70 ?_
        refine wk_aload_n C 1 dR_readExponent_71 rfl rfl ?_
        refine wk_aload_n C 0 dR_readExponent_72 rfl rfl ?_
        refine gf_R_9 C dR_readExponent_73 ?_
        obtain ⟨r76, h76, e_76, hf⟩ := bd_some hf
        refine wk_callV (As := [.int (h60 26 0)]) (rest := [.int (v5 * 10)]) C lw_good cw_R_47 wi_L_byteAt (m_L_byteAt hI k_v1 e_76) (lz_cLine k_v1) (he_cLine k_v1) rfl rfl rfl (Nat.le_of_ble_eq_true rfl) (by decide) dR_readExponent_76 ?_
        refine wk_iadd C dR_readExponent_79 ?_
        refine wk_bipush C dR_readExponent_80 kbipush_48 ?_
        refine wk_isub C dR_readExponent_82 ?_
        refine wk_istore C dR_readExponent_83 (by decide) ?_
        refine wk_aload_n C 0 dR_readExponent_85 rfl rfl ?_
        refine wk_dup C dR_readExponent_86 rfl ?_
        refine gf_R_9 C dR_readExponent_87 ?_
        refine wk_iconst C dR_readExponent_90 kiconst_1 ?_
        refine wk_iadd C dR_readExponent_91 ?_
        refine pf_R_9 C dR_readExponent_92 ?_
        refine wk_iinc C dR_readExponent_95 rfl kiconst_1 (by decide) ?_
        refine wk_goto (tgt := 46) C dR_readExponent_98 rfl ?_
        exact wk_go (ih k_v1 k_v2 hf hq) (And.intro rfl (And.intro rfl (And.intro rfl (And.intro rfl (And.intro rfl (And.intro rfl trivial))))))
set_option maxHeartbeats 4000000 in
set_option maxRecDepth 100000 in
theorem b_R_readExponent_23 {X : wk_X} {G : cGt} (hI : wd_inj (vC G)) (C : wk_C X (vC G) cR_readExponent RR 7 2 43) {v1 : Nat} {v2 : Nat} {h : Hp} {q : Int32 × Hp} (k_v1 : cLine v1) (k_v2 : cNum v2) (hf : f_R_readExponent_23 v1 v2 h = some q) (hq : wk_Q X (vC G) (some (.int q.1)) q.2 (some .boolean)) : WW X (vC G) h 23 [(0, .ref (cad G 26)), (1, .ref (cad G v1)), (2, .ref (cad G v2))] [] := by
  unfold f_R_readExponent_23 at hf
  refine wk_aload_n C 0 dR_readExponent_23 rfl rfl ?_
  refine wk_dup C dR_readExponent_24 rfl ?_
  refine gf_R_9 C dR_readExponent_25 ?_
  refine wk_iconst C dR_readExponent_28 kiconst_1 ?_
  refine wk_iadd C dR_readExponent_29 ?_
  refine pf_R_9 C dR_readExponent_30 ?_
  refine wk_aload_n C 0 dR_readExponent_33 rfl rfl ?_
  refine wk_aload_n C 1 dR_readExponent_34 rfl rfl ?_
  obtain ⟨r35, h35, e_35, hf⟩ := bd_some hf
  refine wk_callV (As := [.ref (cad G v1)]) (rest := []) C lw_good cw_R_24 wi_R_readSign (m_R_readSign hI k_v1 e_35) lz_26 (he_26 G ((up2 h 26 0 ((h 26 0) + 1)) 26)) rfl rfl rfl (Nat.le_of_ble_eq_true rfl) (by decide) dR_readExponent_35 ?_
  refine wk_istore C dR_readExponent_38 (by decide) ?_
  refine wk_iconst C dR_readExponent_40 kiconst_0 ?_
  refine wk_istore C dR_readExponent_41 (by decide) ?_
  refine wk_iconst C dR_readExponent_43 kiconst_0 ?_
  refine wk_istore C dR_readExponent_44 (by decide) ?_
  exact wk_go (b_R_readExponent_46 hI C fuel k_v1 k_v2 hf hq) (And.intro rfl (And.intro rfl (And.intro rfl (And.intro rfl (And.intro rfl (And.intro rfl trivial))))))
set_option maxHeartbeats 4000000 in
set_option maxRecDepth 100000 in
theorem b_R_readExponent {X : wk_X} {G : cGt} (hI : wd_inj (vC G)) (C : wk_C X (vC G) cR_readExponent RR 7 2 43) {v1 : Nat} {v2 : Nat} {h : Hp} {q : Int32 × Hp} (k_v1 : cLine v1) (k_v2 : cNum v2) (hf : f_R_readExponent v1 v2 h = some q) (hq : wk_Q X (vC G) (some (.int q.1)) q.2 (some .boolean)) : WW X (vC G) h 0 [(0, .ref (cad G 26)), (1, .ref (cad G v1)), (2, .ref (cad G v2))] [] := by
  unfold f_R_readExponent at hf
  refine wk_aload_n C 1 dR_readExponent_0 rfl rfl ?_
  refine wk_aload_n C 0 dR_readExponent_1 rfl rfl ?_
  refine gf_R_9 C dR_readExponent_2 ?_
  obtain ⟨r5, h5, e_5, hf⟩ := bd_some hf
  refine wk_callV (As := [.int (h 26 0)]) (rest := []) C lw_good cw_R_47 wi_L_byteAt (m_L_byteAt hI k_v1 e_5) (lz_cLine k_v1) (he_cLine k_v1) rfl rfl rfl (Nat.le_of_ble_eq_true rfl) (by decide) dR_readExponent_5 ?_
  refine wk_istore_n C 3 dR_readExponent_8 rfl (by decide) ?_
  refine wk_iload_n C 3 dR_readExponent_9 rfl rfl ?_
  refine wk_bipush C dR_readExponent_10 kbipush_69 ?_
  refine wk_icmp_eq (tgt := 23) C dR_readExponent_12 rfl hf (fun c_12 hf => ?_) (fun c_12 hf => ?_)
  · exact wk_go (b_R_readExponent_23 hI C k_v1 k_v2 hf hq) (And.intro rfl (And.intro rfl (And.intro rfl trivial)))
  · refine wk_iload_n C 3 dR_readExponent_15 rfl rfl ?_
    refine wk_bipush C dR_readExponent_16 kbipush_101 ?_
    refine wk_icmp_eq (tgt := 23) C dR_readExponent_18 rfl hf (fun c_18 hf => ?_) (fun c_18 hf => ?_)
    · exact wk_go (b_R_readExponent_23 hI C k_v1 k_v2 hf hq) (And.intro rfl (And.intro rfl (And.intro rfl trivial)))
    · refine wk_iconst C dR_readExponent_21 kiconst_1 ?_
      cases hf
      exact wk_zreturn C hq rfl dR_readExponent_22
theorem m_R_readExponent {l : Launch} {G : cGt} (hI : wd_inj (vC G)) {v1 : Nat} {v2 : Nat} {h h' : Hp} {r : Int32} (k_v1 : cLine v1) (k_v2 : cNum v2) (hf : f_R_readExponent v1 v2 h = some (r, h')) : wk_M l (vC G) yR_readExponent cR_readExponent 7 (some .boolean) 2 43 [.ref (cad G 26), .ref (cad G v1), .ref (cad G v2)] h (some (.int r)) h' :=
  wk_met hI (by decide +kernel) rfl (Nat.le_of_ble_eq_true rfl) (wk_cat1 rfl) (fun X hX C hq => by subst hX; exact b_R_readExponent hI C k_v1 k_v2 hf hq)
set_option maxHeartbeats 4000000 in
set_option maxRecDepth 100000 in
theorem b_R_read {X : wk_X} {G : cGt} (hI : wd_inj (vC G)) (C : wk_C X (vC G) cR_read RR 4 3 69) {v1 : Nat} {v2 : Nat} {h : Hp} {q : Int32 × Hp} (k_v1 : cLine v1) (k_v2 : cNum v2) (hf : f_R_read v1 v2 h = some q) (hq : wk_Q X (vC G) (some (.int q.1)) q.2 (some .boolean)) : WW X (vC G) h 0 [(0, .ref (cad G 26)), (1, .ref (cad G v1)), (2, .ref (cad G v2))] [] := by
  unfold f_R_read at hf
  refine wk_aload_n C 0 dR_read_0 rfl rfl ?_
  refine wk_iconst C dR_read_1 kiconst_0 ?_
  refine pf_R_9 C dR_read_2 ?_
  refine wk_aload_n C 2 dR_read_5 rfl rfl ?_
  obtain ⟨r6, h6, e_6, hf⟩ := bd_some hf
  refine wk_callV (As := []) (rest := []) C lw_good cw_R_15 wi_N_clear (m_N_clear hI k_v2 e_6) (lz_cNum k_v2) (he_cNum k_v2) rfl rfl rfl (Nat.le_of_ble_eq_true rfl) (by decide) dR_read_6 ?_
  refine wk_aload_n C 0 dR_read_9 rfl rfl ?_
  refine wk_aload_n C 1 dR_read_10 rfl rfl ?_
  obtain ⟨r11, h11, e_11, hf⟩ := bd_some hf
  refine wk_callV (As := [.ref (cad G v1)]) (rest := []) C lw_good cw_R_20 wi_R_skipBlanks (m_R_skipBlanks hI k_v1 e_11) lz_26 (he_26 G (h6 26)) rfl rfl rfl (Nat.le_of_ble_eq_true rfl) (by decide) dR_read_11 ?_
  refine wk_aload_n C 0 dR_read_14 rfl rfl ?_
  refine wk_aload_n C 1 dR_read_15 rfl rfl ?_
  obtain ⟨r16, h16, e_16, hf⟩ := bd_some hf
  refine wk_callV (As := [.ref (cad G v1)]) (rest := []) C lw_good cw_R_24 wi_R_readSign (m_R_readSign hI k_v1 e_16) lz_26 (he_26 G (h11 26)) rfl rfl rfl (Nat.le_of_ble_eq_true rfl) (by decide) dR_read_16 ?_
  refine wk_istore_n C 3 dR_read_19 rfl (by decide) ?_
  refine wk_aload_n C 0 dR_read_20 rfl rfl ?_
  refine wk_aload_n C 1 dR_read_21 rfl rfl ?_
  obtain ⟨r22, h22, e_22, hf⟩ := bd_some hf
  refine wk_callV (As := [.ref (cad G v1)]) (rest := []) C lw_good cw_R_20 wi_R_skipBlanks (m_R_skipBlanks hI k_v1 e_22) lz_26 (he_26 G (h16 26)) rfl rfl rfl (Nat.le_of_ble_eq_true rfl) (by decide) dR_read_22 ?_
  refine wk_aload_n C 0 dR_read_25 rfl rfl ?_
  refine wk_aload_n C 1 dR_read_26 rfl rfl ?_
  refine wk_aload_n C 2 dR_read_27 rfl rfl ?_
  obtain ⟨r28, h28, e_28, hf⟩ := bd_some hf
  refine wk_callV (As := [.ref (cad G v1), .ref (cad G v2)]) (rest := []) C lw_good cw_R_28 wi_R_readDigits (m_R_readDigits hI k_v1 k_v2 e_28) lz_26 (he_26 G (h22 26)) rfl rfl rfl (Nat.le_of_ble_eq_true rfl) (by decide) dR_read_28 ?_
  refine wk_if_eq (tgt := 43) C dR_read_31 rfl hf (fun c_31 hf => ?_) (fun c_31 hf => ?_)
  · refine wk_iconst C dR_read_43 kiconst_0 ?_
    cases hf
    exact wk_zreturn C hq rfl dR_read_44
  · refine wk_aload_n C 0 dR_read_34 rfl rfl ?_
    refine wk_aload_n C 1 dR_read_35 rfl rfl ?_
    refine wk_aload_n C 2 dR_read_36 rfl rfl ?_
    obtain ⟨r37, h37, e_37, hf⟩ := bd_some hf
    refine wk_callV (As := [.ref (cad G v1), .ref (cad G v2)]) (rest := []) C lw_good cw_R_32 wi_R_readExponent (m_R_readExponent hI k_v1 k_v2 e_37) lz_26 (he_26 G (h28 26)) rfl rfl rfl (Nat.le_of_ble_eq_true rfl) (by decide) dR_read_37 ?_
    refine wk_if_ne (tgt := 45) C dR_read_40 rfl hf (fun c_40 hf => ?_) (fun c_40 hf => ?_)
    · refine wk_aload_n C 0 dR_read_45 rfl rfl ?_
      refine wk_aload_n C 1 dR_read_46 rfl rfl ?_
      obtain ⟨r47, h47, e_47, hf⟩ := bd_some hf
      refine wk_callV (As := [.ref (cad G v1)]) (rest := []) C lw_good cw_R_20 wi_R_skipBlanks (m_R_skipBlanks hI k_v1 e_47) lz_26 (he_26 G (h37 26)) rfl rfl rfl (Nat.le_of_ble_eq_true rfl) (by decide) dR_read_47 ?_
      refine wk_aload_n C 2 dR_read_50 rfl rfl ?_
      refine wk_iload_n C 3 dR_read_51 rfl rfl ?_
      refine wk_aload_n C 2 dR_read_52 rfl rfl ?_
      refine gf_R_35 C k_v2 dR_read_53 ?_
      obtain ⟨r56, h56, e_56, hf⟩ := bd_some hf
      refine wk_callV (As := [.int r16, .int (h47 v2 2)]) (rest := []) C lw_good cw_R_38 wi_N_settle (m_N_settle hI k_v2 e_56) (lz_cNum k_v2) (he_cNum k_v2) rfl rfl rfl (Nat.le_of_ble_eq_true rfl) (by decide) dR_read_56 ?_
      refine wk_aload_n C 0 dR_read_59 rfl rfl ?_
      refine gf_R_9 C dR_read_60 ?_
      refine wk_aload_n C 1 dR_read_63 rfl rfl ?_
      refine gf_R_42 C k_v1 dR_read_64 ?_
      refine wk_icmp_ne (tgt := 74) C dR_read_67 rfl hf (fun c_67 hf => ?_) (fun c_67 hf => ?_)
      · refine wk_iconst C dR_read_74 kiconst_0 ?_
        cases hf
        exact wk_zreturn C hq rfl dR_read_75
      · refine wk_iconst C dR_read_70 kiconst_1 ?_
        refine wk_goto (tgt := 75) C dR_read_71 rfl ?_
        cases hf
        exact wk_zreturn C hq rfl dR_read_75
    · refine wk_iconst C dR_read_43 kiconst_0 ?_
      cases hf
      exact wk_zreturn C hq rfl dR_read_44
theorem m_R_read {l : Launch} {G : cGt} (hI : wd_inj (vC G)) {v1 : Nat} {v2 : Nat} {h h' : Hp} {r : Int32} (k_v1 : cLine v1) (k_v2 : cNum v2) (hf : f_R_read v1 v2 h = some (r, h')) : wk_M l (vC G) yR_read cR_read 4 (some .boolean) 3 69 [.ref (cad G 26), .ref (cad G v1), .ref (cad G v2)] h (some (.int r)) h' :=
  wk_met hI (by decide +kernel) rfl (Nat.le_of_ble_eq_true rfl) (wk_cat1 rfl) (fun X hX C hq => by subst hX; exact b_R_read hI C k_v1 k_v2 hf hq)
set_option maxHeartbeats 4000000 in
set_option maxRecDepth 100000 in
theorem b_T_addSign {X : wk_X} {G : cGt} (hI : wd_inj (vC G)) (C : wk_C X (vC G) cT_addSign RT 3 1 21) {v1 : Nat} {v2 : Nat} {h : Hp} {q : Unit × Hp} (k_v1 : cNum v1) (k_v2 : cLine v2) (hf : f_T_addSign v1 v2 h = some q) (hq : wk_Q X (vC G) none q.2 none) : WW X (vC G) h 0 [(0, .ref (cad G 27)), (1, .ref (cad G v1)), (2, .ref (cad G v2))] [] := by
  unfold f_T_addSign at hf
  refine wk_aload_n C 1 dT_addSign_0 rfl rfl ?_
  refine gf_T_70 C k_v1 dT_addSign_1 ?_
  refine wk_if_ge (tgt := 13) C dT_addSign_4 rfl hf (fun c_4 hf => ?_) (fun c_4 hf => ?_)
  · cases hf
    exact wk_return C hq dT_addSign_13
  · refine wk_aload_n C 2 dT_addSign_7 rfl rfl ?_
    refine wk_bipush C dT_addSign_8 kbipush_45 ?_
    obtain ⟨r10, h10, e_10, hf⟩ := bd_some hf
    refine wk_callV (As := [.int 45]) (rest := []) C lw_good cw_T_50 wi_L_add (m_L_add hI k_v2 e_10) (lz_cLine k_v2) (he_cLine k_v2) rfl rfl rfl (Nat.le_of_ble_eq_true rfl) (by decide) dT_addSign_10 ?_
    cases hf
    exact wk_return C hq dT_addSign_13
theorem m_T_addSign {l : Launch} {G : cGt} (hI : wd_inj (vC G)) {v1 : Nat} {v2 : Nat} {h h' : Hp} {r : Unit} (k_v1 : cNum v1) (k_v2 : cLine v2) (hf : f_T_addSign v1 v2 h = some (r, h')) : wk_M l (vC G) yT_addSign cT_addSign 3 none 1 21 [.ref (cad G 27), .ref (cad G v1), .ref (cad G v2)] h none h' :=
  wk_met hI (by decide +kernel) rfl (Nat.le_of_ble_eq_true rfl) (wk_cat1 rfl) (fun X hX C hq => by subst hX; exact b_T_addSign hI C k_v1 k_v2 hf hq)
set_option maxHeartbeats 4000000 in
set_option maxRecDepth 100000 in
theorem b_T_addExponent_48 {X : wk_X} {G : cGt} (hI : wd_inj (vC G)) (C : wk_C X (vC G) cT_addExponent RT 4 1 21) {v2 : Nat} {v3 : Int32} {h : Hp} {q : Unit × Hp} (k_v2 : cLine v2) (hf : f_T_addExponent_48 v2 v3 h = some q) (hq : wk_Q X (vC G) none q.2 none) : WW X (vC G) h 48 [(2, .ref (cad G v2)), (3, .int v3)] [] := by
  unfold f_T_addExponent_48 at hf
  refine wk_iload_n C 3 dT_addExponent_48 rfl rfl ?_
  refine wk_bipush C dT_addExponent_49 kbipush_10 ?_
  refine wk_icmp_lt (tgt := 68) C dT_addExponent_51 rfl hf (fun c_51 hf => ?_) (fun c_51 hf => ?_)
  · refine wk_aload_n C 2 dT_addExponent_68 rfl rfl ?_
    refine wk_bipush C dT_addExponent_69 kbipush_48 ?_
    refine wk_iload_n C 3 dT_addExponent_71 rfl rfl ?_
    refine wk_bipush C dT_addExponent_72 kbipush_10 ?_
    refine wk_irem C dT_addExponent_74 (by decide) ?_
    refine wk_iadd C dT_addExponent_75 ?_
    obtain ⟨r76, h76, e_76, hf⟩ := bd_some hf
    refine wk_callV (As := [.int (48 + (v3 - v3 / 10 * 10))]) (rest := []) C lw_good cw_T_50 wi_L_add (m_L_add hI k_v2 e_76) (lz_cLine k_v2) (he_cLine k_v2) rfl rfl rfl (Nat.le_of_ble_eq_true rfl) (by decide) dT_addExponent_76 ?_
    cases hf
    exact wk_return C hq dT_addExponent_79
  · refine wk_aload_n C 2 dT_addExponent_54 rfl rfl ?_
    refine wk_bipush C dT_addExponent_55 kbipush_48 ?_
    refine wk_iload_n C 3 dT_addExponent_57 rfl rfl ?_
    refine wk_bipush C dT_addExponent_58 kbipush_10 ?_
    refine wk_idiv C dT_addExponent_60 (by decide) ?_
    refine wk_bipush C dT_addExponent_61 kbipush_10 ?_
    refine wk_irem C dT_addExponent_63 (by decide) ?_
    refine wk_iadd C dT_addExponent_64 ?_
    obtain ⟨r65, h65, e_65, hf⟩ := bd_some hf
    refine wk_callV (As := [.int (48 + ((v3 / 10) - (v3 / 10) / 10 * 10))]) (rest := []) C lw_good cw_T_50 wi_L_add (m_L_add hI k_v2 e_65) (lz_cLine k_v2) (he_cLine k_v2) rfl rfl rfl (Nat.le_of_ble_eq_true rfl) (by decide) dT_addExponent_65 ?_
    refine wk_aload_n C 2 dT_addExponent_68 rfl rfl ?_
    refine wk_bipush C dT_addExponent_69 kbipush_48 ?_
    refine wk_iload_n C 3 dT_addExponent_71 rfl rfl ?_
    refine wk_bipush C dT_addExponent_72 kbipush_10 ?_
    refine wk_irem C dT_addExponent_74 (by decide) ?_
    refine wk_iadd C dT_addExponent_75 ?_
    obtain ⟨r76, h76, e_76, hf⟩ := bd_some hf
    refine wk_callV (As := [.int (48 + (v3 - v3 / 10 * 10))]) (rest := []) C lw_good cw_T_50 wi_L_add (m_L_add hI k_v2 e_76) (lz_cLine k_v2) (he_cLine k_v2) rfl rfl rfl (Nat.le_of_ble_eq_true rfl) (by decide) dT_addExponent_76 ?_
    cases hf
    exact wk_return C hq dT_addExponent_79
set_option maxHeartbeats 4000000 in
set_option maxRecDepth 100000 in
theorem b_T_addExponent_23 {X : wk_X} {G : cGt} (hI : wd_inj (vC G)) (C : wk_C X (vC G) cT_addExponent RT 4 1 21) {v1 : Int32} {v2 : Nat} {s0 : Nat} {s1 : Int32} {h : Hp} {q : Unit × Hp} (k_v2 : cLine v2) (k_s0 : cLine s0) (hf : f_T_addExponent_23 v1 v2 s0 s1 h = some q) (hq : wk_Q X (vC G) none q.2 none) : WW X (vC G) h 23 [(1, .int v1), (2, .ref (cad G v2))] [.int s1, .ref (cad G s0)] := by
  unfold f_T_addExponent_23 at hf
  obtain ⟨r23, h23, e_23, hf⟩ := bd_some hf
  refine wk_callV (As := [.int s1]) (rest := []) C lw_good cw_T_50 wi_L_add (m_L_add hI k_s0 e_23) (lz_cLine k_s0) (he_cLine k_s0) rfl rfl rfl (Nat.le_of_ble_eq_true rfl) (by decide) dT_addExponent_23 ?_
  refine wk_iload_n C 1 dT_addExponent_26 rfl rfl ?_
  refine wk_mabs C mw_T_67 ⟨Nat.le_of_ble_eq_true rfl, Nat.le_of_ble_eq_true rfl⟩ dT_addExponent_27 ?_
  refine wk_istore_n C 3 dT_addExponent_30 rfl (by decide) ?_
  refine wk_iload_n C 3 dT_addExponent_31 rfl rfl ?_
  refine wk_bipush C dT_addExponent_32 kbipush_100 ?_
  refine wk_icmp_lt (tgt := 48) C dT_addExponent_34 rfl hf (fun c_34 hf => ?_) (fun c_34 hf => ?_)
  · exact wk_go (b_T_addExponent_48 hI C k_v2 hf hq) (And.intro rfl (And.intro rfl trivial))
  · refine wk_aload_n C 2 dT_addExponent_37 rfl rfl ?_
    refine wk_bipush C dT_addExponent_38 kbipush_48 ?_
    refine wk_iload_n C 3 dT_addExponent_40 rfl rfl ?_
    refine wk_bipush C dT_addExponent_41 kbipush_100 ?_
    refine wk_idiv C dT_addExponent_43 (by decide) ?_
    refine wk_iadd C dT_addExponent_44 ?_
    obtain ⟨r45, h45, e_45, hf⟩ := bd_some hf
    refine wk_callV (As := [.int (48 + ((if 0 ≤ v1 then v1 else 0 - v1) / 100))]) (rest := []) C lw_good cw_T_50 wi_L_add (m_L_add hI k_v2 e_45) (lz_cLine k_v2) (he_cLine k_v2) rfl rfl rfl (Nat.le_of_ble_eq_true rfl) (by decide) dT_addExponent_45 ?_
    exact wk_go (b_T_addExponent_48 hI C k_v2 hf hq) (And.intro rfl (And.intro rfl trivial))
set_option maxHeartbeats 4000000 in
set_option maxRecDepth 100000 in
theorem b_T_addExponent {X : wk_X} {G : cGt} (hI : wd_inj (vC G)) (C : wk_C X (vC G) cT_addExponent RT 4 1 21) {v1 : Int32} {v2 : Nat} {h : Hp} {q : Unit × Hp} (k_v2 : cLine v2) (hf : f_T_addExponent v1 v2 h = some q) (hq : wk_Q X (vC G) none q.2 none) : WW X (vC G) h 0 [(0, .ref (cad G 27)), (1, .int v1), (2, .ref (cad G v2))] [] := by
  unfold f_T_addExponent at hf
  refine wk_iload_n C 1 dT_addExponent_0 rfl rfl ?_
  refine wk_if_ne (tgt := 5) C dT_addExponent_1 rfl hf (fun c_1 hf => ?_) (fun c_1 hf => ?_)
  · refine wk_aload_n C 2 dT_addExponent_5 rfl rfl ?_
    refine wk_bipush C dT_addExponent_6 kbipush_69 ?_
    obtain ⟨r8, h8, e_8, hf⟩ := bd_some hf
    refine wk_callV (As := [.int 69]) (rest := []) C lw_good cw_T_50 wi_L_add (m_L_add hI k_v2 e_8) (lz_cLine k_v2) (he_cLine k_v2) rfl rfl rfl (Nat.le_of_ble_eq_true rfl) (by decide) dT_addExponent_8 ?_
    refine wk_aload_n C 2 dT_addExponent_11 rfl rfl ?_
    refine wk_iload_n C 1 dT_addExponent_12 rfl rfl ?_
    refine wk_if_ge (tgt := 21) C dT_addExponent_13 rfl hf (fun c_13 hf => ?_) (fun c_13 hf => ?_)
    · refine wk_bipush C dT_addExponent_21 kbipush_43 ?_
      exact wk_go (b_T_addExponent_23 hI C k_v2 k_v2 hf hq) (And.intro rfl (And.intro rfl trivial))
    · refine wk_bipush C dT_addExponent_16 kbipush_45 ?_
      refine wk_goto (tgt := 23) C dT_addExponent_18 rfl ?_
      exact wk_go (b_T_addExponent_23 hI C k_v2 k_v2 hf hq) (And.intro rfl (And.intro rfl trivial))
  · cases hf
    exact wk_return C hq dT_addExponent_4
theorem m_T_addExponent {l : Launch} {G : cGt} (hI : wd_inj (vC G)) {v1 : Int32} {v2 : Nat} {h h' : Hp} {r : Unit} (k_v2 : cLine v2) (hf : f_T_addExponent v1 v2 h = some (r, h')) : wk_M l (vC G) yT_addExponent cT_addExponent 4 none 1 21 [.ref (cad G 27), .int v1, .ref (cad G v2)] h none h' :=
  wk_met hI (by decide +kernel) rfl (Nat.le_of_ble_eq_true rfl) (wk_cat1 rfl) (fun X hX C hq => by subst hX; exact b_T_addExponent hI C k_v2 hf hq)
set_option maxHeartbeats 4000000 in
set_option maxRecDepth 100000 in
theorem b_T_addPlain_55 {X : wk_X} {G : cGt} (hI : wd_inj (vC G)) (C : wk_C X (vC G) cT_addPlain RT 5 2 43) : ∀ (n : Nat) {v1 : Nat} {v2 : Int32} {v3 : Nat} {v4 : Int32} {h : Hp} {q : Unit × Hp} (k_v1 : cNum v1) (k_v3 : cLine v3) (hf : f_T_addPlain_55 n v1 v2 v3 v4 h = some q) (hq : wk_Q X (vC G) none q.2 none), WW X (vC G) h 55 [(1, .ref (cad G v1)), (2, .int v2), (3, .ref (cad G v3)), (4, .int v4)] [] := by
  intro n
  induction n with
  | zero =>
    intros
    rename_i hf _
    cases hf
  | succ n ih =>
    intro v1 v2 v3 v4 h q k_v1 k_v3 hf hq
    rw [f_T_addPlain_55] at hf
    refine wk_iload C dT_addPlain_55 rfl ?_
    refine wk_iload_n C 2 dT_addPlain_57 rfl rfl ?_
    refine wk_icmp_gt (tgt := 81) C dT_addPlain_58 rfl hf (fun c_58 hf => ?_) (fun c_58 hf => ?_)
    · cases hf
      exact wk_return C hq dT_addPlain_81
    · refine wk_aload_n C 3 dT_addPlain_61 rfl rfl ?_
      refine wk_bipush C dT_addPlain_62 kbipush_48 ?_
      refine wk_aload_n C 1 dT_addPlain_64 rfl rfl ?_
      refine wk_iload C dT_addPlain_65 rfl ?_
      refine wk_ineg C dT_addPlain_67 ?_
      obtain ⟨r68, h68, e_68, hf⟩ := bd_some hf
      refine wk_callV (As := [.int (-v4)]) (rest := [.int 48, .ref (cad G v3)]) C lw_good cw_T_46 wi_N_digitAtPower (m_N_digitAtPower hI k_v1 e_68) (lz_cNum k_v1) (he_cNum k_v1) rfl rfl rfl (Nat.le_of_ble_eq_true rfl) (by decide) dT_addPlain_68 ?_
      refine wk_iadd C dT_addPlain_71 ?_
      obtain ⟨r72, h72, e_72, hf⟩ := bd_some hf
      refine wk_callV (As := [.int (48 + r68)]) (rest := []) C lw_good cw_T_50 wi_L_add (m_L_add hI k_v3 e_72) (lz_cLine k_v3) (he_cLine k_v3) rfl rfl rfl (Nat.le_of_ble_eq_true rfl) (by decide) dT_addPlain_72 ?_
      refine wk_iinc C dT_addPlain_75 rfl kiconst_1 (by decide) ?_
      refine wk_goto (tgt := 55) C dT_addPlain_78 rfl ?_
      exact wk_go (ih k_v1 k_v3 hf hq) (And.intro rfl (And.intro rfl (And.intro rfl (And.intro rfl trivial))))
set_option maxHeartbeats 4000000 in
set_option maxRecDepth 100000 in
theorem b_T_addPlain_18 {X : wk_X} {G : cGt} (hI : wd_inj (vC G)) (C : wk_C X (vC G) cT_addPlain RT 5 2 43) : ∀ (n : Nat) {v1 : Nat} {v2 : Int32} {v3 : Nat} {v4 : Int32} {h : Hp} {q : Unit × Hp} (k_v1 : cNum v1) (k_v3 : cLine v3) (hf : f_T_addPlain_18 n v1 v2 v3 v4 h = some q) (hq : wk_Q X (vC G) none q.2 none), WW X (vC G) h 18 [(1, .ref (cad G v1)), (2, .int v2), (3, .ref (cad G v3)), (4, .int v4)] [] := by
  intro n
  induction n with
  | zero =>
    intros
    rename_i hf _
    cases hf
  | succ n ih =>
    intro v1 v2 v3 v4 h q k_v1 k_v3 hf hq
    rw [f_T_addPlain_18] at hf
    refine wk_iload C dT_addPlain_18 rfl ?_
    refine wk_if_lt (tgt := 42) C dT_addPlain_20 rfl hf (fun c_20 hf => ?_) (fun c_20 hf => ?_)
    · refine wk_iload_n C 2 dT_addPlain_42 rfl rfl ?_
      refine wk_if_le (tgt := 52) C dT_addPlain_43 rfl hf (fun c_43 hf => ?_) (fun c_43 hf => ?_)
      · refine wk_iconst C dT_addPlain_52 kiconst_1 ?_
        refine wk_istore C dT_addPlain_53 (by decide) ?_
        exact wk_go (b_T_addPlain_55 hI C fuel k_v1 k_v3 hf hq) (And.intro rfl (And.intro rfl (And.intro rfl (And.intro rfl trivial))))
      · refine wk_aload_n C 3 dT_addPlain_46 rfl rfl ?_
        refine wk_bipush C dT_addPlain_47 kbipush_46 ?_
        obtain ⟨r49, h49, e_49, hf⟩ := bd_some hf
        refine wk_callV (As := [.int 46]) (rest := []) C lw_good cw_T_50 wi_L_add (m_L_add hI k_v3 e_49) (lz_cLine k_v3) (he_cLine k_v3) rfl rfl rfl (Nat.le_of_ble_eq_true rfl) (by decide) dT_addPlain_49 ?_
        refine wk_iconst C dT_addPlain_52 kiconst_1 ?_
        refine wk_istore C dT_addPlain_53 (by decide) ?_
        exact wk_go (b_T_addPlain_55 hI C fuel k_v1 k_v3 hf hq) (And.intro rfl (And.intro rfl (And.intro rfl (And.intro rfl trivial))))
    · refine wk_aload_n C 3 dT_addPlain_23 rfl rfl ?_
      refine wk_bipush C dT_addPlain_24 kbipush_48 ?_
      refine wk_aload_n C 1 dT_addPlain_26 rfl rfl ?_
      refine wk_iload C dT_addPlain_27 rfl ?_
      obtain ⟨r29, h29, e_29, hf⟩ := bd_some hf
      refine wk_callV (As := [.int v4]) (rest := [.int 48, .ref (cad G v3)]) C lw_good cw_T_46 wi_N_digitAtPower (m_N_digitAtPower hI k_v1 e_29) (lz_cNum k_v1) (he_cNum k_v1) rfl rfl rfl (Nat.le_of_ble_eq_true rfl) (by decide) dT_addPlain_29 ?_
      refine wk_iadd C dT_addPlain_32 ?_
      obtain ⟨r33, h33, e_33, hf⟩ := bd_some hf
      refine wk_callV (As := [.int (48 + r29)]) (rest := []) C lw_good cw_T_50 wi_L_add (m_L_add hI k_v3 e_33) (lz_cLine k_v3) (he_cLine k_v3) rfl rfl rfl (Nat.le_of_ble_eq_true rfl) (by decide) dT_addPlain_33 ?_
      refine wk_iinc C dT_addPlain_36 rfl kiconst_m1 (by decide) ?_
      refine wk_goto (tgt := 18) C dT_addPlain_39 rfl ?_
      exact wk_go (ih k_v1 k_v3 hf hq) (And.intro rfl (And.intro rfl (And.intro rfl (And.intro rfl trivial))))
set_option maxHeartbeats 4000000 in
set_option maxRecDepth 100000 in
theorem b_T_addPlain {X : wk_X} {G : cGt} (hI : wd_inj (vC G)) (C : wk_C X (vC G) cT_addPlain RT 5 2 43) {v1 : Nat} {v2 : Int32} {v3 : Nat} {h : Hp} {q : Unit × Hp} (k_v1 : cNum v1) (k_v3 : cLine v3) (hf : f_T_addPlain v1 v2 v3 h = some q) (hq : wk_Q X (vC G) none q.2 none) : WW X (vC G) h 0 [(0, .ref (cad G 27)), (1, .ref (cad G v1)), (2, .int v2), (3, .ref (cad G v3))] [] := by
  unfold f_T_addPlain at hf
  refine wk_aload_n C 0 dT_addPlain_0 rfl rfl ?_
  refine wk_aload_n C 1 dT_addPlain_1 rfl rfl ?_
  refine wk_aload_n C 3 dT_addPlain_2 rfl rfl ?_
  obtain ⟨r3, h3, e_3, hf⟩ := bd_some hf
  refine wk_callV (As := [.ref (cad G v1), .ref (cad G v3)]) (rest := []) C lw_good cw_T_36 wi_T_addSign (m_T_addSign hI k_v1 k_v3 e_3) lz_27 (he_27 G (h 27)) rfl rfl rfl (Nat.le_of_ble_eq_true rfl) (by decide) dT_addPlain_3 ?_
  refine wk_aload_n C 1 dT_addPlain_6 rfl rfl ?_
  obtain ⟨r7, h7, e_7, hf⟩ := bd_some hf
  refine wk_callV (As := []) (rest := []) C lw_good cw_T_21 wi_N_ahead (m_N_ahead hI k_v1 e_7) (lz_cNum k_v1) (he_cNum k_v1) rfl rfl rfl (Nat.le_of_ble_eq_true rfl) (by decide) dT_addPlain_7 ?_
  refine wk_iconst C dT_addPlain_10 kiconst_1 ?_
  refine wk_mmax C mw_T_40 ⟨Nat.le_of_ble_eq_true rfl, Nat.le_of_ble_eq_true rfl⟩ dT_addPlain_11 ?_
  refine wk_iconst C dT_addPlain_14 kiconst_1 ?_
  refine wk_isub C dT_addPlain_15 ?_
  refine wk_istore C dT_addPlain_16 (by decide) ?_
  exact wk_go (b_T_addPlain_18 hI C fuel k_v1 k_v3 hf hq) (And.intro rfl (And.intro rfl (And.intro rfl (And.intro rfl trivial))))
theorem m_T_addPlain {l : Launch} {G : cGt} (hI : wd_inj (vC G)) {v1 : Nat} {v2 : Int32} {v3 : Nat} {h h' : Hp} {r : Unit} (k_v1 : cNum v1) (k_v3 : cLine v3) (hf : f_T_addPlain v1 v2 v3 h = some (r, h')) : wk_M l (vC G) yT_addPlain cT_addPlain 5 none 2 43 [.ref (cad G 27), .ref (cad G v1), .int v2, .ref (cad G v3)] h none h' :=
  wk_met hI (by decide +kernel) rfl (Nat.le_of_ble_eq_true rfl) (wk_cat1 rfl) (fun X hX C hq => by subst hX; exact b_T_addPlain hI C k_v1 k_v3 hf hq)
set_option maxHeartbeats 4000000 in
set_option maxRecDepth 100000 in
theorem b_T_addWithExponent_79 {X : wk_X} {G : cGt} (hI : wd_inj (vC G)) (C : wk_C X (vC G) cT_addWithExponent RT 7 2 44) : ∀ (n : Nat) {v1 : Nat} {v3 : Nat} {v4 : Int32} {v5 : Int32} {v6 : Int32} {h : Hp} {q : Unit × Hp} (k_v1 : cNum v1) (k_v3 : cLine v3) (hf : f_T_addWithExponent_79 n v1 v3 v4 v5 v6 h = some q) (hq : wk_Q X (vC G) none q.2 none), WW X (vC G) h 79 [(0, .ref (cad G 27)), (1, .ref (cad G v1)), (3, .ref (cad G v3)), (4, .int v4), (5, .int v5), (6, .int v6)] [] := by
  intro n
  induction n with
  | zero =>
    intros
    rename_i hf _
    cases hf
  | succ n ih =>
    intro v1 v3 v4 v5 v6 h q k_v1 k_v3 hf hq
    rw [f_T_addWithExponent_79] at hf
    refine wk_iload C dT_addWithExponent_79 rfl ?_
    refine wk_aload_n C 1 dT_addWithExponent_81 rfl rfl ?_
    refine gf_T_60 C k_v1 dT_addWithExponent_82 ?_
    refine wk_icmp_ge (tgt := 107) C dT_addWithExponent_85 rfl hf (fun c_85 hf => ?_) (fun c_85 hf => ?_)
    · refine wk_aload_n C 0 dT_addWithExponent_107 rfl rfl ?_
      refine wk_iload C dT_addWithExponent_108 rfl ?_
      refine wk_iload C dT_addWithExponent_110 rfl ?_
      refine wk_isub C dT_addWithExponent_112 ?_
      refine wk_iconst C dT_addWithExponent_113 kiconst_1 ?_
      refine wk_iadd C dT_addWithExponent_114 ?_
      refine wk_aload_n C 3 dT_addWithExponent_115 rfl rfl ?_
      obtain ⟨r116, h116, e_116, hf⟩ := bd_some hf
      refine wk_callV (As := [.int ((v4 - v5) + 1), .ref (cad G v3)]) (rest := []) C lw_good cw_T_63 wi_T_addExponent (m_T_addExponent hI k_v3 e_116) lz_27 (he_27 G (h 27)) rfl rfl rfl (Nat.le_of_ble_eq_true rfl) (by decide) dT_addWithExponent_116 ?_
      cases hf
      exact wk_return C hq dT_addWithExponent_119
    · refine wk_aload_n C 3 dT_addWithExponent_88 rfl rfl ?_
      refine wk_bipush C dT_addWithExponent_89 kbipush_48 ?_
      refine wk_aload_n C 1 dT_addWithExponent_91 rfl rfl ?_
      refine wk_iload C dT_addWithExponent_92 rfl ?_
      obtain ⟨r94, h94, e_94, hf⟩ := bd_some hf
      refine wk_callV (As := [.int v6]) (rest := [.int 48, .ref (cad G v3)]) C lw_good cw_T_57 wi_N_digit (m_N_digit hI k_v1 e_94) (lz_cNum k_v1) (he_cNum k_v1) rfl rfl rfl (Nat.le_of_ble_eq_true rfl) (by decide) dT_addWithExponent_94 ?_
      refine wk_iadd C dT_addWithExponent_97 ?_
      obtain ⟨r98, h98, e_98, hf⟩ := bd_some hf
      refine wk_callV (As := [.int (48 + r94)]) (rest := []) C lw_good cw_T_50 wi_L_add (m_L_add hI k_v3 e_98) (lz_cLine k_v3) (he_cLine k_v3) rfl rfl rfl (Nat.le_of_ble_eq_true rfl) (by decide) dT_addWithExponent_98 ?_
      refine wk_iinc C dT_addWithExponent_101 rfl kiconst_1 (by decide) ?_
      refine wk_goto (tgt := 79) C dT_addWithExponent_104 rfl ?_
      exact wk_go (ih k_v1 k_v3 hf hq) (And.intro rfl (And.intro rfl (And.intro rfl (And.intro rfl (And.intro rfl (And.intro rfl trivial))))))
set_option maxHeartbeats 4000000 in
set_option maxRecDepth 100000 in
theorem b_T_addWithExponent_34 {X : wk_X} {G : cGt} (hI : wd_inj (vC G)) (C : wk_C X (vC G) cT_addWithExponent RT 7 2 44) : ∀ (n : Nat) {v1 : Nat} {v3 : Nat} {v4 : Int32} {v5 : Int32} {v6 : Int32} {h : Hp} {q : Unit × Hp} (k_v1 : cNum v1) (k_v3 : cLine v3) (hf : f_T_addWithExponent_34 n v1 v3 v4 v5 v6 h = some q) (hq : wk_Q X (vC G) none q.2 none), WW X (vC G) h 34 [(0, .ref (cad G 27)), (1, .ref (cad G v1)), (3, .ref (cad G v3)), (4, .int v4), (5, .int v5), (6, .int v6)] [] := by
  intro n
  induction n with
  | zero =>
    intros
    rename_i hf _
    cases hf
  | succ n ih =>
    intro v1 v3 v4 v5 v6 h q k_v1 k_v3 hf hq
    rw [f_T_addWithExponent_34] at hf
    refine wk_iload C dT_addWithExponent_34 rfl ?_
    refine wk_iload C dT_addWithExponent_36 rfl ?_
    refine wk_icmp_ge (tgt := 60) C dT_addWithExponent_38 rfl hf (fun c_38 hf => ?_) (fun c_38 hf => ?_)
    · refine wk_aload_n C 1 dT_addWithExponent_60 rfl rfl ?_
      refine gf_T_60 C k_v1 dT_addWithExponent_61 ?_
      refine wk_iload C dT_addWithExponent_64 rfl ?_
      refine wk_icmp_le (tgt := 75) C dT_addWithExponent_66 rfl hf (fun c_66 hf => ?_) (fun c_66 hf => ?_)
      · refine wk_iload C dT_addWithExponent_75 rfl ?_
        refine wk_istore C dT_addWithExponent_77 (by decide) ?_
        exact wk_go (b_T_addWithExponent_79 hI C fuel k_v1 k_v3 hf hq) (And.intro rfl (And.intro rfl (And.intro rfl (And.intro rfl (And.intro rfl (And.intro rfl trivial))))))
      · refine wk_aload_n C 3 dT_addWithExponent_69 rfl rfl ?_
        refine wk_bipush C dT_addWithExponent_70 kbipush_46 ?_
        obtain ⟨r72, h72, e_72, hf⟩ := bd_some hf
        refine wk_callV (As := [.int 46]) (rest := []) C lw_good cw_T_50 wi_L_add (m_L_add hI k_v3 e_72) (lz_cLine k_v3) (he_cLine k_v3) rfl rfl rfl (Nat.le_of_ble_eq_true rfl) (by decide) dT_addWithExponent_72 ?_
        refine wk_iload C dT_addWithExponent_75 rfl ?_
        refine wk_istore C dT_addWithExponent_77 (by decide) ?_
        exact wk_go (b_T_addWithExponent_79 hI C fuel k_v1 k_v3 hf hq) (And.intro rfl (And.intro rfl (And.intro rfl (And.intro rfl (And.intro rfl (And.intro rfl trivial))))))
    · refine wk_aload_n C 3 dT_addWithExponent_41 rfl rfl ?_
      refine wk_bipush C dT_addWithExponent_42 kbipush_48 ?_
      refine wk_aload_n C 1 dT_addWithExponent_44 rfl rfl ?_
      refine wk_iload C dT_addWithExponent_45 rfl ?_
      obtain ⟨r47, h47, e_47, hf⟩ := bd_some hf
      refine wk_callV (As := [.int v6]) (rest := [.int 48, .ref (cad G v3)]) C lw_good cw_T_57 wi_N_digit (m_N_digit hI k_v1 e_47) (lz_cNum k_v1) (he_cNum k_v1) rfl rfl rfl (Nat.le_of_ble_eq_true rfl) (by decide) dT_addWithExponent_47 ?_
      refine wk_iadd C dT_addWithExponent_50 ?_
      obtain ⟨r51, h51, e_51, hf⟩ := bd_some hf
      refine wk_callV (As := [.int (48 + r47)]) (rest := []) C lw_good cw_T_50 wi_L_add (m_L_add hI k_v3 e_51) (lz_cLine k_v3) (he_cLine k_v3) rfl rfl rfl (Nat.le_of_ble_eq_true rfl) (by decide) dT_addWithExponent_51 ?_
      refine wk_iinc C dT_addWithExponent_54 rfl kiconst_1 (by decide) ?_
      refine wk_goto (tgt := 34) C dT_addWithExponent_57 rfl ?_
      exact wk_go (ih k_v1 k_v3 hf hq) (And.intro rfl (And.intro rfl (And.intro rfl (And.intro rfl (And.intro rfl (And.intro rfl trivial))))))
set_option maxHeartbeats 4000000 in
set_option maxRecDepth 100000 in
theorem b_T_addWithExponent {X : wk_X} {G : cGt} (hI : wd_inj (vC G)) (C : wk_C X (vC G) cT_addWithExponent RT 7 2 44) {v1 : Nat} {v2 : Int32} {v3 : Nat} {h : Hp} {q : Unit × Hp} (k_v1 : cNum v1) (k_v3 : cLine v3) (hf : f_T_addWithExponent v1 v2 v3 h = some q) (hq : wk_Q X (vC G) none q.2 none) : WW X (vC G) h 0 [(0, .ref (cad G 27)), (1, .ref (cad G v1)), (2, .int v2), (3, .ref (cad G v3))] [] := by
  unfold f_T_addWithExponent at hf
  refine wk_aload_n C 1 dT_addWithExponent_0 rfl rfl ?_
  obtain ⟨r1, h1, e_1, hf⟩ := bd_some hf
  refine wk_callV (As := []) (rest := []) C lw_good cw_T_9 wi_N_firstPower (m_N_firstPower hI k_v1 e_1) (lz_cNum k_v1) (he_cNum k_v1) rfl rfl rfl (Nat.le_of_ble_eq_true rfl) (by decide) dT_addWithExponent_1 ?_
  refine wk_istore C dT_addWithExponent_4 (by decide) ?_
  refine wk_iload_n C 2 dT_addWithExponent_6 rfl rfl ?_
  refine wk_iconst C dT_addWithExponent_7 kiconst_1 ?_
  refine wk_icmp_ne (tgt := 22) C dT_addWithExponent_8 rfl hf (fun c_8 hf => ?_) (fun c_8 hf => ?_)
  · refine wk_iconst C dT_addWithExponent_22 kiconst_1 ?_
    refine wk_istore C dT_addWithExponent_23 (by decide) ?_
    refine wk_aload_n C 0 dT_addWithExponent_25 rfl rfl ?_
    refine wk_aload_n C 1 dT_addWithExponent_26 rfl rfl ?_
    refine wk_aload_n C 3 dT_addWithExponent_27 rfl rfl ?_
    obtain ⟨r28, h28, e_28, hf⟩ := bd_some hf
    refine wk_callV (As := [.ref (cad G v1), .ref (cad G v3)]) (rest := []) C lw_good cw_T_36 wi_T_addSign (m_T_addSign hI k_v1 k_v3 e_28) lz_27 (he_27 G (h1 27)) rfl rfl rfl (Nat.le_of_ble_eq_true rfl) (by decide) dT_addWithExponent_28 ?_
    refine wk_iconst C dT_addWithExponent_31 kiconst_0 ?_
    refine wk_istore C dT_addWithExponent_32 (by decide) ?_
    exact wk_go (b_T_addWithExponent_34 hI C fuel k_v1 k_v3 hf hq) (And.intro rfl (And.intro rfl (And.intro rfl (And.intro rfl (And.intro rfl (And.intro rfl trivial))))))
  · refine wk_iload C dT_addWithExponent_11 rfl ?_
    refine wk_iconst C dT_addWithExponent_13 kiconst_3 ?_
    obtain ⟨r14, h14, e_14, hf⟩ := bd_some hf
    refine wk_callS (As := [.int r1, .int 3]) (rest := []) C lw_good cw_T_54 ws_A_floorMod (m_A_floorMod hI e_14) rfl rfl (Nat.le_of_ble_eq_true rfl) (by decide) dT_addWithExponent_14 ?_
    refine wk_iconst C dT_addWithExponent_17 kiconst_1 ?_
    refine wk_iadd C dT_addWithExponent_18 ?_
    refine wk_goto (tgt := 23) C dT_addWithExponent_19 rfl ?_
    refine wk_istore C dT_addWithExponent_23 (by decide) ?_
    refine wk_aload_n C 0 dT_addWithExponent_25 rfl rfl ?_
    refine wk_aload_n C 1 dT_addWithExponent_26 rfl rfl ?_
    refine wk_aload_n C 3 dT_addWithExponent_27 rfl rfl ?_
    obtain ⟨r28, h28, e_28, hf⟩ := bd_some hf
    refine wk_callV (As := [.ref (cad G v1), .ref (cad G v3)]) (rest := []) C lw_good cw_T_36 wi_T_addSign (m_T_addSign hI k_v1 k_v3 e_28) lz_27 (he_27 G (h14 27)) rfl rfl rfl (Nat.le_of_ble_eq_true rfl) (by decide) dT_addWithExponent_28 ?_
    refine wk_iconst C dT_addWithExponent_31 kiconst_0 ?_
    refine wk_istore C dT_addWithExponent_32 (by decide) ?_
    exact wk_go (b_T_addWithExponent_34 hI C fuel k_v1 k_v3 hf hq) (And.intro rfl (And.intro rfl (And.intro rfl (And.intro rfl (And.intro rfl (And.intro rfl trivial))))))
theorem m_T_addWithExponent {l : Launch} {G : cGt} (hI : wd_inj (vC G)) {v1 : Nat} {v2 : Int32} {v3 : Nat} {h h' : Hp} {r : Unit} (k_v1 : cNum v1) (k_v3 : cLine v3) (hf : f_T_addWithExponent v1 v2 v3 h = some (r, h')) : wk_M l (vC G) yT_addWithExponent cT_addWithExponent 7 none 2 44 [.ref (cad G 27), .ref (cad G v1), .int v2, .ref (cad G v3)] h none h' :=
  wk_met hI (by decide +kernel) rfl (Nat.le_of_ble_eq_true rfl) (wk_cat1 rfl) (fun X hX C hq => by subst hX; exact b_T_addWithExponent hI C k_v1 k_v3 hf hq)
set_option maxHeartbeats 4000000 in
set_option maxRecDepth 100000 in
theorem b_T_write {X : wk_X} {G : cGt} (hI : wd_inj (vC G)) (C : wk_C X (vC G) cT_write RT 6 3 70) {v1 : Nat} {v2 : Int32} {v3 : Int32} {v4 : Nat} {h : Hp} {q : Int32 × Hp} (k_v1 : cNum v1) (k_v4 : cLine v4) (hf : f_T_write v1 v2 v3 v4 h = some q) (hq : wk_Q X (vC G) (some (.int q.1)) q.2 (some .int)) : WW X (vC G) h 0 [(0, .ref (cad G 27)), (1, .ref (cad G v1)), (2, .int v2), (3, .int v3), (4, .ref (cad G v4))] [] := by
  unfold f_T_write at hf
  refine wk_aload_n C 1 dT_write_0 rfl rfl ?_
  obtain ⟨r1, h1, e_1, hf⟩ := bd_some hf
  refine wk_callV (As := []) (rest := []) C lw_good cw_T_9 wi_N_firstPower (m_N_firstPower hI k_v1 e_1) (lz_cNum k_v1) (he_cNum k_v1) rfl rfl rfl (Nat.le_of_ble_eq_true rfl) (by decide) dT_write_1 ?_
  refine wk_istore C dT_write_4 (by decide) ?_
  refine wk_iload C dT_write_6 rfl ?_
  refine wk_sipush C dT_write_8 ksipush_999 ?_
  refine wk_icmp_gt (tgt := 22) C dT_write_11 rfl hf (fun c_11 hf => ?_) (fun c_11 hf => ?_)
  · refine wk_bipush C dT_write_22 kbipush_42 ?_
    cases hf
    exact wk_ireturn C hq dT_write_24
  · refine wk_iload C dT_write_14 rfl ?_
    refine wk_sipush C dT_write_16 ksipush_m999 ?_
    refine wk_icmp_ge (tgt := 25) C dT_write_19 rfl hf (fun c_19 hf => ?_) (fun c_19 hf => ?_)
    · refine wk_aload C dT_write_25 rfl ?_
      refine wk_iconst C dT_write_27 kiconst_0 ?_
      refine pf_T_15 C k_v4 dT_write_28 ?_
      refine wk_aload_n C 1 dT_write_31 rfl rfl ?_
      obtain ⟨r32, h32, e_32, hf⟩ := bd_some hf
      refine wk_callV (As := []) (rest := []) C lw_good cw_T_21 wi_N_ahead (m_N_ahead hI k_v1 e_32) (lz_cNum k_v1) (he_cNum k_v1) rfl rfl rfl (Nat.le_of_ble_eq_true rfl) (by decide) dT_write_32 ?_
      refine wk_iload_n C 2 dT_write_35 rfl rfl ?_
      refine wk_icmp_gt (tgt := 63) C dT_write_36 rfl hf (fun c_36 hf => ?_) (fun c_36 hf => ?_)
      · refine wk_aload_n C 0 dT_write_63 rfl rfl ?_
        refine wk_aload_n C 1 dT_write_64 rfl rfl ?_
        refine wk_iload_n C 3 dT_write_65 rfl rfl ?_
        refine wk_aload C dT_write_66 rfl ?_
        obtain ⟨r68, h68, e_68, hf⟩ := bd_some hf
        refine wk_callV (As := [.ref (cad G v1), .int v3, .ref (cad G v4)]) (rest := []) C lw_good cw_T_33 wi_T_addWithExponent (m_T_addWithExponent hI k_v1 k_v4 e_68) lz_27 (he_27 G (h32 27)) rfl rfl rfl (Nat.le_of_ble_eq_true rfl) (by decide) dT_write_68 ?_
        refine wk_iconst C dT_write_71 kiconst_0 ?_
        cases hf
        exact wk_ireturn C hq dT_write_72
      · refine wk_aload_n C 1 dT_write_39 rfl rfl ?_
        obtain ⟨r40, h40, e_40, hf⟩ := bd_some hf
        refine wk_callV (As := []) (rest := []) C lw_good cw_T_24 wi_N_places (m_N_places hI k_v1 e_40) (lz_cNum k_v1) (he_cNum k_v1) rfl rfl rfl (Nat.le_of_ble_eq_true rfl) (by decide) dT_write_40 ?_
        refine wk_iconst C dT_write_43 kiconst_2 ?_
        refine wk_iload_n C 2 dT_write_44 rfl rfl ?_
        refine wk_imul C dT_write_45 ?_
        refine wk_icmp_gt (tgt := 63) C dT_write_46 rfl hf (fun c_46 hf => ?_) (fun c_46 hf => ?_)
        · refine wk_aload_n C 0 dT_write_63 rfl rfl ?_
          refine wk_aload_n C 1 dT_write_64 rfl rfl ?_
          refine wk_iload_n C 3 dT_write_65 rfl rfl ?_
          refine wk_aload C dT_write_66 rfl ?_
          obtain ⟨r68, h68, e_68, hf⟩ := bd_some hf
          refine wk_callV (As := [.ref (cad G v1), .int v3, .ref (cad G v4)]) (rest := []) C lw_good cw_T_33 wi_T_addWithExponent (m_T_addWithExponent hI k_v1 k_v4 e_68) lz_27 (he_27 G (h40 27)) rfl rfl rfl (Nat.le_of_ble_eq_true rfl) (by decide) dT_write_68 ?_
          refine wk_iconst C dT_write_71 kiconst_0 ?_
          cases hf
          exact wk_ireturn C hq dT_write_72
        · refine wk_aload_n C 0 dT_write_49 rfl rfl ?_
          refine wk_aload_n C 1 dT_write_50 rfl rfl ?_
          refine wk_aload_n C 1 dT_write_51 rfl rfl ?_
          obtain ⟨r52, h52, e_52, hf⟩ := bd_some hf
          refine wk_callV (As := []) (rest := [.ref (cad G v1), .ref (cad G 27)]) C lw_good cw_T_24 wi_N_places (m_N_places hI k_v1 e_52) (lz_cNum k_v1) (he_cNum k_v1) rfl rfl rfl (Nat.le_of_ble_eq_true rfl) (by decide) dT_write_52 ?_
          refine wk_aload C dT_write_55 rfl ?_
          obtain ⟨r57, h57, e_57, hf⟩ := bd_some hf
          refine wk_callV (As := [.ref (cad G v1), .int r52, .ref (cad G v4)]) (rest := []) C lw_good cw_T_27 wi_T_addPlain (m_T_addPlain hI k_v1 k_v4 e_57) lz_27 (he_27 G (h52 27)) rfl rfl rfl (Nat.le_of_ble_eq_true rfl) (by decide) dT_write_57 ?_
          refine wk_goto (tgt := 71) C dT_write_60 rfl ?_
          refine wk_iconst C dT_write_71 kiconst_0 ?_
          cases hf
          exact wk_ireturn C hq dT_write_72
    · refine wk_bipush C dT_write_22 kbipush_42 ?_
      cases hf
      exact wk_ireturn C hq dT_write_24
theorem m_T_write {l : Launch} {G : cGt} (hI : wd_inj (vC G)) {v1 : Nat} {v2 : Int32} {v3 : Int32} {v4 : Nat} {h h' : Hp} {r : Int32} (k_v1 : cNum v1) (k_v4 : cLine v4) (hf : f_T_write v1 v2 v3 v4 h = some (r, h')) : wk_M l (vC G) yT_write cT_write 6 (some .int) 3 70 [.ref (cad G 27), .ref (cad G v1), .int v2, .int v3, .ref (cad G v4)] h (some (.int r)) h' :=
  wk_met hI (by decide +kernel) rfl (Nat.le_of_ble_eq_true rfl) (wk_cat1 rfl) (fun X hX C hq => by subst hX; exact b_T_write hI C k_v1 k_v4 hf hq)
