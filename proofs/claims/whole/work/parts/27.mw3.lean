theorem dM_keep_0 : decode cM_keep 0 = .ok (.aload_n 0, 1) := by decide +kernel
theorem dM_keep_1 : decode cM_keep 1 = .ok (.getfield 16, 3) := by decide +kernel
theorem dM_keep_4 : decode cM_keep 4 = .ok (.iload_n 1, 1) := by decide +kernel
theorem dM_keep_5 : decode cM_keep 5 = .ok (.aload_n 0, 1) := by decide +kernel
theorem dM_keep_6 : decode cM_keep 6 = .ok (.getfield 86, 3) := by decide +kernel
theorem dM_keep_9 : decode cM_keep 9 = .ok (.iastore, 1) := by decide +kernel
theorem dM_keep_10 : decode cM_keep 10 = .ok (.iconst 0, 1) := by decide +kernel
theorem dM_keep_11 : decode cM_keep 11 = .ok (.istore_n 2, 1) := by decide +kernel
theorem dM_keep_12 : decode cM_keep 12 = .ok (.iload_n 2, 1) := by decide +kernel
theorem dM_keep_13 : decode cM_keep 13 = .ok (.aload_n 0, 1) := by decide +kernel
theorem dM_keep_14 : decode cM_keep 14 = .ok (.getfield 86, 3) := by decide +kernel
theorem dM_keep_17 : decode cM_keep 17 = .ok (.if_icmp .ge 27, 3) := by decide +kernel
theorem dM_keep_20 : decode cM_keep 20 = .ok (.aload_n 0, 1) := by decide +kernel
theorem dM_keep_21 : decode cM_keep 21 = .ok (.getfield 13, 3) := by decide +kernel
theorem dM_keep_24 : decode cM_keep 24 = .ok (.sipush 200, 3) := by decide +kernel
theorem dM_keep_27 : decode cM_keep 27 = .ok (.iload_n 1, 1) := by decide +kernel
theorem dM_keep_28 : decode cM_keep 28 = .ok (.imul, 1) := by decide +kernel
theorem dM_keep_29 : decode cM_keep 29 = .ok (.iload_n 2, 1) := by decide +kernel
theorem dM_keep_30 : decode cM_keep 30 = .ok (.iadd, 1) := by decide +kernel
theorem dM_keep_31 : decode cM_keep 31 = .ok (.aload_n 0, 1) := by decide +kernel
theorem dM_keep_32 : decode cM_keep 32 = .ok (.getfield 38, 3) := by decide +kernel
theorem dM_keep_35 : decode cM_keep 35 = .ok (.iload_n 2, 1) := by decide +kernel
theorem dM_keep_36 : decode cM_keep 36 = .ok (.iaload, 1) := by decide +kernel
theorem dM_keep_37 : decode cM_keep 37 = .ok (.iastore, 1) := by decide +kernel
theorem dM_keep_38 : decode cM_keep 38 = .ok (.iinc 2 1, 3) := by decide +kernel
theorem dM_keep_41 : decode cM_keep 41 = .ok (.goto (-29), 3) := by decide +kernel
theorem dM_keep_44 : decode cM_keep 44 = .ok (.aload_n 0, 1) := by decide +kernel
theorem dM_keep_45 : decode cM_keep 45 = .ok (.getfield 86, 3) := by decide +kernel
theorem dM_keep_48 : decode cM_keep 48 = .ok (.ireturn, 1) := by decide +kernel
theorem dM_answer_0 : decode cM_answer 0 = .ok (.aload_n 0, 1) := by decide +kernel
theorem dM_answer_1 : decode cM_answer 1 = .ok (.iload_n 1, 1) := by decide +kernel
theorem dM_answer_2 : decode cM_answer 2 = .ok (.invokevirtual 96, 3) := by decide +kernel
theorem dM_answer_5 : decode cM_answer 5 = .ok (.istore_n 3, 1) := by decide +kernel
theorem dM_answer_6 : decode cM_answer 6 = .ok (.iload_n 3, 1) := by decide +kernel
theorem dM_answer_7 : decode cM_answer 7 = .ok (.ifCond .le 8, 3) := by decide +kernel
theorem dM_answer_10 : decode cM_answer 10 = .ok (.iload_n 3, 1) := by decide +kernel
theorem dM_answer_11 : decode cM_answer 11 = .ok (.ineg, 1) := by decide +kernel
theorem dM_answer_12 : decode cM_answer 12 = .ok (.goto 8, 3) := by decide +kernel
theorem dM_answer_15 : decode cM_answer 15 = .ok (.aload_n 0, 1) := by decide +kernel
theorem dM_answer_16 : decode cM_answer 16 = .ok (.iload_n 2, 1) := by decide +kernel
theorem dM_answer_17 : decode cM_answer 17 = .ok (.invokevirtual 99, 3) := by decide +kernel
theorem dM_answer_20 : decode cM_answer 20 = .ok (.ireturn, 1) := by decide +kernel
theorem dM_isWhole_0 : decode cM_isWhole 0 = .ok (.aload_n 0, 1) := by decide +kernel
theorem dM_isWhole_1 : decode cM_isWhole 1 = .ok (.iload_n 1, 1) := by decide +kernel
theorem dM_isWhole_2 : decode cM_isWhole 2 = .ok (.aload_n 0, 1) := by decide +kernel
theorem dM_isWhole_3 : decode cM_isWhole 3 = .ok (.getfield 19, 3) := by decide +kernel
theorem dM_isWhole_6 : decode cM_isWhole 6 = .ok (.invokevirtual 102, 3) := by decide +kernel
theorem dM_isWhole_9 : decode cM_isWhole 9 = .ok (.aload_n 0, 1) := by decide +kernel
theorem dM_isWhole_10 : decode cM_isWhole 10 = .ok (.getfield 32, 3) := by decide +kernel
theorem dM_isWhole_13 : decode cM_isWhole 13 = .ok (.iload_n 1, 1) := by decide +kernel
theorem dM_isWhole_14 : decode cM_isWhole 14 = .ok (.iaload, 1) := by decide +kernel
theorem dM_isWhole_15 : decode cM_isWhole 15 = .ok (.ifCond .ne 5, 3) := by decide +kernel
theorem dM_isWhole_18 : decode cM_isWhole 18 = .ok (.iconst 1, 1) := by decide +kernel
theorem dM_isWhole_19 : decode cM_isWhole 19 = .ok (.ireturn, 1) := by decide +kernel
theorem dM_isWhole_20 : decode cM_isWhole 20 = .ok (.aload_n 0, 1) := by decide +kernel
theorem dM_isWhole_21 : decode cM_isWhole 21 = .ok (.iload_n 1, 1) := by decide +kernel
theorem dM_isWhole_22 : decode cM_isWhole 22 = .ok (.invokevirtual 67, 3) := by decide +kernel
theorem dM_isWhole_25 : decode cM_isWhole 25 = .ok (.bipush 8, 2) := by decide +kernel
theorem dM_isWhole_27 : decode cM_isWhole 27 = .ok (.if_icmp .le 5, 3) := by decide +kernel
theorem dM_isWhole_30 : decode cM_isWhole 30 = .ok (.iconst 0, 1) := by decide +kernel
theorem dM_isWhole_31 : decode cM_isWhole 31 = .ok (.ireturn, 1) := by decide +kernel
theorem dM_isWhole_32 : decode cM_isWhole 32 = .ok (.iconst (-1), 1) := by decide +kernel
theorem dM_isWhole_33 : decode cM_isWhole 33 = .ok (.istore_n 2, 1) := by decide +kernel
theorem dM_isWhole_34 : decode cM_isWhole 34 = .ok (.iload_n 2, 1) := by decide +kernel
theorem dM_isWhole_35 : decode cM_isWhole 35 = .ok (.aload_n 0, 1) := by decide +kernel
theorem dM_isWhole_36 : decode cM_isWhole 36 = .ok (.getfield 29, 3) := by decide +kernel
theorem dM_isWhole_39 : decode cM_isWhole 39 = .ok (.iload_n 1, 1) := by decide +kernel
theorem dM_isWhole_40 : decode cM_isWhole 40 = .ok (.iaload, 1) := by decide +kernel
theorem dM_isWhole_41 : decode cM_isWhole 41 = .ok (.if_icmp .lt 20, 3) := by decide +kernel
theorem dM_isWhole_44 : decode cM_isWhole 44 = .ok (.aload_n 0, 1) := by decide +kernel
theorem dM_isWhole_45 : decode cM_isWhole 45 = .ok (.iload_n 1, 1) := by decide +kernel
theorem dM_isWhole_46 : decode cM_isWhole 46 = .ok (.iload_n 2, 1) := by decide +kernel
theorem dM_isWhole_47 : decode cM_isWhole 47 = .ok (.invokevirtual 75, 3) := by decide +kernel
theorem dM_isWhole_50 : decode cM_isWhole 50 = .ok (.ifCond .eq 5, 3) := by decide +kernel
theorem dM_isWhole_53 : decode cM_isWhole 53 = .ok (.iconst 0, 1) := by decide +kernel
theorem dM_isWhole_54 : decode cM_isWhole 54 = .ok (.ireturn, 1) := by decide +kernel
theorem dM_isWhole_55 : decode cM_isWhole 55 = .ok (.iinc 2 (-1), 3) := by decide +kernel
theorem dM_isWhole_58 : decode cM_isWhole 58 = .ok (.goto (-24), 3) := by decide +kernel
theorem dM_isWhole_61 : decode cM_isWhole 61 = .ok (.iconst 1, 1) := by decide +kernel
theorem dM_isWhole_62 : decode cM_isWhole 62 = .ok (.ireturn, 1) := by decide +kernel
theorem dM_valueOf_0 : decode cM_valueOf 0 = .ok (.iconst 0, 1) := by decide +kernel
theorem dM_valueOf_1 : decode cM_valueOf 1 = .ok (.istore_n 2, 1) := by decide +kernel
theorem dM_valueOf_2 : decode cM_valueOf 2 = .ok (.aload_n 0, 1) := by decide +kernel
theorem dM_valueOf_3 : decode cM_valueOf 3 = .ok (.iload_n 1, 1) := by decide +kernel
theorem dM_valueOf_4 : decode cM_valueOf 4 = .ok (.invokevirtual 67, 3) := by decide +kernel
theorem dM_valueOf_7 : decode cM_valueOf 7 = .ok (.istore_n 3, 1) := by decide +kernel
theorem dM_valueOf_8 : decode cM_valueOf 8 = .ok (.iload_n 3, 1) := by decide +kernel
theorem dM_valueOf_9 : decode cM_valueOf 9 = .ok (.ifCond .lt 21, 3) := by decide +kernel
theorem dM_valueOf_12 : decode cM_valueOf 12 = .ok (.bipush 10, 2) := by decide +kernel
theorem dM_valueOf_14 : decode cM_valueOf 14 = .ok (.iload_n 2, 1) := by decide +kernel
theorem dM_valueOf_15 : decode cM_valueOf 15 = .ok (.imul, 1) := by decide +kernel
theorem dM_valueOf_16 : decode cM_valueOf 16 = .ok (.aload_n 0, 1) := by decide +kernel
theorem dM_valueOf_17 : decode cM_valueOf 17 = .ok (.iload_n 1, 1) := by decide +kernel
theorem dM_valueOf_18 : decode cM_valueOf 18 = .ok (.iload_n 3, 1) := by decide +kernel
theorem dM_valueOf_19 : decode cM_valueOf 19 = .ok (.invokevirtual 75, 3) := by decide +kernel
theorem dM_valueOf_22 : decode cM_valueOf 22 = .ok (.iadd, 1) := by decide +kernel
theorem dM_valueOf_23 : decode cM_valueOf 23 = .ok (.istore_n 2, 1) := by decide +kernel
theorem dM_valueOf_24 : decode cM_valueOf 24 = .ok (.iinc 3 (-1), 3) := by decide +kernel
theorem dM_valueOf_27 : decode cM_valueOf 27 = .ok (.goto (-19), 3) := by decide +kernel
theorem dM_valueOf_30 : decode cM_valueOf 30 = .ok (.aload_n 0, 1) := by decide +kernel
theorem dM_valueOf_31 : decode cM_valueOf 31 = .ok (.getfield 32, 3) := by decide +kernel
theorem dM_valueOf_34 : decode cM_valueOf 34 = .ok (.iload_n 1, 1) := by decide +kernel
theorem dM_valueOf_35 : decode cM_valueOf 35 = .ok (.iaload, 1) := by decide +kernel
theorem dM_valueOf_36 : decode cM_valueOf 36 = .ok (.ifCond .ge 8, 3) := by decide +kernel
theorem dM_valueOf_39 : decode cM_valueOf 39 = .ok (.iload_n 2, 1) := by decide +kernel
theorem dM_valueOf_40 : decode cM_valueOf 40 = .ok (.ineg, 1) := by decide +kernel
theorem dM_valueOf_41 : decode cM_valueOf 41 = .ok (.goto 4, 3) := by decide +kernel
theorem dM_valueOf_44 : decode cM_valueOf 44 = .ok (.iload_n 2, 1) := by decide +kernel
theorem dM_valueOf_45 : decode cM_valueOf 45 = .ok (.ireturn, 1) := by decide +kernel
theorem dM_raise_0 : decode cM_raise 0 = .ok (.iload_n 1, 1) := by decide +kernel
theorem dM_raise_1 : decode cM_raise 1 = .ok (.ifCond .ge 8, 3) := by decide +kernel
theorem dM_raise_4 : decode cM_raise 4 = .ok (.iload_n 1, 1) := by decide +kernel
theorem dM_raise_5 : decode cM_raise 5 = .ok (.ineg, 1) := by decide +kernel
theorem dM_raise_6 : decode cM_raise 6 = .ok (.goto 4, 3) := by decide +kernel
theorem dM_raise_9 : decode cM_raise 9 = .ok (.iload_n 1, 1) := by decide +kernel
theorem dM_raise_10 : decode cM_raise 10 = .ok (.istore_n 2, 1) := by decide +kernel
theorem dM_raise_11 : decode cM_raise 11 = .ok (.aload_n 0, 1) := by decide +kernel
theorem dM_raise_12 : decode cM_raise 12 = .ok (.getfield 19, 3) := by decide +kernel
theorem dM_raise_15 : decode cM_raise 15 = .ok (.iconst 1, 1) := by decide +kernel
theorem dM_raise_16 : decode cM_raise 16 = .ok (.iadd, 1) := by decide +kernel
theorem dM_raise_17 : decode cM_raise 17 = .ok (.iload_n 2, 1) := by decide +kernel
theorem dM_raise_18 : decode cM_raise 18 = .ok (.bipush 99, 2) := by decide +kernel
theorem dM_raise_20 : decode cM_raise 20 = .ok (.if_icmp .le 7, 3) := by decide +kernel
theorem dM_raise_23 : decode cM_raise 23 = .ok (.iconst 3, 1) := by decide +kernel
theorem dM_raise_24 : decode cM_raise 24 = .ok (.goto 14, 3) := by decide +kernel
theorem dM_raise_27 : decode cM_raise 27 = .ok (.iload_n 2, 1) := by decide +kernel
theorem dM_raise_28 : decode cM_raise 28 = .ok (.bipush 9, 2) := by decide +kernel
theorem dM_raise_30 : decode cM_raise 30 = .ok (.if_icmp .le 7, 3) := by decide +kernel
theorem dM_raise_33 : decode cM_raise 33 = .ok (.iconst 2, 1) := by decide +kernel
theorem dM_raise_34 : decode cM_raise 34 = .ok (.goto 4, 3) := by decide +kernel
theorem dM_raise_37 : decode cM_raise 37 = .ok (.iconst 1, 1) := by decide +kernel
theorem dM_raise_38 : decode cM_raise 38 = .ok (.iadd, 1) := by decide +kernel
theorem dM_raise_39 : decode cM_raise 39 = .ok (.istore_n 3, 1) := by decide +kernel
theorem dM_raise_40 : decode cM_raise 40 = .ok (.aload_n 0, 1) := by decide +kernel
theorem dM_raise_41 : decode cM_raise 41 = .ok (.getfield 32, 3) := by decide +kernel
theorem dM_raise_44 : decode cM_raise 44 = .ok (.iconst 0, 1) := by decide +kernel
theorem dM_raise_45 : decode cM_raise 45 = .ok (.iaload, 1) := by decide +kernel
theorem dM_raise_46 : decode cM_raise 46 = .ok (.ifCond .ne 10, 3) := by decide +kernel
theorem dM_raise_49 : decode cM_raise 49 = .ok (.iload_n 1, 1) := by decide +kernel
theorem dM_raise_50 : decode cM_raise 50 = .ok (.ifCond .ge 6, 3) := by decide +kernel
theorem dM_raise_53 : decode cM_raise 53 = .ok (.bipush 42, 2) := by decide +kernel
theorem dM_raise_55 : decode cM_raise 55 = .ok (.ireturn, 1) := by decide +kernel
theorem dM_raise_56 : decode cM_raise 56 = .ok (.aload_n 0, 1) := by decide +kernel
theorem dM_raise_57 : decode cM_raise 57 = .ok (.iconst 2, 1) := by decide +kernel
theorem dM_raise_58 : decode cM_raise 58 = .ok (.invokevirtual 58, 3) := by decide +kernel
theorem dM_raise_61 : decode cM_raise 61 = .ok (.aload_n 0, 1) := by decide +kernel
theorem dM_raise_62 : decode cM_raise 62 = .ok (.getfield 32, 3) := by decide +kernel
theorem dM_raise_65 : decode cM_raise 65 = .ok (.iconst 2, 1) := by decide +kernel
theorem dM_raise_66 : decode cM_raise 66 = .ok (.iconst 1, 1) := by decide +kernel
theorem dM_raise_67 : decode cM_raise 67 = .ok (.iastore, 1) := by decide +kernel
theorem dM_raise_68 : decode cM_raise 68 = .ok (.aload_n 0, 1) := by decide +kernel
theorem dM_raise_69 : decode cM_raise 69 = .ok (.getfield 23, 3) := by decide +kernel
theorem dM_raise_72 : decode cM_raise 72 = .ok (.sipush 5200, 3) := by decide +kernel
theorem dM_raise_75 : decode cM_raise 75 = .ok (.iconst 1, 1) := by decide +kernel
theorem dM_raise_76 : decode cM_raise 76 = .ok (.iastore, 1) := by decide +kernel
theorem dM_raise_77 : decode cM_raise 77 = .ok (.bipush 9, 2) := by decide +kernel
theorem dM_raise_79 : decode cM_raise 79 = .ok (.istore 4, 2) := by decide +kernel
theorem dM_raise_81 : decode cM_raise 81 = .ok (.iload 4, 2) := by decide +kernel
theorem dM_raise_83 : decode cM_raise 83 = .ok (.ifCond .lt 69, 3) := by decide +kernel
theorem dM_raise_86 : decode cM_raise 86 = .ok (.iload_n 2, 1) := by decide +kernel
theorem dM_raise_87 : decode cM_raise 87 = .ok (.iload 4, 2) := by decide +kernel
theorem dM_raise_89 : decode cM_raise 89 = .ok (.ishr, 1) := by decide +kernel
theorem dM_raise_90 : decode cM_raise 90 = .ok (.ifCond .ne 6, 3) := by decide +kernel
theorem dM_raise_93 : decode cM_raise 93 = .ok (.goto 53, 3) := by decide +kernel
theorem dM_raise_96 : decode cM_raise 96 = .ok (.aload_n 0, 1) := by decide +kernel
theorem dM_raise_97 : decode cM_raise 97 = .ok (.iconst 2, 1) := by decide +kernel
theorem dM_raise_98 : decode cM_raise 98 = .ok (.iconst 2, 1) := by decide +kernel
theorem dM_raise_99 : decode cM_raise 99 = .ok (.iconst 3, 1) := by decide +kernel
theorem dM_raise_100 : decode cM_raise 100 = .ok (.invokevirtual 105, 3) := by decide +kernel
theorem dM_raise_103 : decode cM_raise 103 = .ok (.aload_n 0, 1) := by decide +kernel
theorem dM_raise_104 : decode cM_raise 104 = .ok (.iconst 3, 1) := by decide +kernel
theorem dM_raise_105 : decode cM_raise 105 = .ok (.iload_n 3, 1) := by decide +kernel
theorem dM_raise_106 : decode cM_raise 106 = .ok (.invokevirtual 102, 3) := by decide +kernel
theorem dM_raise_109 : decode cM_raise 109 = .ok (.aload_n 0, 1) := by decide +kernel
theorem dM_raise_110 : decode cM_raise 110 = .ok (.iconst 3, 1) := by decide +kernel
theorem dM_raise_111 : decode cM_raise 111 = .ok (.iconst 2, 1) := by decide +kernel
theorem dM_raise_112 : decode cM_raise 112 = .ok (.invokevirtual 71, 3) := by decide +kernel
theorem dM_raise_115 : decode cM_raise 115 = .ok (.iload_n 2, 1) := by decide +kernel
theorem dM_raise_116 : decode cM_raise 116 = .ok (.iload 4, 2) := by decide +kernel
theorem dM_raise_118 : decode cM_raise 118 = .ok (.ishr, 1) := by decide +kernel
theorem dM_raise_119 : decode cM_raise 119 = .ok (.iconst 1, 1) := by decide +kernel
theorem dM_raise_120 : decode cM_raise 120 = .ok (.iand, 1) := by decide +kernel
theorem dM_raise_121 : decode cM_raise 121 = .ok (.ifCond .ne 6, 3) := by decide +kernel
theorem dM_raise_124 : decode cM_raise 124 = .ok (.goto 22, 3) := by decide +kernel
theorem dM_raise_127 : decode cM_raise 127 = .ok (.aload_n 0, 1) := by decide +kernel
theorem dM_raise_128 : decode cM_raise 128 = .ok (.iconst 2, 1) := by decide +kernel
theorem dM_raise_129 : decode cM_raise 129 = .ok (.iconst 0, 1) := by decide +kernel
theorem dM_raise_130 : decode cM_raise 130 = .ok (.iconst 3, 1) := by decide +kernel
theorem dM_raise_131 : decode cM_raise 131 = .ok (.invokevirtual 105, 3) := by decide +kernel
theorem dM_raise_134 : decode cM_raise 134 = .ok (.aload_n 0, 1) := by decide +kernel
theorem dM_raise_135 : decode cM_raise 135 = .ok (.iconst 3, 1) := by decide +kernel
theorem dM_raise_136 : decode cM_raise 136 = .ok (.iload_n 3, 1) := by decide +kernel
theorem dM_raise_137 : decode cM_raise 137 = .ok (.invokevirtual 102, 3) := by decide +kernel
theorem dM_raise_140 : decode cM_raise 140 = .ok (.aload_n 0, 1) := by decide +kernel
theorem dM_raise_141 : decode cM_raise 141 = .ok (.iconst 3, 1) := by decide +kernel
theorem dM_raise_142 : decode cM_raise 142 = .ok (.iconst 2, 1) := by decide +kernel
theorem dM_raise_143 : decode cM_raise 143 = .ok (.invokevirtual 71, 3) := by decide +kernel
theorem dM_raise_146 : decode cM_raise 146 = .ok (.iinc 4 (-1), 3) := by decide +kernel
theorem dM_raise_149 : decode cM_raise 149 = .ok (.goto (-68), 3) := by decide +kernel
theorem dM_raise_152 : decode cM_raise 152 = .ok (.iload_n 1, 1) := by decide +kernel
theorem dM_raise_153 : decode cM_raise 153 = .ok (.ifCond .ge 49, 3) := by decide +kernel
theorem dM_raise_156 : decode cM_raise 156 = .ok (.aload_n 0, 1) := by decide +kernel
theorem dM_raise_157 : decode cM_raise 157 = .ok (.iconst 4, 1) := by decide +kernel
theorem dM_raise_158 : decode cM_raise 158 = .ok (.invokevirtual 58, 3) := by decide +kernel
theorem dM_raise_161 : decode cM_raise 161 = .ok (.aload_n 0, 1) := by decide +kernel
theorem dM_raise_162 : decode cM_raise 162 = .ok (.getfield 32, 3) := by decide +kernel
theorem dM_raise_165 : decode cM_raise 165 = .ok (.iconst 4, 1) := by decide +kernel
theorem dM_raise_166 : decode cM_raise 166 = .ok (.iconst 1, 1) := by decide +kernel
theorem dM_raise_167 : decode cM_raise 167 = .ok (.iastore, 1) := by decide +kernel
theorem dM_raise_168 : decode cM_raise 168 = .ok (.aload_n 0, 1) := by decide +kernel
theorem dM_raise_169 : decode cM_raise 169 = .ok (.getfield 23, 3) := by decide +kernel
theorem dM_raise_172 : decode cM_raise 172 = .ok (.sipush 10400, 3) := by decide +kernel
theorem dM_raise_175 : decode cM_raise 175 = .ok (.iconst 1, 1) := by decide +kernel
theorem dM_raise_176 : decode cM_raise 176 = .ok (.iastore, 1) := by decide +kernel
theorem dM_raise_177 : decode cM_raise 177 = .ok (.aload_n 0, 1) := by decide +kernel
theorem dM_raise_178 : decode cM_raise 178 = .ok (.iconst 4, 1) := by decide +kernel
theorem dM_raise_179 : decode cM_raise 179 = .ok (.iconst 2, 1) := by decide +kernel
theorem dM_raise_180 : decode cM_raise 180 = .ok (.iload_n 3, 1) := by decide +kernel
theorem dM_raise_181 : decode cM_raise 181 = .ok (.iconst 3, 1) := by decide +kernel
theorem dM_raise_182 : decode cM_raise 182 = .ok (.invokevirtual 82, 3) := by decide +kernel
theorem dM_raise_185 : decode cM_raise 185 = .ok (.aload_n 0, 1) := by decide +kernel
theorem dM_raise_186 : decode cM_raise 186 = .ok (.iconst 3, 1) := by decide +kernel
theorem dM_raise_187 : decode cM_raise 187 = .ok (.iload_n 3, 1) := by decide +kernel
theorem dM_raise_188 : decode cM_raise 188 = .ok (.invokevirtual 102, 3) := by decide +kernel
theorem dM_raise_191 : decode cM_raise 191 = .ok (.aload_n 0, 1) := by decide +kernel
theorem dM_raise_192 : decode cM_raise 192 = .ok (.iconst 3, 1) := by decide +kernel
theorem dM_raise_193 : decode cM_raise 193 = .ok (.invokevirtual 108, 3) := by decide +kernel
theorem dM_raise_196 : decode cM_raise 196 = .ok (.aload_n 0, 1) := by decide +kernel
theorem dM_raise_197 : decode cM_raise 197 = .ok (.iconst 3, 1) := by decide +kernel
theorem dM_raise_198 : decode cM_raise 198 = .ok (.iconst 2, 1) := by decide +kernel
theorem dM_raise_199 : decode cM_raise 199 = .ok (.invokevirtual 71, 3) := by decide +kernel
theorem dM_raise_202 : decode cM_raise 202 = .ok (.aload_n 0, 1) := by decide +kernel
theorem dM_raise_203 : decode cM_raise 203 = .ok (.iconst 2, 1) := by decide +kernel
theorem dM_raise_204 : decode cM_raise 204 = .ok (.aload_n 0, 1) := by decide +kernel
theorem dM_raise_205 : decode cM_raise 205 = .ok (.getfield 19, 3) := by decide +kernel
theorem dM_raise_208 : decode cM_raise 208 = .ok (.invokevirtual 102, 3) := by decide +kernel
theorem dM_raise_211 : decode cM_raise 211 = .ok (.aload_n 0, 1) := by decide +kernel
theorem dM_raise_212 : decode cM_raise 212 = .ok (.iconst 2, 1) := by decide +kernel
theorem dM_raise_213 : decode cM_raise 213 = .ok (.invokevirtual 108, 3) := by decide +kernel
theorem dM_raise_216 : decode cM_raise 216 = .ok (.iconst 0, 1) := by decide +kernel
theorem dM_raise_217 : decode cM_raise 217 = .ok (.ireturn, 1) := by decide +kernel
theorem dM_worked_0 : decode cM_worked 0 = .ok (.iload_n 1, 1) := by decide +kernel
theorem dM_worked_1 : decode cM_worked 1 = .ok (.tableswitch 147 0 5 #[39, 50, 61, 71, 99, 116], 39) := by decide +kernel
theorem dM_worked_40 : decode cM_worked 40 = .ok (.aload_n 0, 1) := by decide +kernel
theorem dM_worked_41 : decode cM_worked 41 = .ok (.iconst 0, 1) := by decide +kernel
theorem dM_worked_42 : decode cM_worked 42 = .ok (.iconst 1, 1) := by decide +kernel
theorem dM_worked_43 : decode cM_worked 43 = .ok (.iconst 0, 1) := by decide +kernel
theorem dM_worked_44 : decode cM_worked 44 = .ok (.iconst 2, 1) := by decide +kernel
theorem dM_worked_45 : decode cM_worked 45 = .ok (.invokevirtual 111, 3) := by decide +kernel
theorem dM_worked_48 : decode cM_worked 48 = .ok (.goto 106, 3) := by decide +kernel
theorem dM_worked_51 : decode cM_worked 51 = .ok (.aload_n 0, 1) := by decide +kernel
theorem dM_worked_52 : decode cM_worked 52 = .ok (.iconst 0, 1) := by decide +kernel
theorem dM_worked_53 : decode cM_worked 53 = .ok (.iconst 1, 1) := by decide +kernel
theorem dM_worked_54 : decode cM_worked 54 = .ok (.iconst 1, 1) := by decide +kernel
theorem dM_worked_55 : decode cM_worked 55 = .ok (.iconst 2, 1) := by decide +kernel
theorem dM_worked_56 : decode cM_worked 56 = .ok (.invokevirtual 111, 3) := by decide +kernel
theorem dM_worked_59 : decode cM_worked 59 = .ok (.goto 95, 3) := by decide +kernel
theorem dM_worked_62 : decode cM_worked 62 = .ok (.aload_n 0, 1) := by decide +kernel
theorem dM_worked_63 : decode cM_worked 63 = .ok (.iconst 0, 1) := by decide +kernel
theorem dM_worked_64 : decode cM_worked 64 = .ok (.iconst 1, 1) := by decide +kernel
theorem dM_worked_65 : decode cM_worked 65 = .ok (.iconst 2, 1) := by decide +kernel
theorem dM_worked_66 : decode cM_worked 66 = .ok (.invokevirtual 105, 3) := by decide +kernel
theorem dM_worked_69 : decode cM_worked 69 = .ok (.goto 85, 3) := by decide +kernel
theorem dM_worked_72 : decode cM_worked 72 = .ok (.aload_n 0, 1) := by decide +kernel
theorem dM_worked_73 : decode cM_worked 73 = .ok (.iconst 0, 1) := by decide +kernel
theorem dM_worked_74 : decode cM_worked 74 = .ok (.iconst 1, 1) := by decide +kernel
theorem dM_worked_75 : decode cM_worked 75 = .ok (.aload_n 0, 1) := by decide +kernel
theorem dM_worked_76 : decode cM_worked 76 = .ok (.getfield 19, 3) := by decide +kernel
theorem dM_worked_79 : decode cM_worked 79 = .ok (.iconst 2, 1) := by decide +kernel
theorem dM_worked_80 : decode cM_worked 80 = .ok (.invokevirtual 82, 3) := by decide +kernel
theorem dM_worked_83 : decode cM_worked 83 = .ok (.aload_n 0, 1) := by decide +kernel
theorem dM_worked_84 : decode cM_worked 84 = .ok (.iconst 2, 1) := by decide +kernel
theorem dM_worked_85 : decode cM_worked 85 = .ok (.aload_n 0, 1) := by decide +kernel
theorem dM_worked_86 : decode cM_worked 86 = .ok (.getfield 19, 3) := by decide +kernel
theorem dM_worked_89 : decode cM_worked 89 = .ok (.invokevirtual 102, 3) := by decide +kernel
theorem dM_worked_92 : decode cM_worked 92 = .ok (.aload_n 0, 1) := by decide +kernel
theorem dM_worked_93 : decode cM_worked 93 = .ok (.iconst 2, 1) := by decide +kernel
theorem dM_worked_94 : decode cM_worked 94 = .ok (.invokevirtual 108, 3) := by decide +kernel
theorem dM_worked_97 : decode cM_worked 97 = .ok (.goto 57, 3) := by decide +kernel
theorem dM_worked_100 : decode cM_worked 100 = .ok (.aload_n 0, 1) := by decide +kernel
theorem dM_worked_101 : decode cM_worked 101 = .ok (.iconst 0, 1) := by decide +kernel
theorem dM_worked_102 : decode cM_worked 102 = .ok (.iconst 1, 1) := by decide +kernel
theorem dM_worked_103 : decode cM_worked 103 = .ok (.iconst 2, 1) := by decide +kernel
theorem dM_worked_104 : decode cM_worked 104 = .ok (.invokevirtual 115, 3) := by decide +kernel
theorem dM_worked_107 : decode cM_worked 107 = .ok (.ifCond .eq 7, 3) := by decide +kernel
theorem dM_worked_110 : decode cM_worked 110 = .ok (.iconst 0, 1) := by decide +kernel
theorem dM_worked_111 : decode cM_worked 111 = .ok (.goto 5, 3) := by decide +kernel
theorem dM_worked_114 : decode cM_worked 114 = .ok (.bipush 26, 2) := by decide +kernel
theorem dM_worked_116 : decode cM_worked 116 = .ok (.ireturn, 1) := by decide +kernel
theorem dM_worked_117 : decode cM_worked 117 = .ok (.aload_n 0, 1) := by decide +kernel
theorem dM_worked_118 : decode cM_worked 118 = .ok (.iconst 0, 1) := by decide +kernel
theorem dM_worked_119 : decode cM_worked 119 = .ok (.iconst 1, 1) := by decide +kernel
theorem dM_worked_120 : decode cM_worked 120 = .ok (.iconst 2, 1) := by decide +kernel
theorem dM_worked_121 : decode cM_worked 121 = .ok (.invokevirtual 115, 3) := by decide +kernel
theorem dM_worked_124 : decode cM_worked 124 = .ok (.ifCond .ne 6, 3) := by decide +kernel
theorem dM_worked_127 : decode cM_worked 127 = .ok (.bipush 26, 2) := by decide +kernel
theorem dM_worked_129 : decode cM_worked 129 = .ok (.ireturn, 1) := by decide +kernel
theorem dM_worked_130 : decode cM_worked 130 = .ok (.aload_n 0, 1) := by decide +kernel
theorem dM_worked_131 : decode cM_worked 131 = .ok (.iconst 1, 1) := by decide +kernel
theorem dM_worked_132 : decode cM_worked 132 = .ok (.iconst 2, 1) := by decide +kernel
theorem dM_worked_133 : decode cM_worked 133 = .ok (.iconst 3, 1) := by decide +kernel
theorem dM_worked_134 : decode cM_worked 134 = .ok (.invokevirtual 105, 3) := by decide +kernel
theorem dM_worked_137 : decode cM_worked 137 = .ok (.aload_n 0, 1) := by decide +kernel
theorem dM_worked_138 : decode cM_worked 138 = .ok (.iconst 0, 1) := by decide +kernel
theorem dM_worked_139 : decode cM_worked 139 = .ok (.iconst 3, 1) := by decide +kernel
theorem dM_worked_140 : decode cM_worked 140 = .ok (.iconst 1, 1) := by decide +kernel
theorem dM_worked_141 : decode cM_worked 141 = .ok (.iconst 2, 1) := by decide +kernel
theorem dM_worked_142 : decode cM_worked 142 = .ok (.invokevirtual 111, 3) := by decide +kernel
theorem dM_worked_145 : decode cM_worked 145 = .ok (.goto 9, 3) := by decide +kernel
theorem dM_worked_148 : decode cM_worked 148 = .ok (.aload_n 0, 1) := by decide +kernel
theorem dM_worked_149 : decode cM_worked 149 = .ok (.iload_n 2, 1) := by decide +kernel
theorem dM_worked_150 : decode cM_worked 150 = .ok (.invokevirtual 119, 3) := by decide +kernel
theorem dM_worked_153 : decode cM_worked 153 = .ok (.ireturn, 1) := by decide +kernel
theorem dM_worked_154 : decode cM_worked 154 = .ok (.aload_n 0, 1) := by decide +kernel
theorem dM_worked_155 : decode cM_worked 155 = .ok (.iconst 2, 1) := by decide +kernel
theorem dM_worked_156 : decode cM_worked 156 = .ok (.aload_n 0, 1) := by decide +kernel
theorem dM_worked_157 : decode cM_worked 157 = .ok (.getfield 19, 3) := by decide +kernel
theorem dM_worked_160 : decode cM_worked 160 = .ok (.invokevirtual 102, 3) := by decide +kernel
theorem dM_worked_163 : decode cM_worked 163 = .ok (.iconst 0, 1) := by decide +kernel
theorem dM_worked_164 : decode cM_worked 164 = .ok (.ireturn, 1) := by decide +kernel
theorem dM_work_0 : decode cM_work 0 = .ok (.iload_n 2, 1) := by decide +kernel
theorem dM_work_1 : decode cM_work 1 = .ok (.invokestatic 48, 3) := by decide +kernel
theorem dM_work_4 : decode cM_work 4 = .ok (.ifCond .eq 28, 3) := by decide +kernel
theorem dM_work_7 : decode cM_work 7 = .ok (.iload_n 3, 1) := by decide +kernel
theorem dM_work_8 : decode cM_work 8 = .ok (.invokestatic 48, 3) := by decide +kernel
theorem dM_work_11 : decode cM_work 11 = .ok (.ifCond .eq 21, 3) := by decide +kernel
theorem dM_work_14 : decode cM_work 14 = .ok (.iload 4, 2) := by decide +kernel
theorem dM_work_16 : decode cM_work 16 = .ok (.invokestatic 48, 3) := by decide +kernel
theorem dM_work_19 : decode cM_work 19 = .ok (.ifCond .eq 13, 3) := by decide +kernel
theorem dM_work_22 : decode cM_work 22 = .ok (.iload_n 1, 1) := by decide +kernel
theorem dM_work_23 : decode cM_work 23 = .ok (.ifCond .lt 9, 3) := by decide +kernel
theorem dM_work_26 : decode cM_work 26 = .ok (.iload_n 1, 1) := by decide +kernel
theorem dM_work_27 : decode cM_work 27 = .ok (.bipush 6, 2) := by decide +kernel
theorem dM_work_29 : decode cM_work 29 = .ok (.if_icmp .le 5, 3) := by decide +kernel
theorem dM_work_32 : decode cM_work 32 = .ok (.iconst (-1), 1) := by decide +kernel
theorem dM_work_33 : decode cM_work 33 = .ok (.ireturn, 1) := by decide +kernel
theorem dM_work_34 : decode cM_work 34 = .ok (.aload_n 0, 1) := by decide +kernel
theorem dM_work_35 : decode cM_work 35 = .ok (.iload_n 2, 1) := by decide +kernel
theorem dM_work_36 : decode cM_work 36 = .ok (.iconst 0, 1) := by decide +kernel
theorem dM_work_37 : decode cM_work 37 = .ok (.invokevirtual 122, 3) := by decide +kernel
theorem dM_work_40 : decode cM_work 40 = .ok (.ifCond .eq 12, 3) := by decide +kernel
theorem dM_work_43 : decode cM_work 43 = .ok (.aload_n 0, 1) := by decide +kernel
theorem dM_work_44 : decode cM_work 44 = .ok (.iload_n 3, 1) := by decide +kernel
theorem dM_work_45 : decode cM_work 45 = .ok (.iconst 1, 1) := by decide +kernel
theorem dM_work_46 : decode cM_work 46 = .ok (.invokevirtual 122, 3) := by decide +kernel
theorem dM_work_49 : decode cM_work 49 = .ok (.ifCond .ne 6, 3) := by decide +kernel
theorem dM_work_52 : decode cM_work 52 = .ok (.bipush (-41), 2) := by decide +kernel
theorem dM_work_54 : decode cM_work 54 = .ok (.ireturn, 1) := by decide +kernel
theorem dM_work_55 : decode cM_work 55 = .ok (.iconst 0, 1) := by decide +kernel
theorem dM_work_56 : decode cM_work 56 = .ok (.istore 5, 2) := by decide +kernel
theorem dM_work_58 : decode cM_work 58 = .ok (.iload_n 1, 1) := by decide +kernel
theorem dM_work_59 : decode cM_work 59 = .ok (.bipush 6, 2) := by decide +kernel
theorem dM_work_61 : decode cM_work 61 = .ok (.if_icmp .ne 30, 3) := by decide +kernel
theorem dM_work_64 : decode cM_work 64 = .ok (.aload_n 0, 1) := by decide +kernel
theorem dM_work_65 : decode cM_work 65 = .ok (.iconst 1, 1) := by decide +kernel
theorem dM_work_66 : decode cM_work 66 = .ok (.invokevirtual 126, 3) := by decide +kernel
theorem dM_work_69 : decode cM_work 69 = .ok (.ifCond .eq 12, 3) := by decide +kernel
theorem dM_work_72 : decode cM_work 72 = .ok (.aload_n 0, 1) := by decide +kernel
theorem dM_work_73 : decode cM_work 73 = .ok (.iconst 1, 1) := by decide +kernel
theorem dM_work_74 : decode cM_work 74 = .ok (.invokevirtual 67, 3) := by decide +kernel
theorem dM_work_77 : decode cM_work 77 = .ok (.iconst 2, 1) := by decide +kernel
theorem dM_work_78 : decode cM_work 78 = .ok (.if_icmp .le 6, 3) := by decide +kernel
theorem dM_work_81 : decode cM_work 81 = .ok (.bipush (-26), 2) := by decide +kernel
theorem dM_work_83 : decode cM_work 83 = .ok (.ireturn, 1) := by decide +kernel
theorem dM_work_84 : decode cM_work 84 = .ok (.aload_n 0, 1) := by decide +kernel
theorem dM_work_85 : decode cM_work 85 = .ok (.iconst 1, 1) := by decide +kernel
theorem dM_work_86 : decode cM_work 86 = .ok (.invokevirtual 129, 3) := by decide +kernel
theorem dM_work_89 : decode cM_work 89 = .ok (.istore 5, 2) := by decide +kernel
theorem dM_work_91 : decode cM_work 91 = .ok (.aload_n 0, 1) := by decide +kernel
theorem dM_work_92 : decode cM_work 92 = .ok (.iconst 0, 1) := by decide +kernel
theorem dM_work_93 : decode cM_work 93 = .ok (.aload_n 0, 1) := by decide +kernel
theorem dM_work_94 : decode cM_work 94 = .ok (.getfield 19, 3) := by decide +kernel
theorem dM_work_97 : decode cM_work 97 = .ok (.invokevirtual 102, 3) := by decide +kernel
theorem dM_work_100 : decode cM_work 100 = .ok (.aload_n 0, 1) := by decide +kernel
theorem dM_work_101 : decode cM_work 101 = .ok (.iconst 1, 1) := by decide +kernel
theorem dM_work_102 : decode cM_work 102 = .ok (.aload_n 0, 1) := by decide +kernel
theorem dM_work_103 : decode cM_work 103 = .ok (.getfield 19, 3) := by decide +kernel
theorem dM_work_106 : decode cM_work 106 = .ok (.invokevirtual 102, 3) := by decide +kernel
theorem dM_work_109 : decode cM_work 109 = .ok (.iload_n 1, 1) := by decide +kernel
theorem dM_work_110 : decode cM_work 110 = .ok (.iconst 3, 1) := by decide +kernel
theorem dM_work_111 : decode cM_work 111 = .ok (.if_icmp .lt 20, 3) := by decide +kernel
theorem dM_work_114 : decode cM_work 114 = .ok (.iload_n 1, 1) := by decide +kernel
theorem dM_work_115 : decode cM_work 115 = .ok (.iconst 5, 1) := by decide +kernel
theorem dM_work_116 : decode cM_work 116 = .ok (.if_icmp .gt 15, 3) := by decide +kernel
theorem dM_work_119 : decode cM_work 119 = .ok (.aload_n 0, 1) := by decide +kernel
theorem dM_work_120 : decode cM_work 120 = .ok (.getfield 32, 3) := by decide +kernel
theorem dM_work_123 : decode cM_work 123 = .ok (.iconst 1, 1) := by decide +kernel
theorem dM_work_124 : decode cM_work 124 = .ok (.iaload, 1) := by decide +kernel
theorem dM_work_125 : decode cM_work 125 = .ok (.ifCond .ne 6, 3) := by decide +kernel
theorem dM_work_128 : decode cM_work 128 = .ok (.bipush (-42), 2) := by decide +kernel
theorem dM_work_130 : decode cM_work 130 = .ok (.ireturn, 1) := by decide +kernel
theorem dM_work_131 : decode cM_work 131 = .ok (.aload_n 0, 1) := by decide +kernel
theorem dM_work_132 : decode cM_work 132 = .ok (.iload_n 1, 1) := by decide +kernel
theorem dM_work_133 : decode cM_work 133 = .ok (.iload 5, 2) := by decide +kernel
theorem dM_work_135 : decode cM_work 135 = .ok (.invokevirtual 132, 3) := by decide +kernel
theorem dM_work_138 : decode cM_work 138 = .ok (.istore 6, 2) := by decide +kernel
theorem dM_work_140 : decode cM_work 140 = .ok (.iload 6, 2) := by decide +kernel
theorem dM_work_142 : decode cM_work 142 = .ok (.ifCond .le 9, 3) := by decide +kernel
theorem dM_work_145 : decode cM_work 145 = .ok (.iload 6, 2) := by decide +kernel
theorem dM_work_147 : decode cM_work 147 = .ok (.ineg, 1) := by decide +kernel
theorem dM_work_148 : decode cM_work 148 = .ok (.goto 10, 3) := by decide +kernel
theorem dM_work_151 : decode cM_work 151 = .ok (.aload_n 0, 1) := by decide +kernel
theorem dM_work_152 : decode cM_work 152 = .ok (.iconst 2, 1) := by decide +kernel
theorem dM_work_153 : decode cM_work 153 = .ok (.iload 4, 2) := by decide +kernel
theorem dM_work_155 : decode cM_work 155 = .ok (.invokevirtual 135, 3) := by decide +kernel
theorem dM_work_158 : decode cM_work 158 = .ok (.ireturn, 1) := by decide +kernel
theorem dM_turn_0 : decode cM_turn 0 = .ok (.iload_n 2, 1) := by decide +kernel
theorem dM_turn_1 : decode cM_turn 1 = .ok (.invokestatic 48, 3) := by decide +kernel
theorem dM_turn_4 : decode cM_turn 4 = .ok (.ifCond .eq 19, 3) := by decide +kernel
theorem dM_turn_7 : decode cM_turn 7 = .ok (.iload_n 3, 1) := by decide +kernel
theorem dM_turn_8 : decode cM_turn 8 = .ok (.invokestatic 48, 3) := by decide +kernel
theorem dM_turn_11 : decode cM_turn 11 = .ok (.ifCond .eq 12, 3) := by decide +kernel
theorem dM_turn_14 : decode cM_turn 14 = .ok (.iload_n 1, 1) := by decide +kernel
theorem dM_turn_15 : decode cM_turn 15 = .ok (.ifCond .lt 8, 3) := by decide +kernel
theorem dM_turn_18 : decode cM_turn 18 = .ok (.iload_n 1, 1) := by decide +kernel
theorem dM_turn_19 : decode cM_turn 19 = .ok (.iconst 3, 1) := by decide +kernel
theorem dM_turn_20 : decode cM_turn 20 = .ok (.if_icmp .le 5, 3) := by decide +kernel
theorem dM_turn_23 : decode cM_turn 23 = .ok (.iconst (-1), 1) := by decide +kernel
theorem dM_turn_24 : decode cM_turn 24 = .ok (.ireturn, 1) := by decide +kernel
theorem dM_turn_25 : decode cM_turn 25 = .ok (.aload_n 0, 1) := by decide +kernel
theorem dM_turn_26 : decode cM_turn 26 = .ok (.iload_n 2, 1) := by decide +kernel
theorem dM_turn_27 : decode cM_turn 27 = .ok (.iconst 0, 1) := by decide +kernel
theorem dM_turn_28 : decode cM_turn 28 = .ok (.invokevirtual 122, 3) := by decide +kernel
theorem dM_turn_31 : decode cM_turn 31 = .ok (.ifCond .ne 6, 3) := by decide +kernel
theorem dM_turn_34 : decode cM_turn 34 = .ok (.bipush (-41), 2) := by decide +kernel
theorem dM_turn_36 : decode cM_turn 36 = .ok (.ireturn, 1) := by decide +kernel
theorem dM_turn_37 : decode cM_turn 37 = .ok (.aload_n 0, 1) := by decide +kernel
theorem dM_turn_38 : decode cM_turn 38 = .ok (.iconst 0, 1) := by decide +kernel
theorem dM_turn_39 : decode cM_turn 39 = .ok (.aload_n 0, 1) := by decide +kernel
theorem dM_turn_40 : decode cM_turn 40 = .ok (.getfield 19, 3) := by decide +kernel
theorem dM_turn_43 : decode cM_turn 43 = .ok (.invokevirtual 102, 3) := by decide +kernel
theorem dM_turn_46 : decode cM_turn 46 = .ok (.iload_n 1, 1) := by decide +kernel
theorem dM_turn_47 : decode cM_turn 47 = .ok (.iconst 3, 1) := by decide +kernel
theorem dM_turn_48 : decode cM_turn 48 = .ok (.if_icmp .ne 40, 3) := by decide +kernel
theorem dM_turn_51 : decode cM_turn 51 = .ok (.aload_n 0, 1) := by decide +kernel
theorem dM_turn_52 : decode cM_turn 52 = .ok (.getfield 32, 3) := by decide +kernel
theorem dM_turn_55 : decode cM_turn 55 = .ok (.iconst 0, 1) := by decide +kernel
theorem dM_turn_56 : decode cM_turn 56 = .ok (.iaload, 1) := by decide +kernel
theorem dM_turn_57 : decode cM_turn 57 = .ok (.istore 4, 2) := by decide +kernel
theorem dM_turn_59 : decode cM_turn 59 = .ok (.aload_n 0, 1) := by decide +kernel
theorem dM_turn_60 : decode cM_turn 60 = .ok (.iconst 0, 1) := by decide +kernel
theorem dM_turn_61 : decode cM_turn 61 = .ok (.invokevirtual 58, 3) := by decide +kernel
theorem dM_turn_64 : decode cM_turn 64 = .ok (.aload_n 0, 1) := by decide +kernel
theorem dM_turn_65 : decode cM_turn 65 = .ok (.getfield 32, 3) := by decide +kernel
theorem dM_turn_68 : decode cM_turn 68 = .ok (.iconst 0, 1) := by decide +kernel
theorem dM_turn_69 : decode cM_turn 69 = .ok (.iload 4, 2) := by decide +kernel
theorem dM_turn_71 : decode cM_turn 71 = .ok (.iastore, 1) := by decide +kernel
theorem dM_turn_72 : decode cM_turn 72 = .ok (.aload_n 0, 1) := by decide +kernel
theorem dM_turn_73 : decode cM_turn 73 = .ok (.getfield 23, 3) := by decide +kernel
theorem dM_turn_76 : decode cM_turn 76 = .ok (.iconst 0, 1) := by decide +kernel
theorem dM_turn_77 : decode cM_turn 77 = .ok (.iload 4, 2) := by decide +kernel
theorem dM_turn_79 : decode cM_turn 79 = .ok (.ifCond .ne 7, 3) := by decide +kernel
theorem dM_turn_82 : decode cM_turn 82 = .ok (.iconst 0, 1) := by decide +kernel
theorem dM_turn_83 : decode cM_turn 83 = .ok (.goto 4, 3) := by decide +kernel
theorem dM_turn_86 : decode cM_turn 86 = .ok (.iconst 1, 1) := by decide +kernel
theorem dM_turn_87 : decode cM_turn 87 = .ok (.iastore, 1) := by decide +kernel
theorem dM_turn_88 : decode cM_turn 88 = .ok (.aload_n 0, 1) := by decide +kernel
theorem dM_turn_89 : decode cM_turn 89 = .ok (.getfield 32, 3) := by decide +kernel
theorem dM_turn_92 : decode cM_turn 92 = .ok (.iconst 0, 1) := by decide +kernel
theorem dM_turn_93 : decode cM_turn 93 = .ok (.iload_n 1, 1) := by decide +kernel
theorem dM_turn_94 : decode cM_turn 94 = .ok (.iconst 1, 1) := by decide +kernel
theorem dM_turn_95 : decode cM_turn 95 = .ok (.if_icmp .ne 13, 3) := by decide +kernel
theorem dM_turn_98 : decode cM_turn 98 = .ok (.aload_n 0, 1) := by decide +kernel
theorem dM_turn_99 : decode cM_turn 99 = .ok (.getfield 32, 3) := by decide +kernel
theorem dM_turn_102 : decode cM_turn 102 = .ok (.iconst 0, 1) := by decide +kernel
theorem dM_turn_103 : decode cM_turn 103 = .ok (.iaload, 1) := by decide +kernel
theorem dM_turn_104 : decode cM_turn 104 = .ok (.ineg, 1) := by decide +kernel
theorem dM_turn_105 : decode cM_turn 105 = .ok (.goto 27, 3) := by decide +kernel
theorem dM_turn_108 : decode cM_turn 108 = .ok (.iload_n 1, 1) := by decide +kernel
theorem dM_turn_109 : decode cM_turn 109 = .ok (.iconst 2, 1) := by decide +kernel
theorem dM_turn_110 : decode cM_turn 110 = .ok (.if_icmp .ne 16, 3) := by decide +kernel
theorem dM_turn_113 : decode cM_turn 113 = .ok (.aload_n 0, 1) := by decide +kernel
theorem dM_turn_114 : decode cM_turn 114 = .ok (.getfield 32, 3) := by decide +kernel
theorem dM_turn_117 : decode cM_turn 117 = .ok (.iconst 0, 1) := by decide +kernel
theorem dM_turn_118 : decode cM_turn 118 = .ok (.iaload, 1) := by decide +kernel
theorem dM_turn_119 : decode cM_turn 119 = .ok (.ifCond .ge 7, 3) := by decide +kernel
theorem dM_turn_122 : decode cM_turn 122 = .ok (.iconst 1, 1) := by decide +kernel
theorem dM_turn_123 : decode cM_turn 123 = .ok (.goto 9, 3) := by decide +kernel
theorem dM_turn_126 : decode cM_turn 126 = .ok (.aload_n 0, 1) := by decide +kernel
theorem dM_turn_127 : decode cM_turn 127 = .ok (.getfield 32, 3) := by decide +kernel
theorem dM_turn_130 : decode cM_turn 130 = .ok (.iconst 0, 1) := by decide +kernel
theorem dM_turn_131 : decode cM_turn 131 = .ok (.iaload, 1) := by decide +kernel
theorem dM_turn_132 : decode cM_turn 132 = .ok (.iastore, 1) := by decide +kernel
theorem dM_turn_133 : decode cM_turn 133 = .ok (.aload_n 0, 1) := by decide +kernel
theorem dM_turn_134 : decode cM_turn 134 = .ok (.iconst 0, 1) := by decide +kernel
theorem dM_turn_135 : decode cM_turn 135 = .ok (.iload_n 3, 1) := by decide +kernel
theorem dM_turn_136 : decode cM_turn 136 = .ok (.invokevirtual 135, 3) := by decide +kernel
theorem dM_turn_139 : decode cM_turn 139 = .ok (.ireturn, 1) := by decide +kernel
theorem dM_most_0 : decode cM_most 0 = .ok (.iload_n 1, 1) := by decide +kernel
theorem dM_most_1 : decode cM_most 1 = .ok (.invokestatic 48, 3) := by decide +kernel
theorem dM_most_4 : decode cM_most 4 = .ok (.ifCond .eq 17, 3) := by decide +kernel
theorem dM_most_7 : decode cM_most 7 = .ok (.iload_n 2, 1) := by decide +kernel
theorem dM_most_8 : decode cM_most 8 = .ok (.invokestatic 48, 3) := by decide +kernel
theorem dM_most_11 : decode cM_most 11 = .ok (.ifCond .eq 10, 3) := by decide +kernel
theorem dM_most_14 : decode cM_most 14 = .ok (.iload_n 3, 1) := by decide +kernel
theorem dM_most_15 : decode cM_most 15 = .ok (.invokestatic 48, 3) := by decide +kernel
theorem dM_most_18 : decode cM_most 18 = .ok (.ifCond .ne 5, 3) := by decide +kernel
theorem dM_most_21 : decode cM_most 21 = .ok (.iconst (-1), 1) := by decide +kernel
theorem dM_most_22 : decode cM_most 22 = .ok (.ireturn, 1) := by decide +kernel
theorem dM_most_23 : decode cM_most 23 = .ok (.aload_n 0, 1) := by decide +kernel
theorem dM_most_24 : decode cM_most 24 = .ok (.iload_n 1, 1) := by decide +kernel
theorem dM_most_25 : decode cM_most 25 = .ok (.iconst 0, 1) := by decide +kernel
theorem dM_most_26 : decode cM_most 26 = .ok (.invokevirtual 122, 3) := by decide +kernel
theorem dM_most_29 : decode cM_most 29 = .ok (.ifCond .eq 12, 3) := by decide +kernel
theorem dM_most_32 : decode cM_most 32 = .ok (.aload_n 0, 1) := by decide +kernel
theorem dM_most_33 : decode cM_most 33 = .ok (.iload_n 2, 1) := by decide +kernel
theorem dM_most_34 : decode cM_most 34 = .ok (.iconst 1, 1) := by decide +kernel
theorem dM_most_35 : decode cM_most 35 = .ok (.invokevirtual 122, 3) := by decide +kernel
theorem dM_most_38 : decode cM_most 38 = .ok (.ifCond .ne 6, 3) := by decide +kernel
theorem dM_most_41 : decode cM_most 41 = .ok (.bipush (-41), 2) := by decide +kernel
theorem dM_most_43 : decode cM_most 43 = .ok (.ireturn, 1) := by decide +kernel
theorem dM_most_44 : decode cM_most 44 = .ok (.aload_n 0, 1) := by decide +kernel
theorem dM_most_45 : decode cM_most 45 = .ok (.iconst 0, 1) := by decide +kernel
theorem dM_most_46 : decode cM_most 46 = .ok (.aload_n 0, 1) := by decide +kernel
theorem dM_most_47 : decode cM_most 47 = .ok (.getfield 19, 3) := by decide +kernel
theorem dM_most_50 : decode cM_most 50 = .ok (.invokevirtual 102, 3) := by decide +kernel
theorem dM_most_53 : decode cM_most 53 = .ok (.aload_n 0, 1) := by decide +kernel
theorem dM_most_54 : decode cM_most 54 = .ok (.iconst 1, 1) := by decide +kernel
theorem dM_most_55 : decode cM_most 55 = .ok (.aload_n 0, 1) := by decide +kernel
theorem dM_most_56 : decode cM_most 56 = .ok (.getfield 19, 3) := by decide +kernel
theorem dM_most_59 : decode cM_most 59 = .ok (.invokevirtual 102, 3) := by decide +kernel
theorem dM_most_62 : decode cM_most 62 = .ok (.aload_n 0, 1) := by decide +kernel
theorem dM_most_63 : decode cM_most 63 = .ok (.iconst 0, 1) := by decide +kernel
theorem dM_most_64 : decode cM_most 64 = .ok (.iconst 1, 1) := by decide +kernel
theorem dM_most_65 : decode cM_most 65 = .ok (.iconst 1, 1) := by decide +kernel
theorem dM_most_66 : decode cM_most 66 = .ok (.iconst 2, 1) := by decide +kernel
theorem dM_most_67 : decode cM_most 67 = .ok (.invokevirtual 111, 3) := by decide +kernel
theorem dM_most_70 : decode cM_most 70 = .ok (.aload_n 0, 1) := by decide +kernel
theorem dM_most_71 : decode cM_most 71 = .ok (.getfield 32, 3) := by decide +kernel
theorem dM_most_74 : decode cM_most 74 = .ok (.iconst 2, 1) := by decide +kernel
theorem dM_most_75 : decode cM_most 75 = .ok (.iaload, 1) := by decide +kernel
theorem dM_most_76 : decode cM_most 76 = .ok (.ifCond .eq 22, 3) := by decide +kernel
theorem dM_most_79 : decode cM_most 79 = .ok (.aload_n 0, 1) := by decide +kernel
theorem dM_most_80 : decode cM_most 80 = .ok (.getfield 32, 3) := by decide +kernel
theorem dM_most_83 : decode cM_most 83 = .ok (.iconst 2, 1) := by decide +kernel
theorem dM_most_84 : decode cM_most 84 = .ok (.iaload, 1) := by decide +kernel
theorem dM_most_85 : decode cM_most 85 = .ok (.ifCond .ge 7, 3) := by decide +kernel
theorem dM_most_88 : decode cM_most 88 = .ok (.iconst 1, 1) := by decide +kernel
theorem dM_most_89 : decode cM_most 89 = .ok (.goto 4, 3) := by decide +kernel
theorem dM_most_92 : decode cM_most 92 = .ok (.iconst 0, 1) := by decide +kernel
theorem dM_most_93 : decode cM_most 93 = .ok (.iload 4, 2) := by decide +kernel
theorem dM_most_95 : decode cM_most 95 = .ok (.if_icmp .ne 7, 3) := by decide +kernel
theorem dM_most_98 : decode cM_most 98 = .ok (.iconst 1, 1) := by decide +kernel
theorem dM_most_99 : decode cM_most 99 = .ok (.goto 4, 3) := by decide +kernel
theorem dM_most_102 : decode cM_most 102 = .ok (.iconst 0, 1) := by decide +kernel
theorem dM_most_103 : decode cM_most 103 = .ok (.istore 5, 2) := by decide +kernel
theorem dM_most_105 : decode cM_most 105 = .ok (.aload_n 0, 1) := by decide +kernel
theorem dM_most_106 : decode cM_most 106 = .ok (.iload 5, 2) := by decide +kernel
theorem dM_most_108 : decode cM_most 108 = .ok (.ifCond .eq 7, 3) := by decide +kernel
theorem dM_most_111 : decode cM_most 111 = .ok (.iconst 0, 1) := by decide +kernel
theorem dM_most_112 : decode cM_most 112 = .ok (.goto 4, 3) := by decide +kernel
theorem dM_most_115 : decode cM_most 115 = .ok (.iconst 1, 1) := by decide +kernel
theorem dM_most_116 : decode cM_most 116 = .ok (.iload_n 3, 1) := by decide +kernel
theorem dM_most_117 : decode cM_most 117 = .ok (.invokevirtual 135, 3) := by decide +kernel
theorem dM_most_120 : decode cM_most 120 = .ok (.ireturn, 1) := by decide +kernel
set_option maxHeartbeats 4000000 in
set_option maxRecDepth 100000 in
theorem b_M_keep_12 {X : wk_X} {G : cGt} (hI : wd_inj (vC G)) (C : wk_C X (vC G) cM_keep RM 3 0 0) : ∀ (n : Nat) {v1 : Int32} {v2 : Int32} {h : Hp} {q : Int32 × Hp}  (hf : f_M_keep_12 n v1 v2 h = some q) (hq : wk_Q X (vC G) (some (.int q.1)) q.2 (some .int)), WW X (vC G) h 12 [(0, .ref (cad G 46)), (1, .int v1), (2, .int v2)] [] := by
  intro n
  induction n with
  | zero =>
    intros
    rename_i hf _
    cases hf
  | succ n ih =>
    intro v1 v2 h q hf hq
    rw [f_M_keep_12] at hf
    refine wk_iload_n C 2 dM_keep_12 rfl rfl ?_
    refine wk_aload_n C 0 dM_keep_13 rfl rfl ?_
    refine gf_M_86 C dM_keep_14 ?_
    refine wk_icmp_ge (tgt := 44) C dM_keep_17 rfl hf (fun c_17 hf => ?_) (fun c_17 hf => ?_)
    · refine wk_aload_n C 0 dM_keep_44 rfl rfl ?_
      refine gf_M_86 C dM_keep_45 ?_
      cases hf
      exact wk_ireturn C hq dM_keep_48
    · refine wk_aload_n C 0 dM_keep_20 rfl rfl ?_
      refine gf_M_13 C dM_keep_21 ?_
      refine wk_sipush C dM_keep_24 ksipush_200 ?_
      refine wk_iload_n C 1 dM_keep_27 rfl rfl ?_
      refine wk_imul C dM_keep_28 ?_
      refine wk_iload_n C 2 dM_keep_29 rfl rfl ?_
      refine wk_iadd C dM_keep_30 ?_
      refine wk_aload_n C 0 dM_keep_31 rfl rfl ?_
      refine gf_M_38 C dM_keep_32 ?_
      refine wk_iload_n C 2 dM_keep_35 rfl rfl ?_
      obtain ⟨c_36, hf⟩ := chk_some hf
      refine al_55 C c_36 dM_keep_36 ?_
      obtain ⟨c_37, hf⟩ := chk_some hf
      refine as_48 C c_37 dM_keep_37 ?_
      refine wk_iinc C dM_keep_38 rfl kiconst_1 (by decide) ?_
      refine wk_goto (tgt := 12) C dM_keep_41 rfl ?_
      exact wk_go (ih hf hq) (And.intro rfl (And.intro rfl (And.intro rfl trivial)))
set_option maxHeartbeats 4000000 in
set_option maxRecDepth 100000 in
theorem b_M_keep {X : wk_X} {G : cGt} (hI : wd_inj (vC G)) (C : wk_C X (vC G) cM_keep RM 3 0 0) {v1 : Int32} {h : Hp} {q : Int32 × Hp}  (hf : f_M_keep v1 h = some q) (hq : wk_Q X (vC G) (some (.int q.1)) q.2 (some .int)) : WW X (vC G) h 0 [(0, .ref (cad G 46)), (1, .int v1)] [] := by
  unfold f_M_keep at hf
  refine wk_aload_n C 0 dM_keep_0 rfl rfl ?_
  refine gf_M_16 C dM_keep_1 ?_
  refine wk_iload_n C 1 dM_keep_4 rfl rfl ?_
  refine wk_aload_n C 0 dM_keep_5 rfl rfl ?_
  refine gf_M_86 C dM_keep_6 ?_
  obtain ⟨c_9, hf⟩ := chk_some hf
  refine as_49 C c_9 dM_keep_9 ?_
  refine wk_iconst C dM_keep_10 kiconst_0 ?_
  refine wk_istore_n C 2 dM_keep_11 rfl (by decide) ?_
  exact wk_go (b_M_keep_12 hI C fuel hf hq) (And.intro rfl (And.intro rfl (And.intro rfl trivial)))
theorem m_M_keep {l : Launch} {G : cGt} (hI : wd_inj (vC G)) {v1 : Int32} {h h' : Hp} {r : Int32}  (hf : f_M_keep v1 h = some (r, h')) : wk_M l (vC G) yM_keep cM_keep 3 (some .int) 0 0 [.ref (cad G 46), .int v1] h (some (.int r)) h' :=
  wk_met hI (by decide +kernel) rfl (Nat.le_of_ble_eq_true rfl) (wk_cat1 rfl) (fun X hX C hq => by subst hX; exact b_M_keep hI C  hf hq)
set_option maxHeartbeats 4000000 in
set_option maxRecDepth 100000 in
theorem b_M_answer {X : wk_X} {G : cGt} (hI : wd_inj (vC G)) (C : wk_C X (vC G) cM_answer RM 4 4 93) {v1 : Int32} {v2 : Int32} {h : Hp} {q : Int32 × Hp}  (hf : f_M_answer v1 v2 h = some q) (hq : wk_Q X (vC G) (some (.int q.1)) q.2 (some .int)) : WW X (vC G) h 0 [(0, .ref (cad G 46)), (1, .int v1), (2, .int v2)] [] := by
  unfold f_M_answer at hf
  refine wk_aload_n C 0 dM_answer_0 rfl rfl ?_
  refine wk_iload_n C 1 dM_answer_1 rfl rfl ?_
  obtain ⟨r2, h2, e_2, hf⟩ := bd_some hf
  refine wk_callV (As := [.int v1]) (rest := []) C lw_good cw_M_96 wi_M_write (m_M_write hI e_2) lz_46 (he_46 G (h 46)) rfl rfl rfl (Nat.le_of_ble_eq_true rfl) (by decide) dM_answer_2 ?_
  refine wk_istore_n C 3 dM_answer_5 rfl (by decide) ?_
  refine wk_iload_n C 3 dM_answer_6 rfl rfl ?_
  refine wk_if_le (tgt := 15) C dM_answer_7 rfl hf (fun c_7 hf => ?_) (fun c_7 hf => ?_)
  · refine wk_aload_n C 0 dM_answer_15 rfl rfl ?_
    refine wk_iload_n C 2 dM_answer_16 rfl rfl ?_
    obtain ⟨r17, h17, e_17, hf⟩ := bd_some hf
    refine wk_callV (As := [.int v2]) (rest := []) C lw_good cw_M_99 wi_M_keep (m_M_keep hI e_17) lz_46 (he_46 G (h2 46)) rfl rfl rfl (Nat.le_of_ble_eq_true rfl) (by decide) dM_answer_17 ?_
    cases hf
    exact wk_ireturn C hq dM_answer_20
  · refine wk_iload_n C 3 dM_answer_10 rfl rfl ?_
    refine wk_ineg C dM_answer_11 ?_
    refine wk_goto (tgt := 20) C dM_answer_12 rfl ?_
    cases hf
    exact wk_ireturn C hq dM_answer_20
theorem m_M_answer {l : Launch} {G : cGt} (hI : wd_inj (vC G)) {v1 : Int32} {v2 : Int32} {h h' : Hp} {r : Int32}  (hf : f_M_answer v1 v2 h = some (r, h')) : wk_M l (vC G) yM_answer cM_answer 4 (some .int) 4 93 [.ref (cad G 46), .int v1, .int v2] h (some (.int r)) h' :=
  wk_met hI (by decide +kernel) rfl (Nat.le_of_ble_eq_true rfl) (wk_cat1 rfl) (fun X hX C hq => by subst hX; exact b_M_answer hI C  hf hq)
set_option maxHeartbeats 4000000 in
set_option maxRecDepth 100000 in
theorem b_M_isWhole_34 {X : wk_X} {G : cGt} (hI : wd_inj (vC G)) (C : wk_C X (vC G) cM_isWhole RM 3 2 44) : ∀ (n : Nat) {v1 : Int32} {v2 : Int32} {h : Hp} {q : Int32 × Hp}  (hf : f_M_isWhole_34 n v1 v2 h = some q) (hq : wk_Q X (vC G) (some (.int q.1)) q.2 (some .boolean)), WW X (vC G) h 34 [(0, .ref (cad G 46)), (1, .int v1), (2, .int v2)] [] := by
  intro n
  induction n with
  | zero =>
    intros
    rename_i hf _
    cases hf
  | succ n ih =>
    intro v1 v2 h q hf hq
    rw [f_M_isWhole_34] at hf
    refine wk_iload_n C 2 dM_isWhole_34 rfl rfl ?_
    refine wk_aload_n C 0 dM_isWhole_35 rfl rfl ?_
    refine gf_M_29 C dM_isWhole_36 ?_
    refine wk_iload_n C 1 dM_isWhole_39 rfl rfl ?_
    obtain ⟨c_40, hf⟩ := chk_some hf
    refine al_52 C c_40 dM_isWhole_40 ?_
    refine wk_icmp_lt (tgt := 61) C dM_isWhole_41 rfl hf (fun c_41 hf => ?_) (fun c_41 hf => ?_)
    · refine wk_iconst C dM_isWhole_61 kiconst_1 ?_
      cases hf
      exact wk_zreturn C hq rfl dM_isWhole_62
    · refine wk_aload_n C 0 dM_isWhole_44 rfl rfl ?_
      refine wk_iload_n C 1 dM_isWhole_45 rfl rfl ?_
      refine wk_iload_n C 2 dM_isWhole_46 rfl rfl ?_
      obtain ⟨r47, h47, e_47, hf⟩ := bd_some hf
      refine wk_callV (As := [.int v1, .int v2]) (rest := []) C lw_good cw_M_75 wi_M_digit (m_M_digit hI e_47) lz_46 (he_46 G (h 46)) rfl rfl rfl (Nat.le_of_ble_eq_true rfl) (by decide) dM_isWhole_47 ?_
      refine wk_if_eq (tgt := 55) C dM_isWhole_50 rfl hf (fun c_50 hf => ?_) (fun c_50 hf => ?_)
      · refine wk_iinc C dM_isWhole_55 rfl kiconst_m1 (by decide) ?_
        refine wk_goto (tgt := 34) C dM_isWhole_58 rfl ?_
        exact wk_go (ih hf hq) (And.intro rfl (And.intro rfl (And.intro rfl trivial)))
      · refine wk_iconst C dM_isWhole_53 kiconst_0 ?_
        cases hf
        exact wk_zreturn C hq rfl dM_isWhole_54
set_option maxHeartbeats 4000000 in
set_option maxRecDepth 100000 in
theorem b_M_isWhole {X : wk_X} {G : cGt} (hI : wd_inj (vC G)) (C : wk_C X (vC G) cM_isWhole RM 3 2 44) {v1 : Int32} {h : Hp} {q : Int32 × Hp}  (hf : f_M_isWhole v1 h = some q) (hq : wk_Q X (vC G) (some (.int q.1)) q.2 (some .boolean)) : WW X (vC G) h 0 [(0, .ref (cad G 46)), (1, .int v1)] [] := by
  unfold f_M_isWhole at hf
  refine wk_aload_n C 0 dM_isWhole_0 rfl rfl ?_
  refine wk_iload_n C 1 dM_isWhole_1 rfl rfl ?_
  refine wk_aload_n C 0 dM_isWhole_2 rfl rfl ?_
  refine gf_M_19 C dM_isWhole_3 ?_
  obtain ⟨r6, h6, e_6, hf⟩ := bd_some hf
  refine wk_callV (As := [.int v1, .int (h 46 4)]) (rest := []) C lw_good cw_M_102 wi_M_round (m_M_round hI e_6) lz_46 (he_46 G (h 46)) rfl rfl rfl (Nat.le_of_ble_eq_true rfl) (by decide) dM_isWhole_6 ?_
  refine wk_aload_n C 0 dM_isWhole_9 rfl rfl ?_
  refine gf_M_32 C dM_isWhole_10 ?_
  refine wk_iload_n C 1 dM_isWhole_13 rfl rfl ?_
  obtain ⟨c_14, hf⟩ := chk_some hf
  refine al_53 C c_14 dM_isWhole_14 ?_
  refine wk_if_ne (tgt := 20) C dM_isWhole_15 rfl hf (fun c_15 hf => ?_) (fun c_15 hf => ?_)
  · refine wk_aload_n C 0 dM_isWhole_20 rfl rfl ?_
    refine wk_iload_n C 1 dM_isWhole_21 rfl rfl ?_
    obtain ⟨r22, h22, e_22, hf⟩ := bd_some hf
    refine wk_callV (As := [.int v1]) (rest := []) C lw_good cw_M_67 wi_M_high (m_M_high hI e_22) lz_46 (he_46 G (h6 46)) rfl rfl rfl (Nat.le_of_ble_eq_true rfl) (by decide) dM_isWhole_22 ?_
    refine wk_bipush C dM_isWhole_25 kbipush_8 ?_
    refine wk_icmp_le (tgt := 32) C dM_isWhole_27 rfl hf (fun c_27 hf => ?_) (fun c_27 hf => ?_)
    · refine wk_iconst C dM_isWhole_32 kiconst_m1 ?_
      refine wk_istore_n C 2 dM_isWhole_33 rfl (by decide) ?_
      exact wk_go (b_M_isWhole_34 hI C fuel hf hq) (And.intro rfl (And.intro rfl (And.intro rfl trivial)))
    · refine wk_iconst C dM_isWhole_30 kiconst_0 ?_
      cases hf
      exact wk_zreturn C hq rfl dM_isWhole_31
  · refine wk_iconst C dM_isWhole_18 kiconst_1 ?_
    cases hf
    exact wk_zreturn C hq rfl dM_isWhole_19
theorem m_M_isWhole {l : Launch} {G : cGt} (hI : wd_inj (vC G)) {v1 : Int32} {h h' : Hp} {r : Int32}  (hf : f_M_isWhole v1 h = some (r, h')) : wk_M l (vC G) yM_isWhole cM_isWhole 3 (some .boolean) 2 44 [.ref (cad G 46), .int v1] h (some (.int r)) h' :=
  wk_met hI (by decide +kernel) rfl (Nat.le_of_ble_eq_true rfl) (wk_cat1 rfl) (fun X hX C hq => by subst hX; exact b_M_isWhole hI C  hf hq)
set_option maxHeartbeats 4000000 in
set_option maxRecDepth 100000 in
theorem b_M_valueOf_8 {X : wk_X} {G : cGt} (hI : wd_inj (vC G)) (C : wk_C X (vC G) cM_valueOf RM 4 2 44) : ∀ (n : Nat) {v1 : Int32} {v2 : Int32} {v3 : Int32} {h : Hp} {q : Int32 × Hp}  (hf : f_M_valueOf_8 n v1 v2 v3 h = some q) (hq : wk_Q X (vC G) (some (.int q.1)) q.2 (some .int)), WW X (vC G) h 8 [(0, .ref (cad G 46)), (1, .int v1), (2, .int v2), (3, .int v3)] [] := by
  intro n
  induction n with
  | zero =>
    intros
    rename_i hf _
    cases hf
  | succ n ih =>
    intro v1 v2 v3 h q hf hq
    rw [f_M_valueOf_8] at hf
    refine wk_iload_n C 3 dM_valueOf_8 rfl rfl ?_
    refine wk_if_lt (tgt := 30) C dM_valueOf_9 rfl hf (fun c_9 hf => ?_) (fun c_9 hf => ?_)
    · refine wk_aload_n C 0 dM_valueOf_30 rfl rfl ?_
      refine gf_M_32 C dM_valueOf_31 ?_
      refine wk_iload_n C 1 dM_valueOf_34 rfl rfl ?_
      obtain ⟨c_35, hf⟩ := chk_some hf
      refine al_53 C c_35 dM_valueOf_35 ?_
      refine wk_if_ge (tgt := 44) C dM_valueOf_36 rfl hf (fun c_36 hf => ?_) (fun c_36 hf => ?_)
      · refine wk_iload_n C 2 dM_valueOf_44 rfl rfl ?_
        cases hf
        exact wk_ireturn C hq dM_valueOf_45
      · refine wk_iload_n C 2 dM_valueOf_39 rfl rfl ?_
        refine wk_ineg C dM_valueOf_40 ?_
        refine wk_goto (tgt := 45) C dM_valueOf_41 rfl ?_
        cases hf
        exact wk_ireturn C hq dM_valueOf_45
    · refine wk_bipush C dM_valueOf_12 kbipush_10 ?_
      refine wk_iload_n C 2 dM_valueOf_14 rfl rfl ?_
      refine wk_imul C dM_valueOf_15 ?_
      refine wk_aload_n C 0 dM_valueOf_16 rfl rfl ?_
      refine wk_iload_n C 1 dM_valueOf_17 rfl rfl ?_
      refine wk_iload_n C 3 dM_valueOf_18 rfl rfl ?_
      obtain ⟨r19, h19, e_19, hf⟩ := bd_some hf
      refine wk_callV (As := [.int v1, .int v3]) (rest := [.int (10 * v2)]) C lw_good cw_M_75 wi_M_digit (m_M_digit hI e_19) lz_46 (he_46 G (h 46)) rfl rfl rfl (Nat.le_of_ble_eq_true rfl) (by decide) dM_valueOf_19 ?_
      refine wk_iadd C dM_valueOf_22 ?_
      refine wk_istore_n C 2 dM_valueOf_23 rfl (by decide) ?_
      refine wk_iinc C dM_valueOf_24 rfl kiconst_m1 (by decide) ?_
      refine wk_goto (tgt := 8) C dM_valueOf_27 rfl ?_
      exact wk_go (ih hf hq) (And.intro rfl (And.intro rfl (And.intro rfl (And.intro rfl trivial))))
set_option maxHeartbeats 4000000 in
set_option maxRecDepth 100000 in
theorem b_M_valueOf {X : wk_X} {G : cGt} (hI : wd_inj (vC G)) (C : wk_C X (vC G) cM_valueOf RM 4 2 44) {v1 : Int32} {h : Hp} {q : Int32 × Hp}  (hf : f_M_valueOf v1 h = some q) (hq : wk_Q X (vC G) (some (.int q.1)) q.2 (some .int)) : WW X (vC G) h 0 [(0, .ref (cad G 46)), (1, .int v1)] [] := by
  unfold f_M_valueOf at hf
  refine wk_iconst C dM_valueOf_0 kiconst_0 ?_
  refine wk_istore_n C 2 dM_valueOf_1 rfl (by decide) ?_
  refine wk_aload_n C 0 dM_valueOf_2 rfl rfl ?_
  refine wk_iload_n C 1 dM_valueOf_3 rfl rfl ?_
  obtain ⟨r4, h4, e_4, hf⟩ := bd_some hf
  refine wk_callV (As := [.int v1]) (rest := []) C lw_good cw_M_67 wi_M_high (m_M_high hI e_4) lz_46 (he_46 G (h 46)) rfl rfl rfl (Nat.le_of_ble_eq_true rfl) (by decide) dM_valueOf_4 ?_
  refine wk_istore_n C 3 dM_valueOf_7 rfl (by decide) ?_
  exact wk_go (b_M_valueOf_8 hI C fuel hf hq) (And.intro rfl (And.intro rfl (And.intro rfl (And.intro rfl trivial))))
theorem m_M_valueOf {l : Launch} {G : cGt} (hI : wd_inj (vC G)) {v1 : Int32} {h h' : Hp} {r : Int32}  (hf : f_M_valueOf v1 h = some (r, h')) : wk_M l (vC G) yM_valueOf cM_valueOf 4 (some .int) 2 44 [.ref (cad G 46), .int v1] h (some (.int r)) h' :=
  wk_met hI (by decide +kernel) rfl (Nat.le_of_ble_eq_true rfl) (wk_cat1 rfl) (fun X hX C hq => by subst hX; exact b_M_valueOf hI C  hf hq)
set_option maxHeartbeats 4000000 in
set_option maxRecDepth 100000 in
theorem b_M_raise_202 {X : wk_X} {G : cGt} (hI : wd_inj (vC G)) (C : wk_C X (vC G) cM_raise RM 5 3 71)  {h : Hp} {q : Int32 × Hp}  (hf : f_M_raise_202 h = some q) (hq : wk_Q X (vC G) (some (.int q.1)) q.2 (some .int)) : WW X (vC G) h 202 [(0, .ref (cad G 46))] [] := by
  unfold f_M_raise_202 at hf
  refine wk_aload_n C 0 dM_raise_202 rfl rfl ?_
  refine wk_iconst C dM_raise_203 kiconst_2 ?_
  refine wk_aload_n C 0 dM_raise_204 rfl rfl ?_
  refine gf_M_19 C dM_raise_205 ?_
  obtain ⟨r208, h208, e_208, hf⟩ := bd_some hf
  refine wk_callV (As := [.int 2, .int (h 46 4)]) (rest := []) C lw_good cw_M_102 wi_M_round (m_M_round hI e_208) lz_46 (he_46 G (h 46)) rfl rfl rfl (Nat.le_of_ble_eq_true rfl) (by decide) dM_raise_208 ?_
  refine wk_aload_n C 0 dM_raise_211 rfl rfl ?_
  refine wk_iconst C dM_raise_212 kiconst_2 ?_
  obtain ⟨r213, h213, e_213, hf⟩ := bd_some hf
  refine wk_callV (As := [.int 2]) (rest := []) C lw_good cw_M_108 wi_M_noZeros (m_M_noZeros hI e_213) lz_46 (he_46 G (h208 46)) rfl rfl rfl (Nat.le_of_ble_eq_true rfl) (by decide) dM_raise_213 ?_
  refine wk_iconst C dM_raise_216 kiconst_0 ?_
  cases hf
  exact wk_ireturn C hq dM_raise_217
set_option maxHeartbeats 4000000 in
set_option maxRecDepth 100000 in
theorem b_M_raise_81 {X : wk_X} {G : cGt} (hI : wd_inj (vC G)) (C : wk_C X (vC G) cM_raise RM 5 3 71) : ∀ (n : Nat) {v1 : Int32} {v2 : Int32} {v3 : Int32} {v4 : Int32} {h : Hp} {q : Int32 × Hp}  (hf : f_M_raise_81 n v1 v2 v3 v4 h = some q) (hq : wk_Q X (vC G) (some (.int q.1)) q.2 (some .int)), WW X (vC G) h 81 [(0, .ref (cad G 46)), (1, .int v1), (2, .int v2), (3, .int v3), (4, .int v4)] [] := by
  intro n
  induction n with
  | zero =>
    intros
    rename_i hf _
    cases hf
  | succ n ih =>
    intro v1 v2 v3 v4 h q hf hq
    rw [f_M_raise_81] at hf
    refine wk_iload C dM_raise_81 rfl ?_
    refine wk_if_lt (tgt := 152) C dM_raise_83 rfl hf (fun c_83 hf => ?_) (fun c_83 hf => ?_)
    · refine wk_iload_n C 1 dM_raise_152 rfl rfl ?_
      refine wk_if_ge (tgt := 202) C dM_raise_153 rfl hf (fun c_153 hf => ?_) (fun c_153 hf => ?_)
      · exact wk_go (b_M_raise_202 hI C hf hq) (And.intro rfl trivial)
      · refine wk_aload_n C 0 dM_raise_156 rfl rfl ?_
        refine wk_iconst C dM_raise_157 kiconst_4 ?_
        obtain ⟨r158, h158, e_158, hf⟩ := bd_some hf
        refine wk_callV (As := [.int 4]) (rest := []) C lw_good cw_M_58 wi_M_zero (m_M_zero hI e_158) lz_46 (he_46 G (h 46)) rfl rfl rfl (Nat.le_of_ble_eq_true rfl) (by decide) dM_raise_158 ?_
        refine wk_aload_n C 0 dM_raise_161 rfl rfl ?_
        refine gf_M_32 C dM_raise_162 ?_
        refine wk_iconst C dM_raise_165 kiconst_4 ?_
        refine wk_iconst C dM_raise_166 kiconst_1 ?_
        obtain ⟨c_167, hf⟩ := chk_some hf
        refine as_53 C c_167 dM_raise_167 ?_
        refine wk_aload_n C 0 dM_raise_168 rfl rfl ?_
        refine gf_M_23 C dM_raise_169 ?_
        refine wk_sipush C dM_raise_172 ksipush_10400 ?_
        refine wk_iconst C dM_raise_175 kiconst_1 ?_
        obtain ⟨c_176, hf⟩ := chk_some hf
        refine as_50 C c_176 dM_raise_176 ?_
        refine wk_aload_n C 0 dM_raise_177 rfl rfl ?_
        refine wk_iconst C dM_raise_178 kiconst_4 ?_
        refine wk_iconst C dM_raise_179 kiconst_2 ?_
        refine wk_iload_n C 3 dM_raise_180 rfl rfl ?_
        refine wk_iconst C dM_raise_181 kiconst_3 ?_
        obtain ⟨r182, h182, e_182, hf⟩ := bd_some hf
        refine wk_callV (As := [.int 4, .int 2, .int v3, .int 3]) (rest := []) C lw_good cw_M_82 wi_M_divide (m_M_divide hI e_182) lz_46 (he_46 G ((up2 (up2 h158 53 (Int32.toNatClampNeg 4) 1) 50 (Int32.toNatClampNeg 10400) 1) 46)) rfl rfl rfl (Nat.le_of_ble_eq_true rfl) (by decide) dM_raise_182 ?_
        refine wk_aload_n C 0 dM_raise_185 rfl rfl ?_
        refine wk_iconst C dM_raise_186 kiconst_3 ?_
        refine wk_iload_n C 3 dM_raise_187 rfl rfl ?_
        obtain ⟨r188, h188, e_188, hf⟩ := bd_some hf
        refine wk_callV (As := [.int 3, .int v3]) (rest := []) C lw_good cw_M_102 wi_M_round (m_M_round hI e_188) lz_46 (he_46 G (h182 46)) rfl rfl rfl (Nat.le_of_ble_eq_true rfl) (by decide) dM_raise_188 ?_
        refine wk_aload_n C 0 dM_raise_191 rfl rfl ?_
        refine wk_iconst C dM_raise_192 kiconst_3 ?_
        obtain ⟨r193, h193, e_193, hf⟩ := bd_some hf
        refine wk_callV (As := [.int 3]) (rest := []) C lw_good cw_M_108 wi_M_noZeros (m_M_noZeros hI e_193) lz_46 (he_46 G (h188 46)) rfl rfl rfl (Nat.le_of_ble_eq_true rfl) (by decide) dM_raise_193 ?_
        refine wk_aload_n C 0 dM_raise_196 rfl rfl ?_
        refine wk_iconst C dM_raise_197 kiconst_3 ?_
        refine wk_iconst C dM_raise_198 kiconst_2 ?_
        obtain ⟨r199, h199, e_199, hf⟩ := bd_some hf
        refine wk_callV (As := [.int 3, .int 2]) (rest := []) C lw_good cw_M_71 wi_M_copy (m_M_copy hI e_199) lz_46 (he_46 G (h193 46)) rfl rfl rfl (Nat.le_of_ble_eq_true rfl) (by decide) dM_raise_199 ?_
        exact wk_go (b_M_raise_202 hI C hf hq) (And.intro rfl trivial)
    · refine wk_iload_n C 2 dM_raise_86 rfl rfl ?_
      refine wk_iload C dM_raise_87 rfl ?_
      refine wk_ishr C dM_raise_89 ?_
      refine wk_if_ne (tgt := 96) C dM_raise_90 rfl hf (fun c_90 hf => ?_) (fun c_90 hf => ?_)
      · refine wk_aload_n C 0 dM_raise_96 rfl rfl ?_
        refine wk_iconst C dM_raise_97 kiconst_2 ?_
        refine wk_iconst C dM_raise_98 kiconst_2 ?_
        refine wk_iconst C dM_raise_99 kiconst_3 ?_
        obtain ⟨r100, h100, e_100, hf⟩ := bd_some hf
        refine wk_callV (As := [.int 2, .int 2, .int 3]) (rest := []) C lw_good cw_M_105 wi_M_multiply (m_M_multiply hI e_100) lz_46 (he_46 G (h 46)) rfl rfl rfl (Nat.le_of_ble_eq_true rfl) (by decide) dM_raise_100 ?_
        refine wk_aload_n C 0 dM_raise_103 rfl rfl ?_
        refine wk_iconst C dM_raise_104 kiconst_3 ?_
        refine wk_iload_n C 3 dM_raise_105 rfl rfl ?_
        obtain ⟨r106, h106, e_106, hf⟩ := bd_some hf
        refine wk_callV (As := [.int 3, .int v3]) (rest := []) C lw_good cw_M_102 wi_M_round (m_M_round hI e_106) lz_46 (he_46 G (h100 46)) rfl rfl rfl (Nat.le_of_ble_eq_true rfl) (by decide) dM_raise_106 ?_
        refine wk_aload_n C 0 dM_raise_109 rfl rfl ?_
        refine wk_iconst C dM_raise_110 kiconst_3 ?_
        refine wk_iconst C dM_raise_111 kiconst_2 ?_
        obtain ⟨r112, h112, e_112, hf⟩ := bd_some hf
        refine wk_callV (As := [.int 3, .int 2]) (rest := []) C lw_good cw_M_71 wi_M_copy (m_M_copy hI e_112) lz_46 (he_46 G (h106 46)) rfl rfl rfl (Nat.le_of_ble_eq_true rfl) (by decide) dM_raise_112 ?_
        refine wk_iload_n C 2 dM_raise_115 rfl rfl ?_
        refine wk_iload C dM_raise_116 rfl ?_
        refine wk_ishr C dM_raise_118 ?_
        refine wk_iconst C dM_raise_119 kiconst_1 ?_
        refine wk_iand C dM_raise_120 ?_
        refine wk_if_ne (tgt := 127) C dM_raise_121 rfl hf (fun c_121 hf => ?_) (fun c_121 hf => ?_)
        · refine wk_aload_n C 0 dM_raise_127 rfl rfl ?_
          refine wk_iconst C dM_raise_128 kiconst_2 ?_
          refine wk_iconst C dM_raise_129 kiconst_0 ?_
          refine wk_iconst C dM_raise_130 kiconst_3 ?_
          obtain ⟨r131, h131, e_131, hf⟩ := bd_some hf
          refine wk_callV (As := [.int 2, .int 0, .int 3]) (rest := []) C lw_good cw_M_105 wi_M_multiply (m_M_multiply hI e_131) lz_46 (he_46 G (h112 46)) rfl rfl rfl (Nat.le_of_ble_eq_true rfl) (by decide) dM_raise_131 ?_
          refine wk_aload_n C 0 dM_raise_134 rfl rfl ?_
          refine wk_iconst C dM_raise_135 kiconst_3 ?_
          refine wk_iload_n C 3 dM_raise_136 rfl rfl ?_
          obtain ⟨r137, h137, e_137, hf⟩ := bd_some hf
          refine wk_callV (As := [.int 3, .int v3]) (rest := []) C lw_good cw_M_102 wi_M_round (m_M_round hI e_137) lz_46 (he_46 G (h131 46)) rfl rfl rfl (Nat.le_of_ble_eq_true rfl) (by decide) dM_raise_137 ?_
          refine wk_aload_n C 0 dM_raise_140 rfl rfl ?_
          refine wk_iconst C dM_raise_141 kiconst_3 ?_
          refine wk_iconst C dM_raise_142 kiconst_2 ?_
          obtain ⟨r143, h143, e_143, hf⟩ := bd_some hf
          refine wk_callV (As := [.int 3, .int 2]) (rest := []) C lw_good cw_M_71 wi_M_copy (m_M_copy hI e_143) lz_46 (he_46 G (h137 46)) rfl rfl rfl (Nat.le_of_ble_eq_true rfl) (by decide) dM_raise_143 ?_
          refine wk_iinc C dM_raise_146 rfl kiconst_m1 (by decide) ?_
          refine wk_goto (tgt := 81) C dM_raise_149 rfl ?_
          exact wk_go (ih hf hq) (And.intro rfl (And.intro rfl (And.intro rfl (And.intro rfl (And.intro rfl trivial)))))
        · refine wk_goto (tgt := 146) C dM_raise_124 rfl ?_
          refine wk_iinc C dM_raise_146 rfl kiconst_m1 (by decide) ?_
          refine wk_goto (tgt := 81) C dM_raise_149 rfl ?_
          exact wk_go (ih hf hq) (And.intro rfl (And.intro rfl (And.intro rfl (And.intro rfl (And.intro rfl trivial)))))
      · refine wk_goto (tgt := 146) C dM_raise_93 rfl ?_
        refine wk_iinc C dM_raise_146 rfl kiconst_m1 (by decide) ?_
        refine wk_goto (tgt := 81) C dM_raise_149 rfl ?_
        exact wk_go (ih hf hq) (And.intro rfl (And.intro rfl (And.intro rfl (And.intro rfl (And.intro rfl trivial)))))
set_option maxHeartbeats 4000000 in
set_option maxRecDepth 100000 in
theorem b_M_raise_56 {X : wk_X} {G : cGt} (hI : wd_inj (vC G)) (C : wk_C X (vC G) cM_raise RM 5 3 71) {v1 : Int32} {v2 : Int32} {v3 : Int32} {h : Hp} {q : Int32 × Hp}  (hf : f_M_raise_56 v1 v2 v3 h = some q) (hq : wk_Q X (vC G) (some (.int q.1)) q.2 (some .int)) : WW X (vC G) h 56 [(0, .ref (cad G 46)), (1, .int v1), (2, .int v2), (3, .int v3)] [] := by
  unfold f_M_raise_56 at hf
  refine wk_aload_n C 0 dM_raise_56 rfl rfl ?_
  refine wk_iconst C dM_raise_57 kiconst_2 ?_
  obtain ⟨r58, h58, e_58, hf⟩ := bd_some hf
  refine wk_callV (As := [.int 2]) (rest := []) C lw_good cw_M_58 wi_M_zero (m_M_zero hI e_58) lz_46 (he_46 G (h 46)) rfl rfl rfl (Nat.le_of_ble_eq_true rfl) (by decide) dM_raise_58 ?_
  refine wk_aload_n C 0 dM_raise_61 rfl rfl ?_
  refine gf_M_32 C dM_raise_62 ?_
  refine wk_iconst C dM_raise_65 kiconst_2 ?_
  refine wk_iconst C dM_raise_66 kiconst_1 ?_
  obtain ⟨c_67, hf⟩ := chk_some hf
  refine as_53 C c_67 dM_raise_67 ?_
  refine wk_aload_n C 0 dM_raise_68 rfl rfl ?_
  refine gf_M_23 C dM_raise_69 ?_
  refine wk_sipush C dM_raise_72 ksipush_5200 ?_
  refine wk_iconst C dM_raise_75 kiconst_1 ?_
  obtain ⟨c_76, hf⟩ := chk_some hf
  refine as_50 C c_76 dM_raise_76 ?_
  refine wk_bipush C dM_raise_77 kbipush_9 ?_
  refine wk_istore C dM_raise_79 (by decide) ?_
  exact wk_go (b_M_raise_81 hI C fuel hf hq) (And.intro rfl (And.intro rfl (And.intro rfl (And.intro rfl (And.intro rfl trivial)))))
set_option maxHeartbeats 4000000 in
set_option maxRecDepth 100000 in
theorem b_M_raise_38 {X : wk_X} {G : cGt} (hI : wd_inj (vC G)) (C : wk_C X (vC G) cM_raise RM 5 3 71) {v1 : Int32} {v2 : Int32} {s0 : Int32} {s1 : Int32} {h : Hp} {q : Int32 × Hp}  (hf : f_M_raise_38 v1 v2 s0 s1 h = some q) (hq : wk_Q X (vC G) (some (.int q.1)) q.2 (some .int)) : WW X (vC G) h 38 [(0, .ref (cad G 46)), (1, .int v1), (2, .int v2)] [.int s1, .int s0] := by
  unfold f_M_raise_38 at hf
  refine wk_iadd C dM_raise_38 ?_
  refine wk_istore_n C 3 dM_raise_39 rfl (by decide) ?_
  refine wk_aload_n C 0 dM_raise_40 rfl rfl ?_
  refine gf_M_32 C dM_raise_41 ?_
  refine wk_iconst C dM_raise_44 kiconst_0 ?_
  obtain ⟨c_45, hf⟩ := chk_some hf
  refine al_53 C c_45 dM_raise_45 ?_
  refine wk_if_ne (tgt := 56) C dM_raise_46 rfl hf (fun c_46 hf => ?_) (fun c_46 hf => ?_)
  · exact wk_go (b_M_raise_56 hI C hf hq) (And.intro rfl (And.intro rfl (And.intro rfl (And.intro rfl trivial))))
  · refine wk_iload_n C 1 dM_raise_49 rfl rfl ?_
    refine wk_if_ge (tgt := 56) C dM_raise_50 rfl hf (fun c_50 hf => ?_) (fun c_50 hf => ?_)
    · exact wk_go (b_M_raise_56 hI C hf hq) (And.intro rfl (And.intro rfl (And.intro rfl (And.intro rfl trivial))))
    · refine wk_bipush C dM_raise_53 kbipush_42 ?_
      cases hf
      exact wk_ireturn C hq dM_raise_55
set_option maxHeartbeats 4000000 in
set_option maxRecDepth 100000 in
theorem b_M_raise_10 {X : wk_X} {G : cGt} (hI : wd_inj (vC G)) (C : wk_C X (vC G) cM_raise RM 5 3 71) {v1 : Int32} {s0 : Int32} {h : Hp} {q : Int32 × Hp}  (hf : f_M_raise_10 v1 s0 h = some q) (hq : wk_Q X (vC G) (some (.int q.1)) q.2 (some .int)) : WW X (vC G) h 10 [(0, .ref (cad G 46)), (1, .int v1)] [.int s0] := by
  unfold f_M_raise_10 at hf
  refine wk_istore_n C 2 dM_raise_10 rfl (by decide) ?_
  refine wk_aload_n C 0 dM_raise_11 rfl rfl ?_
  refine gf_M_19 C dM_raise_12 ?_
  refine wk_iconst C dM_raise_15 kiconst_1 ?_
  refine wk_iadd C dM_raise_16 ?_
  refine wk_iload_n C 2 dM_raise_17 rfl rfl ?_
  refine wk_bipush C dM_raise_18 kbipush_99 ?_
  refine wk_icmp_le (tgt := 27) C dM_raise_20 rfl hf (fun c_20 hf => ?_) (fun c_20 hf => ?_)
  · refine wk_iload_n C 2 dM_raise_27 rfl rfl ?_
    refine wk_bipush C dM_raise_28 kbipush_9 ?_
    refine wk_icmp_le (tgt := 37) C dM_raise_30 rfl hf (fun c_30 hf => ?_) (fun c_30 hf => ?_)
    · refine wk_iconst C dM_raise_37 kiconst_1 ?_
      exact wk_go (b_M_raise_38 hI C hf hq) (And.intro rfl (And.intro rfl (And.intro rfl trivial)))
    · refine wk_iconst C dM_raise_33 kiconst_2 ?_
      refine wk_goto (tgt := 38) C dM_raise_34 rfl ?_
      exact wk_go (b_M_raise_38 hI C hf hq) (And.intro rfl (And.intro rfl (And.intro rfl trivial)))
  · refine wk_iconst C dM_raise_23 kiconst_3 ?_
    refine wk_goto (tgt := 38) C dM_raise_24 rfl ?_
    exact wk_go (b_M_raise_38 hI C hf hq) (And.intro rfl (And.intro rfl (And.intro rfl trivial)))
set_option maxHeartbeats 4000000 in
set_option maxRecDepth 100000 in
theorem b_M_raise {X : wk_X} {G : cGt} (hI : wd_inj (vC G)) (C : wk_C X (vC G) cM_raise RM 5 3 71) {v1 : Int32} {h : Hp} {q : Int32 × Hp}  (hf : f_M_raise v1 h = some q) (hq : wk_Q X (vC G) (some (.int q.1)) q.2 (some .int)) : WW X (vC G) h 0 [(0, .ref (cad G 46)), (1, .int v1)] [] := by
  unfold f_M_raise at hf
  refine wk_iload_n C 1 dM_raise_0 rfl rfl ?_
  refine wk_if_ge (tgt := 9) C dM_raise_1 rfl hf (fun c_1 hf => ?_) (fun c_1 hf => ?_)
  · refine wk_iload_n C 1 dM_raise_9 rfl rfl ?_
    exact wk_go (b_M_raise_10 hI C hf hq) (And.intro rfl (And.intro rfl trivial))
  · refine wk_iload_n C 1 dM_raise_4 rfl rfl ?_
    refine wk_ineg C dM_raise_5 ?_
    refine wk_goto (tgt := 10) C dM_raise_6 rfl ?_
    exact wk_go (b_M_raise_10 hI C hf hq) (And.intro rfl (And.intro rfl trivial))
theorem m_M_raise {l : Launch} {G : cGt} (hI : wd_inj (vC G)) {v1 : Int32} {h h' : Hp} {r : Int32}  (hf : f_M_raise v1 h = some (r, h')) : wk_M l (vC G) yM_raise cM_raise 5 (some .int) 3 71 [.ref (cad G 46), .int v1] h (some (.int r)) h' :=
  wk_met hI (by decide +kernel) rfl (Nat.le_of_ble_eq_true rfl) (wk_cat1 rfl) (fun X hX C hq => by subst hX; exact b_M_raise hI C  hf hq)
set_option maxHeartbeats 4000000 in
set_option maxRecDepth 100000 in
theorem b_M_worked {X : wk_X} {G : cGt} (hI : wd_inj (vC G)) (C : wk_C X (vC G) cM_worked RM 3 4 95) {v1 : Int32} {v2 : Int32} {h : Hp} {q : Int32 × Hp}  (hf : f_M_worked v1 v2 h = some q) (hq : wk_Q X (vC G) (some (.int q.1)) q.2 (some .int)) : WW X (vC G) h 0 [(0, .ref (cad G 46)), (1, .int v1), (2, .int v2)] [] := by
  unfold f_M_worked at hf
  refine wk_iload_n C 1 dM_worked_0 rfl rfl ?_
  by_cases c_1_0 : v1 = 0
  · have hf := (if_pos c_1_0).symm.trans hf
    refine wk_tableIn (tgt := 40) C dM_worked_1 (z := 0) (by rw [c_1_0]; decide) (by decide) (by decide) rfl rfl ?_
    refine wk_aload_n C 0 dM_worked_40 rfl rfl ?_
    refine wk_iconst C dM_worked_41 kiconst_0 ?_
    refine wk_iconst C dM_worked_42 kiconst_1 ?_
    refine wk_iconst C dM_worked_43 kiconst_0 ?_
    refine wk_iconst C dM_worked_44 kiconst_2 ?_
    obtain ⟨r45, h45, e_45, hf⟩ := bd_some hf
    refine wk_callV (As := [.int 0, .int 1, .int 0, .int 2]) (rest := []) C lw_good cw_M_111 wi_M_add (m_M_add hI e_45) lz_46 (he_46 G (h 46)) rfl rfl rfl (Nat.le_of_ble_eq_true rfl) (by decide) dM_worked_45 ?_
    refine wk_goto (tgt := 154) C dM_worked_48 rfl ?_
    refine wk_aload_n C 0 dM_worked_154 rfl rfl ?_
    refine wk_iconst C dM_worked_155 kiconst_2 ?_
    refine wk_aload_n C 0 dM_worked_156 rfl rfl ?_
    refine gf_M_19 C dM_worked_157 ?_
    obtain ⟨r160, h160, e_160, hf⟩ := bd_some hf
    refine wk_callV (As := [.int 2, .int (h45 46 4)]) (rest := []) C lw_good cw_M_102 wi_M_round (m_M_round hI e_160) lz_46 (he_46 G (h45 46)) rfl rfl rfl (Nat.le_of_ble_eq_true rfl) (by decide) dM_worked_160 ?_
    refine wk_iconst C dM_worked_163 kiconst_0 ?_
    cases hf
    exact wk_ireturn C hq dM_worked_164
  · have hf := (if_neg c_1_0).symm.trans hf
    by_cases c_1_1 : v1 = 1
    · have hf := (if_pos c_1_1).symm.trans hf
      refine wk_tableIn (tgt := 51) C dM_worked_1 (z := 1) (by rw [c_1_1]; decide) (by decide) (by decide) rfl rfl ?_
      refine wk_aload_n C 0 dM_worked_51 rfl rfl ?_
      refine wk_iconst C dM_worked_52 kiconst_0 ?_
      refine wk_iconst C dM_worked_53 kiconst_1 ?_
      refine wk_iconst C dM_worked_54 kiconst_1 ?_
      refine wk_iconst C dM_worked_55 kiconst_2 ?_
      obtain ⟨r56, h56, e_56, hf⟩ := bd_some hf
      refine wk_callV (As := [.int 0, .int 1, .int 1, .int 2]) (rest := []) C lw_good cw_M_111 wi_M_add (m_M_add hI e_56) lz_46 (he_46 G (h 46)) rfl rfl rfl (Nat.le_of_ble_eq_true rfl) (by decide) dM_worked_56 ?_
      refine wk_goto (tgt := 154) C dM_worked_59 rfl ?_
      refine wk_aload_n C 0 dM_worked_154 rfl rfl ?_
      refine wk_iconst C dM_worked_155 kiconst_2 ?_
      refine wk_aload_n C 0 dM_worked_156 rfl rfl ?_
      refine gf_M_19 C dM_worked_157 ?_
      obtain ⟨r160, h160, e_160, hf⟩ := bd_some hf
      refine wk_callV (As := [.int 2, .int (h56 46 4)]) (rest := []) C lw_good cw_M_102 wi_M_round (m_M_round hI e_160) lz_46 (he_46 G (h56 46)) rfl rfl rfl (Nat.le_of_ble_eq_true rfl) (by decide) dM_worked_160 ?_
      refine wk_iconst C dM_worked_163 kiconst_0 ?_
      cases hf
      exact wk_ireturn C hq dM_worked_164
    · have hf := (if_neg c_1_1).symm.trans hf
      by_cases c_1_2 : v1 = 2
      · have hf := (if_pos c_1_2).symm.trans hf
        refine wk_tableIn (tgt := 62) C dM_worked_1 (z := 2) (by rw [c_1_2]; decide) (by decide) (by decide) rfl rfl ?_
        refine wk_aload_n C 0 dM_worked_62 rfl rfl ?_
        refine wk_iconst C dM_worked_63 kiconst_0 ?_
        refine wk_iconst C dM_worked_64 kiconst_1 ?_
        refine wk_iconst C dM_worked_65 kiconst_2 ?_
        obtain ⟨r66, h66, e_66, hf⟩ := bd_some hf
        refine wk_callV (As := [.int 0, .int 1, .int 2]) (rest := []) C lw_good cw_M_105 wi_M_multiply (m_M_multiply hI e_66) lz_46 (he_46 G (h 46)) rfl rfl rfl (Nat.le_of_ble_eq_true rfl) (by decide) dM_worked_66 ?_
        refine wk_goto (tgt := 154) C dM_worked_69 rfl ?_
        refine wk_aload_n C 0 dM_worked_154 rfl rfl ?_
        refine wk_iconst C dM_worked_155 kiconst_2 ?_
        refine wk_aload_n C 0 dM_worked_156 rfl rfl ?_
        refine gf_M_19 C dM_worked_157 ?_
        obtain ⟨r160, h160, e_160, hf⟩ := bd_some hf
        refine wk_callV (As := [.int 2, .int (h66 46 4)]) (rest := []) C lw_good cw_M_102 wi_M_round (m_M_round hI e_160) lz_46 (he_46 G (h66 46)) rfl rfl rfl (Nat.le_of_ble_eq_true rfl) (by decide) dM_worked_160 ?_
        refine wk_iconst C dM_worked_163 kiconst_0 ?_
        cases hf
        exact wk_ireturn C hq dM_worked_164
      · have hf := (if_neg c_1_2).symm.trans hf
        by_cases c_1_3 : v1 = 3
        · have hf := (if_pos c_1_3).symm.trans hf
          refine wk_tableIn (tgt := 72) C dM_worked_1 (z := 3) (by rw [c_1_3]; decide) (by decide) (by decide) rfl rfl ?_
          refine wk_aload_n C 0 dM_worked_72 rfl rfl ?_
          refine wk_iconst C dM_worked_73 kiconst_0 ?_
          refine wk_iconst C dM_worked_74 kiconst_1 ?_
          refine wk_aload_n C 0 dM_worked_75 rfl rfl ?_
          refine gf_M_19 C dM_worked_76 ?_
          refine wk_iconst C dM_worked_79 kiconst_2 ?_
          obtain ⟨r80, h80, e_80, hf⟩ := bd_some hf
          refine wk_callV (As := [.int 0, .int 1, .int (h 46 4), .int 2]) (rest := []) C lw_good cw_M_82 wi_M_divide (m_M_divide hI e_80) lz_46 (he_46 G (h 46)) rfl rfl rfl (Nat.le_of_ble_eq_true rfl) (by decide) dM_worked_80 ?_
          refine wk_aload_n C 0 dM_worked_83 rfl rfl ?_
          refine wk_iconst C dM_worked_84 kiconst_2 ?_
          refine wk_aload_n C 0 dM_worked_85 rfl rfl ?_
          refine gf_M_19 C dM_worked_86 ?_
          obtain ⟨r89, h89, e_89, hf⟩ := bd_some hf
          refine wk_callV (As := [.int 2, .int (h80 46 4)]) (rest := []) C lw_good cw_M_102 wi_M_round (m_M_round hI e_89) lz_46 (he_46 G (h80 46)) rfl rfl rfl (Nat.le_of_ble_eq_true rfl) (by decide) dM_worked_89 ?_
          refine wk_aload_n C 0 dM_worked_92 rfl rfl ?_
          refine wk_iconst C dM_worked_93 kiconst_2 ?_
          obtain ⟨r94, h94, e_94, hf⟩ := bd_some hf
          refine wk_callV (As := [.int 2]) (rest := []) C lw_good cw_M_108 wi_M_noZeros (m_M_noZeros hI e_94) lz_46 (he_46 G (h89 46)) rfl rfl rfl (Nat.le_of_ble_eq_true rfl) (by decide) dM_worked_94 ?_
          refine wk_goto (tgt := 154) C dM_worked_97 rfl ?_
          refine wk_aload_n C 0 dM_worked_154 rfl rfl ?_
          refine wk_iconst C dM_worked_155 kiconst_2 ?_
          refine wk_aload_n C 0 dM_worked_156 rfl rfl ?_
          refine gf_M_19 C dM_worked_157 ?_
          obtain ⟨r160, h160, e_160, hf⟩ := bd_some hf
          refine wk_callV (As := [.int 2, .int (h94 46 4)]) (rest := []) C lw_good cw_M_102 wi_M_round (m_M_round hI e_160) lz_46 (he_46 G (h94 46)) rfl rfl rfl (Nat.le_of_ble_eq_true rfl) (by decide) dM_worked_160 ?_
          refine wk_iconst C dM_worked_163 kiconst_0 ?_
          cases hf
          exact wk_ireturn C hq dM_worked_164
        · have hf := (if_neg c_1_3).symm.trans hf
          by_cases c_1_4 : v1 = 4
          · have hf := (if_pos c_1_4).symm.trans hf
            refine wk_tableIn (tgt := 100) C dM_worked_1 (z := 4) (by rw [c_1_4]; decide) (by decide) (by decide) rfl rfl ?_
            refine wk_aload_n C 0 dM_worked_100 rfl rfl ?_
            refine wk_iconst C dM_worked_101 kiconst_0 ?_
            refine wk_iconst C dM_worked_102 kiconst_1 ?_
            refine wk_iconst C dM_worked_103 kiconst_2 ?_
            obtain ⟨r104, h104, e_104, hf⟩ := bd_some hf
            refine wk_callV (As := [.int 0, .int 1, .int 2]) (rest := []) C lw_good cw_M_115 wi_M_part (m_M_part hI e_104) lz_46 (he_46 G (h 46)) rfl rfl rfl (Nat.le_of_ble_eq_true rfl) (by decide) dM_worked_104 ?_
            refine wk_if_eq (tgt := 114) C dM_worked_107 rfl hf (fun c_107 hf => ?_) (fun c_107 hf => ?_)
            · refine wk_bipush C dM_worked_114 kbipush_26 ?_
              cases hf
              exact wk_ireturn C hq dM_worked_116
            · refine wk_iconst C dM_worked_110 kiconst_0 ?_
              refine wk_goto (tgt := 116) C dM_worked_111 rfl ?_
              cases hf
              exact wk_ireturn C hq dM_worked_116
          · have hf := (if_neg c_1_4).symm.trans hf
            by_cases c_1_5 : v1 = 5
            · have hf := (if_pos c_1_5).symm.trans hf
              refine wk_tableIn (tgt := 117) C dM_worked_1 (z := 5) (by rw [c_1_5]; decide) (by decide) (by decide) rfl rfl ?_
              refine wk_aload_n C 0 dM_worked_117 rfl rfl ?_
              refine wk_iconst C dM_worked_118 kiconst_0 ?_
              refine wk_iconst C dM_worked_119 kiconst_1 ?_
              refine wk_iconst C dM_worked_120 kiconst_2 ?_
              obtain ⟨r121, h121, e_121, hf⟩ := bd_some hf
              refine wk_callV (As := [.int 0, .int 1, .int 2]) (rest := []) C lw_good cw_M_115 wi_M_part (m_M_part hI e_121) lz_46 (he_46 G (h 46)) rfl rfl rfl (Nat.le_of_ble_eq_true rfl) (by decide) dM_worked_121 ?_
              refine wk_if_ne (tgt := 130) C dM_worked_124 rfl hf (fun c_124 hf => ?_) (fun c_124 hf => ?_)
              · refine wk_aload_n C 0 dM_worked_130 rfl rfl ?_
                refine wk_iconst C dM_worked_131 kiconst_1 ?_
                refine wk_iconst C dM_worked_132 kiconst_2 ?_
                refine wk_iconst C dM_worked_133 kiconst_3 ?_
                obtain ⟨r134, h134, e_134, hf⟩ := bd_some hf
                refine wk_callV (As := [.int 1, .int 2, .int 3]) (rest := []) C lw_good cw_M_105 wi_M_multiply (m_M_multiply hI e_134) lz_46 (he_46 G (h121 46)) rfl rfl rfl (Nat.le_of_ble_eq_true rfl) (by decide) dM_worked_134 ?_
                refine wk_aload_n C 0 dM_worked_137 rfl rfl ?_
                refine wk_iconst C dM_worked_138 kiconst_0 ?_
                refine wk_iconst C dM_worked_139 kiconst_3 ?_
                refine wk_iconst C dM_worked_140 kiconst_1 ?_
                refine wk_iconst C dM_worked_141 kiconst_2 ?_
                obtain ⟨r142, h142, e_142, hf⟩ := bd_some hf
                refine wk_callV (As := [.int 0, .int 3, .int 1, .int 2]) (rest := []) C lw_good cw_M_111 wi_M_add (m_M_add hI e_142) lz_46 (he_46 G (h134 46)) rfl rfl rfl (Nat.le_of_ble_eq_true rfl) (by decide) dM_worked_142 ?_
                refine wk_goto (tgt := 154) C dM_worked_145 rfl ?_
                refine wk_aload_n C 0 dM_worked_154 rfl rfl ?_
                refine wk_iconst C dM_worked_155 kiconst_2 ?_
                refine wk_aload_n C 0 dM_worked_156 rfl rfl ?_
                refine gf_M_19 C dM_worked_157 ?_
                obtain ⟨r160, h160, e_160, hf⟩ := bd_some hf
                refine wk_callV (As := [.int 2, .int (h142 46 4)]) (rest := []) C lw_good cw_M_102 wi_M_round (m_M_round hI e_160) lz_46 (he_46 G (h142 46)) rfl rfl rfl (Nat.le_of_ble_eq_true rfl) (by decide) dM_worked_160 ?_
                refine wk_iconst C dM_worked_163 kiconst_0 ?_
                cases hf
                exact wk_ireturn C hq dM_worked_164
              · refine wk_bipush C dM_worked_127 kbipush_26 ?_
                cases hf
                exact wk_ireturn C hq dM_worked_129
            · have hf := (if_neg c_1_5).symm.trans hf
              refine wk_tableOut (tgt := 148) C dM_worked_1 (wk_out6 c_1_0 c_1_1 c_1_2 c_1_3 c_1_4 c_1_5) rfl ?_
              refine wk_aload_n C 0 dM_worked_148 rfl rfl ?_
              refine wk_iload_n C 2 dM_worked_149 rfl rfl ?_
              obtain ⟨r150, h150, e_150, hf⟩ := bd_some hf
              refine wk_callV (As := [.int v2]) (rest := []) C lw_good cw_M_119 wi_M_raise (m_M_raise hI e_150) lz_46 (he_46 G (h 46)) rfl rfl rfl (Nat.le_of_ble_eq_true rfl) (by decide) dM_worked_150 ?_
              cases hf
              exact wk_ireturn C hq dM_worked_153
theorem m_M_worked {l : Launch} {G : cGt} (hI : wd_inj (vC G)) {v1 : Int32} {v2 : Int32} {h h' : Hp} {r : Int32}  (hf : f_M_worked v1 v2 h = some (r, h')) : wk_M l (vC G) yM_worked cM_worked 3 (some .int) 4 95 [.ref (cad G 46), .int v1, .int v2] h (some (.int r)) h' :=
  wk_met hI (by decide +kernel) rfl (Nat.le_of_ble_eq_true rfl) (wk_cat1 rfl) (fun X hX C hq => by subst hX; exact b_M_worked hI C  hf hq)
set_option maxHeartbeats 4000000 in
set_option maxRecDepth 100000 in
theorem b_M_work_131 {X : wk_X} {G : cGt} (hI : wd_inj (vC G)) (C : wk_C X (vC G) cM_work RM 7 5 117) {v1 : Int32} {v4 : Int32} {v5 : Int32} {h : Hp} {q : Int32 × Hp}  (hf : f_M_work_131 v1 v4 v5 h = some q) (hq : wk_Q X (vC G) (some (.int q.1)) q.2 (some .int)) : WW X (vC G) h 131 [(0, .ref (cad G 46)), (1, .int v1), (4, .int v4), (5, .int v5)] [] := by
  unfold f_M_work_131 at hf
  refine wk_aload_n C 0 dM_work_131 rfl rfl ?_
  refine wk_iload_n C 1 dM_work_132 rfl rfl ?_
  refine wk_iload C dM_work_133 rfl ?_
  obtain ⟨r135, h135, e_135, hf⟩ := bd_some hf
  refine wk_callV (As := [.int v1, .int v5]) (rest := []) C lw_good cw_M_132 wi_M_worked (m_M_worked hI e_135) lz_46 (he_46 G (h 46)) rfl rfl rfl (Nat.le_of_ble_eq_true rfl) (by decide) dM_work_135 ?_
  refine wk_istore C dM_work_138 (by decide) ?_
  refine wk_iload C dM_work_140 rfl ?_
  refine wk_if_le (tgt := 151) C dM_work_142 rfl hf (fun c_142 hf => ?_) (fun c_142 hf => ?_)
  · refine wk_aload_n C 0 dM_work_151 rfl rfl ?_
    refine wk_iconst C dM_work_152 kiconst_2 ?_
    refine wk_iload C dM_work_153 rfl ?_
    obtain ⟨r155, h155, e_155, hf⟩ := bd_some hf
    refine wk_callV (As := [.int 2, .int v4]) (rest := []) C lw_good cw_M_135 wi_M_answer (m_M_answer hI e_155) lz_46 (he_46 G (h135 46)) rfl rfl rfl (Nat.le_of_ble_eq_true rfl) (by decide) dM_work_155 ?_
    cases hf
    exact wk_ireturn C hq dM_work_158
  · refine wk_iload C dM_work_145 rfl ?_
    refine wk_ineg C dM_work_147 ?_
    refine wk_goto (tgt := 158) C dM_work_148 rfl ?_
    cases hf
    exact wk_ireturn C hq dM_work_158
set_option maxHeartbeats 4000000 in
set_option maxRecDepth 100000 in
theorem b_M_work_91 {X : wk_X} {G : cGt} (hI : wd_inj (vC G)) (C : wk_C X (vC G) cM_work RM 7 5 117) {v1 : Int32} {v4 : Int32} {v5 : Int32} {h : Hp} {q : Int32 × Hp}  (hf : f_M_work_91 v1 v4 v5 h = some q) (hq : wk_Q X (vC G) (some (.int q.1)) q.2 (some .int)) : WW X (vC G) h 91 [(0, .ref (cad G 46)), (1, .int v1), (4, .int v4), (5, .int v5)] [] := by
  unfold f_M_work_91 at hf
  refine wk_aload_n C 0 dM_work_91 rfl rfl ?_
  refine wk_iconst C dM_work_92 kiconst_0 ?_
  refine wk_aload_n C 0 dM_work_93 rfl rfl ?_
  refine gf_M_19 C dM_work_94 ?_
  obtain ⟨r97, h97, e_97, hf⟩ := bd_some hf
  refine wk_callV (As := [.int 0, .int (h 46 4)]) (rest := []) C lw_good cw_M_102 wi_M_round (m_M_round hI e_97) lz_46 (he_46 G (h 46)) rfl rfl rfl (Nat.le_of_ble_eq_true rfl) (by decide) dM_work_97 ?_
  refine wk_aload_n C 0 dM_work_100 rfl rfl ?_
  refine wk_iconst C dM_work_101 kiconst_1 ?_
  refine wk_aload_n C 0 dM_work_102 rfl rfl ?_
  refine gf_M_19 C dM_work_103 ?_
  obtain ⟨r106, h106, e_106, hf⟩ := bd_some hf
  refine wk_callV (As := [.int 1, .int (h97 46 4)]) (rest := []) C lw_good cw_M_102 wi_M_round (m_M_round hI e_106) lz_46 (he_46 G (h97 46)) rfl rfl rfl (Nat.le_of_ble_eq_true rfl) (by decide) dM_work_106 ?_
  refine wk_iload_n C 1 dM_work_109 rfl rfl ?_
  refine wk_iconst C dM_work_110 kiconst_3 ?_
  refine wk_icmp_lt (tgt := 131) C dM_work_111 rfl hf (fun c_111 hf => ?_) (fun c_111 hf => ?_)
  · exact wk_go (b_M_work_131 hI C hf hq) (And.intro rfl (And.intro rfl (And.intro rfl (And.intro rfl trivial))))
  · refine wk_iload_n C 1 dM_work_114 rfl rfl ?_
    refine wk_iconst C dM_work_115 kiconst_5 ?_
    refine wk_icmp_gt (tgt := 131) C dM_work_116 rfl hf (fun c_116 hf => ?_) (fun c_116 hf => ?_)
    · exact wk_go (b_M_work_131 hI C hf hq) (And.intro rfl (And.intro rfl (And.intro rfl (And.intro rfl trivial))))
    · refine wk_aload_n C 0 dM_work_119 rfl rfl ?_
      refine gf_M_32 C dM_work_120 ?_
      refine wk_iconst C dM_work_123 kiconst_1 ?_
      obtain ⟨c_124, hf⟩ := chk_some hf
      refine al_53 C c_124 dM_work_124 ?_
      refine wk_if_ne (tgt := 131) C dM_work_125 rfl hf (fun c_125 hf => ?_) (fun c_125 hf => ?_)
      · exact wk_go (b_M_work_131 hI C hf hq) (And.intro rfl (And.intro rfl (And.intro rfl (And.intro rfl trivial))))
      · refine wk_bipush C dM_work_128 kbipush_m42 ?_
        cases hf
        exact wk_ireturn C hq dM_work_130
set_option maxHeartbeats 4000000 in
set_option maxRecDepth 100000 in
theorem b_M_work {X : wk_X} {G : cGt} (hI : wd_inj (vC G)) (C : wk_C X (vC G) cM_work RM 7 5 117) {v1 : Int32} {v2 : Int32} {v3 : Int32} {v4 : Int32} {h : Hp} {q : Int32 × Hp}  (hf : f_M_work v1 v2 v3 v4 h = some q) (hq : wk_Q X (vC G) (some (.int q.1)) q.2 (some .int)) : WW X (vC G) h 0 [(0, .ref (cad G 46)), (1, .int v1), (2, .int v2), (3, .int v3), (4, .int v4)] [] := by
  unfold f_M_work at hf
  refine wk_iload_n C 2 dM_work_0 rfl rfl ?_
  obtain ⟨r1, h1, e_1, hf⟩ := bd_some hf
  refine wk_callS (As := [.int v2]) (rest := []) C lw_good cw_M_48 ws_M_isRegister (m_M_isRegister hI e_1) rfl rfl (Nat.le_of_ble_eq_true rfl) (by decide) dM_work_1 ?_
  refine wk_if_eq (tgt := 32) C dM_work_4 rfl hf (fun c_4 hf => ?_) (fun c_4 hf => ?_)
  · refine wk_iconst C dM_work_32 kiconst_m1 ?_
    cases hf
    exact wk_ireturn C hq dM_work_33
  · refine wk_iload_n C 3 dM_work_7 rfl rfl ?_
    obtain ⟨r8, h8, e_8, hf⟩ := bd_some hf
    refine wk_callS (As := [.int v3]) (rest := []) C lw_good cw_M_48 ws_M_isRegister (m_M_isRegister hI e_8) rfl rfl (Nat.le_of_ble_eq_true rfl) (by decide) dM_work_8 ?_
    refine wk_if_eq (tgt := 32) C dM_work_11 rfl hf (fun c_11 hf => ?_) (fun c_11 hf => ?_)
    · refine wk_iconst C dM_work_32 kiconst_m1 ?_
      cases hf
      exact wk_ireturn C hq dM_work_33
    · refine wk_iload C dM_work_14 rfl ?_
      obtain ⟨r16, h16, e_16, hf⟩ := bd_some hf
      refine wk_callS (As := [.int v4]) (rest := []) C lw_good cw_M_48 ws_M_isRegister (m_M_isRegister hI e_16) rfl rfl (Nat.le_of_ble_eq_true rfl) (by decide) dM_work_16 ?_
      refine wk_if_eq (tgt := 32) C dM_work_19 rfl hf (fun c_19 hf => ?_) (fun c_19 hf => ?_)
      · refine wk_iconst C dM_work_32 kiconst_m1 ?_
        cases hf
        exact wk_ireturn C hq dM_work_33
      · refine wk_iload_n C 1 dM_work_22 rfl rfl ?_
        refine wk_if_lt (tgt := 32) C dM_work_23 rfl hf (fun c_23 hf => ?_) (fun c_23 hf => ?_)
        · refine wk_iconst C dM_work_32 kiconst_m1 ?_
          cases hf
          exact wk_ireturn C hq dM_work_33
        · refine wk_iload_n C 1 dM_work_26 rfl rfl ?_
          refine wk_bipush C dM_work_27 kbipush_6 ?_
          refine wk_icmp_le (tgt := 34) C dM_work_29 rfl hf (fun c_29 hf => ?_) (fun c_29 hf => ?_)
          · refine wk_aload_n C 0 dM_work_34 rfl rfl ?_
            refine wk_iload_n C 2 dM_work_35 rfl rfl ?_
            refine wk_iconst C dM_work_36 kiconst_0 ?_
            obtain ⟨r37, h37, e_37, hf⟩ := bd_some hf
            refine wk_callV (As := [.int v2, .int 0]) (rest := []) C lw_good cw_M_122 wi_M_read (m_M_read hI e_37) lz_46 (he_46 G (h16 46)) rfl rfl rfl (Nat.le_of_ble_eq_true rfl) (by decide) dM_work_37 ?_
            refine wk_if_eq (tgt := 52) C dM_work_40 rfl hf (fun c_40 hf => ?_) (fun c_40 hf => ?_)
            · refine wk_bipush C dM_work_52 kbipush_m41 ?_
              cases hf
              exact wk_ireturn C hq dM_work_54
            · refine wk_aload_n C 0 dM_work_43 rfl rfl ?_
              refine wk_iload_n C 3 dM_work_44 rfl rfl ?_
              refine wk_iconst C dM_work_45 kiconst_1 ?_
              obtain ⟨r46, h46, e_46, hf⟩ := bd_some hf
              refine wk_callV (As := [.int v3, .int 1]) (rest := []) C lw_good cw_M_122 wi_M_read (m_M_read hI e_46) lz_46 (he_46 G (h37 46)) rfl rfl rfl (Nat.le_of_ble_eq_true rfl) (by decide) dM_work_46 ?_
              refine wk_if_ne (tgt := 55) C dM_work_49 rfl hf (fun c_49 hf => ?_) (fun c_49 hf => ?_)
              · refine wk_iconst C dM_work_55 kiconst_0 ?_
                refine wk_istore C dM_work_56 (by decide) ?_
                refine wk_iload_n C 1 dM_work_58 rfl rfl ?_
                refine wk_bipush C dM_work_59 kbipush_6 ?_
                refine wk_icmp_ne (tgt := 91) C dM_work_61 rfl hf (fun c_61 hf => ?_) (fun c_61 hf => ?_)
                · exact wk_go (b_M_work_91 hI C hf hq) (And.intro rfl (And.intro rfl (And.intro rfl (And.intro rfl trivial))))
                · refine wk_aload_n C 0 dM_work_64 rfl rfl ?_
                  refine wk_iconst C dM_work_65 kiconst_1 ?_
                  obtain ⟨r66, h66, e_66, hf⟩ := bd_some hf
                  refine wk_callV (As := [.int 1]) (rest := []) C lw_good cw_M_126 wi_M_isWhole (m_M_isWhole hI e_66) lz_46 (he_46 G (h46 46)) rfl rfl rfl (Nat.le_of_ble_eq_true rfl) (by decide) dM_work_66 ?_
                  refine wk_if_eq (tgt := 81) C dM_work_69 rfl hf (fun c_69 hf => ?_) (fun c_69 hf => ?_)
                  · refine wk_bipush C dM_work_81 kbipush_m26 ?_
                    cases hf
                    exact wk_ireturn C hq dM_work_83
                  · refine wk_aload_n C 0 dM_work_72 rfl rfl ?_
                    refine wk_iconst C dM_work_73 kiconst_1 ?_
                    obtain ⟨r74, h74, e_74, hf⟩ := bd_some hf
                    refine wk_callV (As := [.int 1]) (rest := []) C lw_good cw_M_67 wi_M_high (m_M_high hI e_74) lz_46 (he_46 G (h66 46)) rfl rfl rfl (Nat.le_of_ble_eq_true rfl) (by decide) dM_work_74 ?_
                    refine wk_iconst C dM_work_77 kiconst_2 ?_
                    refine wk_icmp_le (tgt := 84) C dM_work_78 rfl hf (fun c_78 hf => ?_) (fun c_78 hf => ?_)
                    · refine wk_aload_n C 0 dM_work_84 rfl rfl ?_
                      refine wk_iconst C dM_work_85 kiconst_1 ?_
                      obtain ⟨r86, h86, e_86, hf⟩ := bd_some hf
                      refine wk_callV (As := [.int 1]) (rest := []) C lw_good cw_M_129 wi_M_valueOf (m_M_valueOf hI e_86) lz_46 (he_46 G (h74 46)) rfl rfl rfl (Nat.le_of_ble_eq_true rfl) (by decide) dM_work_86 ?_
                      refine wk_istore C dM_work_89 (by decide) ?_
                      exact wk_go (b_M_work_91 hI C hf hq) (And.intro rfl (And.intro rfl (And.intro rfl (And.intro rfl trivial))))
                    · refine wk_bipush C dM_work_81 kbipush_m26 ?_
                      cases hf
                      exact wk_ireturn C hq dM_work_83
              · refine wk_bipush C dM_work_52 kbipush_m41 ?_
                cases hf
                exact wk_ireturn C hq dM_work_54
          · refine wk_iconst C dM_work_32 kiconst_m1 ?_
            cases hf
            exact wk_ireturn C hq dM_work_33
theorem m_M_work {l : Launch} {G : cGt} (hI : wd_inj (vC G)) {v1 : Int32} {v2 : Int32} {v3 : Int32} {v4 : Int32} {h h' : Hp} {r : Int32}  (hf : f_M_work v1 v2 v3 v4 h = some (r, h')) : wk_M l (vC G) yM_work cM_work 7 (some .int) 5 117 [.ref (cad G 46), .int v1, .int v2, .int v3, .int v4] h (some (.int r)) h' :=
  wk_met hI (by decide +kernel) rfl (Nat.le_of_ble_eq_true rfl) (wk_cat1 rfl) (fun X hX C hq => by subst hX; exact b_M_work hI C  hf hq)
set_option maxHeartbeats 4000000 in
set_option maxRecDepth 100000 in
theorem b_M_turn_126 {X : wk_X} {G : cGt} (hI : wd_inj (vC G)) (C : wk_C X (vC G) cM_turn RM 5 5 116) {v3 : Int32} {s1 : Int32} {h : Hp} {q : Int32 × Hp}  (hf : f_M_turn_126 v3 s1 h = some q) (hq : wk_Q X (vC G) (some (.int q.1)) q.2 (some .int)) : WW X (vC G) h 126 [(0, .ref (cad G 46)), (3, .int v3)] [.int s1, .ref (cad G 53)] := by
  unfold f_M_turn_126 at hf
  refine wk_aload_n C 0 dM_turn_126 rfl rfl ?_
  refine gf_M_32 C dM_turn_127 ?_
  refine wk_iconst C dM_turn_130 kiconst_0 ?_
  obtain ⟨c_131, hf⟩ := chk_some hf
  refine al_53 C c_131 dM_turn_131 ?_
  obtain ⟨c_132, hf⟩ := chk_some hf
  refine as_53 C c_132 dM_turn_132 ?_
  refine wk_aload_n C 0 dM_turn_133 rfl rfl ?_
  refine wk_iconst C dM_turn_134 kiconst_0 ?_
  refine wk_iload_n C 3 dM_turn_135 rfl rfl ?_
  obtain ⟨r136, h136, e_136, hf⟩ := bd_some hf
  refine wk_callV (As := [.int 0, .int v3]) (rest := []) C lw_good cw_M_135 wi_M_answer (m_M_answer hI e_136) lz_46 (he_46 G ((up2 h 53 (Int32.toNatClampNeg s1) (h 53 (Int32.toNatClampNeg 0))) 46)) rfl rfl rfl (Nat.le_of_ble_eq_true rfl) (by decide) dM_turn_136 ?_
  cases hf
  exact wk_ireturn C hq dM_turn_139
set_option maxHeartbeats 4000000 in
set_option maxRecDepth 100000 in
theorem b_M_turn_88 {X : wk_X} {G : cGt} (hI : wd_inj (vC G)) (C : wk_C X (vC G) cM_turn RM 5 5 116) {v1 : Int32} {v3 : Int32} {h : Hp} {q : Int32 × Hp}  (hf : f_M_turn_88 v1 v3 h = some q) (hq : wk_Q X (vC G) (some (.int q.1)) q.2 (some .int)) : WW X (vC G) h 88 [(0, .ref (cad G 46)), (1, .int v1), (3, .int v3)] [] := by
  unfold f_M_turn_88 at hf
  refine wk_aload_n C 0 dM_turn_88 rfl rfl ?_
  refine gf_M_32 C dM_turn_89 ?_
  refine wk_iconst C dM_turn_92 kiconst_0 ?_
  refine wk_iload_n C 1 dM_turn_93 rfl rfl ?_
  refine wk_iconst C dM_turn_94 kiconst_1 ?_
  refine wk_icmp_ne (tgt := 108) C dM_turn_95 rfl hf (fun c_95 hf => ?_) (fun c_95 hf => ?_)
  · refine wk_iload_n C 1 dM_turn_108 rfl rfl ?_
    refine wk_iconst C dM_turn_109 kiconst_2 ?_
    refine wk_icmp_ne (tgt := 126) C dM_turn_110 rfl hf (fun c_110 hf => ?_) (fun c_110 hf => ?_)
    · exact wk_go (b_M_turn_126 hI C hf hq) (And.intro rfl (And.intro rfl trivial))
    · refine wk_aload_n C 0 dM_turn_113 rfl rfl ?_
      refine gf_M_32 C dM_turn_114 ?_
      refine wk_iconst C dM_turn_117 kiconst_0 ?_
      obtain ⟨c_118, hf⟩ := chk_some hf
      refine al_53 C c_118 dM_turn_118 ?_
      refine wk_if_ge (tgt := 126) C dM_turn_119 rfl hf (fun c_119 hf => ?_) (fun c_119 hf => ?_)
      · exact wk_go (b_M_turn_126 hI C hf hq) (And.intro rfl (And.intro rfl trivial))
      · refine wk_iconst C dM_turn_122 kiconst_1 ?_
        refine wk_goto (tgt := 132) C dM_turn_123 rfl ?_
        obtain ⟨c_132, hf⟩ := chk_some hf
        refine as_53 C c_132 dM_turn_132 ?_
        refine wk_aload_n C 0 dM_turn_133 rfl rfl ?_
        refine wk_iconst C dM_turn_134 kiconst_0 ?_
        refine wk_iload_n C 3 dM_turn_135 rfl rfl ?_
        obtain ⟨r136, h136, e_136, hf⟩ := bd_some hf
        refine wk_callV (As := [.int 0, .int v3]) (rest := []) C lw_good cw_M_135 wi_M_answer (m_M_answer hI e_136) lz_46 (he_46 G ((up2 h 53 (Int32.toNatClampNeg 0) 1) 46)) rfl rfl rfl (Nat.le_of_ble_eq_true rfl) (by decide) dM_turn_136 ?_
        cases hf
        exact wk_ireturn C hq dM_turn_139
  · refine wk_aload_n C 0 dM_turn_98 rfl rfl ?_
    refine gf_M_32 C dM_turn_99 ?_
    refine wk_iconst C dM_turn_102 kiconst_0 ?_
    obtain ⟨c_103, hf⟩ := chk_some hf
    refine al_53 C c_103 dM_turn_103 ?_
    refine wk_ineg C dM_turn_104 ?_
    refine wk_goto (tgt := 132) C dM_turn_105 rfl ?_
    obtain ⟨c_132, hf⟩ := chk_some hf
    refine as_53 C c_132 dM_turn_132 ?_
    refine wk_aload_n C 0 dM_turn_133 rfl rfl ?_
    refine wk_iconst C dM_turn_134 kiconst_0 ?_
    refine wk_iload_n C 3 dM_turn_135 rfl rfl ?_
    obtain ⟨r136, h136, e_136, hf⟩ := bd_some hf
    refine wk_callV (As := [.int 0, .int v3]) (rest := []) C lw_good cw_M_135 wi_M_answer (m_M_answer hI e_136) lz_46 (he_46 G ((up2 h 53 (Int32.toNatClampNeg 0) (-(h 53 (Int32.toNatClampNeg 0)))) 46)) rfl rfl rfl (Nat.le_of_ble_eq_true rfl) (by decide) dM_turn_136 ?_
    cases hf
    exact wk_ireturn C hq dM_turn_139
set_option maxHeartbeats 4000000 in
set_option maxRecDepth 100000 in
theorem b_M_turn {X : wk_X} {G : cGt} (hI : wd_inj (vC G)) (C : wk_C X (vC G) cM_turn RM 5 5 116) {v1 : Int32} {v2 : Int32} {v3 : Int32} {h : Hp} {q : Int32 × Hp}  (hf : f_M_turn v1 v2 v3 h = some q) (hq : wk_Q X (vC G) (some (.int q.1)) q.2 (some .int)) : WW X (vC G) h 0 [(0, .ref (cad G 46)), (1, .int v1), (2, .int v2), (3, .int v3)] [] := by
  unfold f_M_turn at hf
  refine wk_iload_n C 2 dM_turn_0 rfl rfl ?_
  obtain ⟨r1, h1, e_1, hf⟩ := bd_some hf
  refine wk_callS (As := [.int v2]) (rest := []) C lw_good cw_M_48 ws_M_isRegister (m_M_isRegister hI e_1) rfl rfl (Nat.le_of_ble_eq_true rfl) (by decide) dM_turn_1 ?_
  refine wk_if_eq (tgt := 23) C dM_turn_4 rfl hf (fun c_4 hf => ?_) (fun c_4 hf => ?_)
  · refine wk_iconst C dM_turn_23 kiconst_m1 ?_
    cases hf
    exact wk_ireturn C hq dM_turn_24
  · refine wk_iload_n C 3 dM_turn_7 rfl rfl ?_
    obtain ⟨r8, h8, e_8, hf⟩ := bd_some hf
    refine wk_callS (As := [.int v3]) (rest := []) C lw_good cw_M_48 ws_M_isRegister (m_M_isRegister hI e_8) rfl rfl (Nat.le_of_ble_eq_true rfl) (by decide) dM_turn_8 ?_
    refine wk_if_eq (tgt := 23) C dM_turn_11 rfl hf (fun c_11 hf => ?_) (fun c_11 hf => ?_)
    · refine wk_iconst C dM_turn_23 kiconst_m1 ?_
      cases hf
      exact wk_ireturn C hq dM_turn_24
    · refine wk_iload_n C 1 dM_turn_14 rfl rfl ?_
      refine wk_if_lt (tgt := 23) C dM_turn_15 rfl hf (fun c_15 hf => ?_) (fun c_15 hf => ?_)
      · refine wk_iconst C dM_turn_23 kiconst_m1 ?_
        cases hf
        exact wk_ireturn C hq dM_turn_24
      · refine wk_iload_n C 1 dM_turn_18 rfl rfl ?_
        refine wk_iconst C dM_turn_19 kiconst_3 ?_
        refine wk_icmp_le (tgt := 25) C dM_turn_20 rfl hf (fun c_20 hf => ?_) (fun c_20 hf => ?_)
        · refine wk_aload_n C 0 dM_turn_25 rfl rfl ?_
          refine wk_iload_n C 2 dM_turn_26 rfl rfl ?_
          refine wk_iconst C dM_turn_27 kiconst_0 ?_
          obtain ⟨r28, h28, e_28, hf⟩ := bd_some hf
          refine wk_callV (As := [.int v2, .int 0]) (rest := []) C lw_good cw_M_122 wi_M_read (m_M_read hI e_28) lz_46 (he_46 G (h8 46)) rfl rfl rfl (Nat.le_of_ble_eq_true rfl) (by decide) dM_turn_28 ?_
          refine wk_if_ne (tgt := 37) C dM_turn_31 rfl hf (fun c_31 hf => ?_) (fun c_31 hf => ?_)
          · refine wk_aload_n C 0 dM_turn_37 rfl rfl ?_
            refine wk_iconst C dM_turn_38 kiconst_0 ?_
            refine wk_aload_n C 0 dM_turn_39 rfl rfl ?_
            refine gf_M_19 C dM_turn_40 ?_
            obtain ⟨r43, h43, e_43, hf⟩ := bd_some hf
            refine wk_callV (As := [.int 0, .int (h28 46 4)]) (rest := []) C lw_good cw_M_102 wi_M_round (m_M_round hI e_43) lz_46 (he_46 G (h28 46)) rfl rfl rfl (Nat.le_of_ble_eq_true rfl) (by decide) dM_turn_43 ?_
            refine wk_iload_n C 1 dM_turn_46 rfl rfl ?_
            refine wk_iconst C dM_turn_47 kiconst_3 ?_
            refine wk_icmp_ne (tgt := 88) C dM_turn_48 rfl hf (fun c_48 hf => ?_) (fun c_48 hf => ?_)
            · exact wk_go (b_M_turn_88 hI C hf hq) (And.intro rfl (And.intro rfl (And.intro rfl trivial)))
            · refine wk_aload_n C 0 dM_turn_51 rfl rfl ?_
              refine gf_M_32 C dM_turn_52 ?_
              refine wk_iconst C dM_turn_55 kiconst_0 ?_
              obtain ⟨c_56, hf⟩ := chk_some hf
              refine al_53 C c_56 dM_turn_56 ?_
              refine wk_istore C dM_turn_57 (by decide) ?_
              refine wk_aload_n C 0 dM_turn_59 rfl rfl ?_
              refine wk_iconst C dM_turn_60 kiconst_0 ?_
              obtain ⟨r61, h61, e_61, hf⟩ := bd_some hf
              refine wk_callV (As := [.int 0]) (rest := []) C lw_good cw_M_58 wi_M_zero (m_M_zero hI e_61) lz_46 (he_46 G (h43 46)) rfl rfl rfl (Nat.le_of_ble_eq_true rfl) (by decide) dM_turn_61 ?_
              refine wk_aload_n C 0 dM_turn_64 rfl rfl ?_
              refine gf_M_32 C dM_turn_65 ?_
              refine wk_iconst C dM_turn_68 kiconst_0 ?_
              refine wk_iload C dM_turn_69 rfl ?_
              obtain ⟨c_71, hf⟩ := chk_some hf
              refine as_53 C c_71 dM_turn_71 ?_
              refine wk_aload_n C 0 dM_turn_72 rfl rfl ?_
              refine gf_M_23 C dM_turn_73 ?_
              refine wk_iconst C dM_turn_76 kiconst_0 ?_
              refine wk_iload C dM_turn_77 rfl ?_
              refine wk_if_ne (tgt := 86) C dM_turn_79 rfl hf (fun c_79 hf => ?_) (fun c_79 hf => ?_)
              · refine wk_iconst C dM_turn_86 kiconst_1 ?_
                obtain ⟨c_87, hf⟩ := chk_some hf
                refine as_50 C c_87 dM_turn_87 ?_
                exact wk_go (b_M_turn_88 hI C hf hq) (And.intro rfl (And.intro rfl (And.intro rfl trivial)))
              · refine wk_iconst C dM_turn_82 kiconst_0 ?_
                refine wk_goto (tgt := 87) C dM_turn_83 rfl ?_
                obtain ⟨c_87, hf⟩ := chk_some hf
                refine as_50 C c_87 dM_turn_87 ?_
                exact wk_go (b_M_turn_88 hI C hf hq) (And.intro rfl (And.intro rfl (And.intro rfl trivial)))
          · refine wk_bipush C dM_turn_34 kbipush_m41 ?_
            cases hf
            exact wk_ireturn C hq dM_turn_36
        · refine wk_iconst C dM_turn_23 kiconst_m1 ?_
          cases hf
          exact wk_ireturn C hq dM_turn_24
theorem m_M_turn {l : Launch} {G : cGt} (hI : wd_inj (vC G)) {v1 : Int32} {v2 : Int32} {v3 : Int32} {h h' : Hp} {r : Int32}  (hf : f_M_turn v1 v2 v3 h = some (r, h')) : wk_M l (vC G) yM_turn cM_turn 5 (some .int) 5 116 [.ref (cad G 46), .int v1, .int v2, .int v3] h (some (.int r)) h' :=
  wk_met hI (by decide +kernel) rfl (Nat.le_of_ble_eq_true rfl) (wk_cat1 rfl) (fun X hX C hq => by subst hX; exact b_M_turn hI C  hf hq)
set_option maxHeartbeats 4000000 in
set_option maxRecDepth 100000 in
theorem b_M_most_103 {X : wk_X} {G : cGt} (hI : wd_inj (vC G)) (C : wk_C X (vC G) cM_most RM 6 5 116) {v3 : Int32} {s0 : Int32} {h : Hp} {q : Int32 × Hp}  (hf : f_M_most_103 v3 s0 h = some q) (hq : wk_Q X (vC G) (some (.int q.1)) q.2 (some .int)) : WW X (vC G) h 103 [(0, .ref (cad G 46)), (3, .int v3)] [.int s0] := by
  unfold f_M_most_103 at hf
  refine wk_istore C dM_most_103 (by decide) ?_
  refine wk_aload_n C 0 dM_most_105 rfl rfl ?_
  refine wk_iload C dM_most_106 rfl ?_
  refine wk_if_eq (tgt := 115) C dM_most_108 rfl hf (fun c_108 hf => ?_) (fun c_108 hf => ?_)
  · refine wk_iconst C dM_most_115 kiconst_1 ?_
    refine wk_iload_n C 3 dM_most_116 rfl rfl ?_
    obtain ⟨r117, h117, e_117, hf⟩ := bd_some hf
    refine wk_callV (As := [.int 1, .int v3]) (rest := []) C lw_good cw_M_135 wi_M_answer (m_M_answer hI e_117) lz_46 (he_46 G (h 46)) rfl rfl rfl (Nat.le_of_ble_eq_true rfl) (by decide) dM_most_117 ?_
    cases hf
    exact wk_ireturn C hq dM_most_120
  · refine wk_iconst C dM_most_111 kiconst_0 ?_
    refine wk_goto (tgt := 116) C dM_most_112 rfl ?_
    refine wk_iload_n C 3 dM_most_116 rfl rfl ?_
    obtain ⟨r117, h117, e_117, hf⟩ := bd_some hf
    refine wk_callV (As := [.int 0, .int v3]) (rest := []) C lw_good cw_M_135 wi_M_answer (m_M_answer hI e_117) lz_46 (he_46 G (h 46)) rfl rfl rfl (Nat.le_of_ble_eq_true rfl) (by decide) dM_most_117 ?_
    cases hf
    exact wk_ireturn C hq dM_most_120
set_option maxHeartbeats 4000000 in
set_option maxRecDepth 100000 in
theorem b_M_most {X : wk_X} {G : cGt} (hI : wd_inj (vC G)) (C : wk_C X (vC G) cM_most RM 6 5 116) {v1 : Int32} {v2 : Int32} {v3 : Int32} {v4 : Int32} {h : Hp} {q : Int32 × Hp}  (hf : f_M_most v1 v2 v3 v4 h = some q) (hq : wk_Q X (vC G) (some (.int q.1)) q.2 (some .int)) : WW X (vC G) h 0 [(0, .ref (cad G 46)), (1, .int v1), (2, .int v2), (3, .int v3), (4, .int v4)] [] := by
  unfold f_M_most at hf
  refine wk_iload_n C 1 dM_most_0 rfl rfl ?_
  obtain ⟨r1, h1, e_1, hf⟩ := bd_some hf
  refine wk_callS (As := [.int v1]) (rest := []) C lw_good cw_M_48 ws_M_isRegister (m_M_isRegister hI e_1) rfl rfl (Nat.le_of_ble_eq_true rfl) (by decide) dM_most_1 ?_
  refine wk_if_eq (tgt := 21) C dM_most_4 rfl hf (fun c_4 hf => ?_) (fun c_4 hf => ?_)
  · refine wk_iconst C dM_most_21 kiconst_m1 ?_
    cases hf
    exact wk_ireturn C hq dM_most_22
  · refine wk_iload_n C 2 dM_most_7 rfl rfl ?_
    obtain ⟨r8, h8, e_8, hf⟩ := bd_some hf
    refine wk_callS (As := [.int v2]) (rest := []) C lw_good cw_M_48 ws_M_isRegister (m_M_isRegister hI e_8) rfl rfl (Nat.le_of_ble_eq_true rfl) (by decide) dM_most_8 ?_
    refine wk_if_eq (tgt := 21) C dM_most_11 rfl hf (fun c_11 hf => ?_) (fun c_11 hf => ?_)
    · refine wk_iconst C dM_most_21 kiconst_m1 ?_
      cases hf
      exact wk_ireturn C hq dM_most_22
    · refine wk_iload_n C 3 dM_most_14 rfl rfl ?_
      obtain ⟨r15, h15, e_15, hf⟩ := bd_some hf
      refine wk_callS (As := [.int v3]) (rest := []) C lw_good cw_M_48 ws_M_isRegister (m_M_isRegister hI e_15) rfl rfl (Nat.le_of_ble_eq_true rfl) (by decide) dM_most_15 ?_
      refine wk_if_ne (tgt := 23) C dM_most_18 rfl hf (fun c_18 hf => ?_) (fun c_18 hf => ?_)
      · refine wk_aload_n C 0 dM_most_23 rfl rfl ?_
        refine wk_iload_n C 1 dM_most_24 rfl rfl ?_
        refine wk_iconst C dM_most_25 kiconst_0 ?_
        obtain ⟨r26, h26, e_26, hf⟩ := bd_some hf
        refine wk_callV (As := [.int v1, .int 0]) (rest := []) C lw_good cw_M_122 wi_M_read (m_M_read hI e_26) lz_46 (he_46 G (h15 46)) rfl rfl rfl (Nat.le_of_ble_eq_true rfl) (by decide) dM_most_26 ?_
        refine wk_if_eq (tgt := 41) C dM_most_29 rfl hf (fun c_29 hf => ?_) (fun c_29 hf => ?_)
        · refine wk_bipush C dM_most_41 kbipush_m41 ?_
          cases hf
          exact wk_ireturn C hq dM_most_43
        · refine wk_aload_n C 0 dM_most_32 rfl rfl ?_
          refine wk_iload_n C 2 dM_most_33 rfl rfl ?_
          refine wk_iconst C dM_most_34 kiconst_1 ?_
          obtain ⟨r35, h35, e_35, hf⟩ := bd_some hf
          refine wk_callV (As := [.int v2, .int 1]) (rest := []) C lw_good cw_M_122 wi_M_read (m_M_read hI e_35) lz_46 (he_46 G (h26 46)) rfl rfl rfl (Nat.le_of_ble_eq_true rfl) (by decide) dM_most_35 ?_
          refine wk_if_ne (tgt := 44) C dM_most_38 rfl hf (fun c_38 hf => ?_) (fun c_38 hf => ?_)
          · refine wk_aload_n C 0 dM_most_44 rfl rfl ?_
            refine wk_iconst C dM_most_45 kiconst_0 ?_
            refine wk_aload_n C 0 dM_most_46 rfl rfl ?_
            refine gf_M_19 C dM_most_47 ?_
            obtain ⟨r50, h50, e_50, hf⟩ := bd_some hf
            refine wk_callV (As := [.int 0, .int (h35 46 4)]) (rest := []) C lw_good cw_M_102 wi_M_round (m_M_round hI e_50) lz_46 (he_46 G (h35 46)) rfl rfl rfl (Nat.le_of_ble_eq_true rfl) (by decide) dM_most_50 ?_
            refine wk_aload_n C 0 dM_most_53 rfl rfl ?_
            refine wk_iconst C dM_most_54 kiconst_1 ?_
            refine wk_aload_n C 0 dM_most_55 rfl rfl ?_
            refine gf_M_19 C dM_most_56 ?_
            obtain ⟨r59, h59, e_59, hf⟩ := bd_some hf
            refine wk_callV (As := [.int 1, .int (h50 46 4)]) (rest := []) C lw_good cw_M_102 wi_M_round (m_M_round hI e_59) lz_46 (he_46 G (h50 46)) rfl rfl rfl (Nat.le_of_ble_eq_true rfl) (by decide) dM_most_59 ?_
            refine wk_aload_n C 0 dM_most_62 rfl rfl ?_
            refine wk_iconst C dM_most_63 kiconst_0 ?_
            refine wk_iconst C dM_most_64 kiconst_1 ?_
            refine wk_iconst C dM_most_65 kiconst_1 ?_
            refine wk_iconst C dM_most_66 kiconst_2 ?_
            obtain ⟨r67, h67, e_67, hf⟩ := bd_some hf
            refine wk_callV (As := [.int 0, .int 1, .int 1, .int 2]) (rest := []) C lw_good cw_M_111 wi_M_add (m_M_add hI e_67) lz_46 (he_46 G (h59 46)) rfl rfl rfl (Nat.le_of_ble_eq_true rfl) (by decide) dM_most_67 ?_
            refine wk_aload_n C 0 dM_most_70 rfl rfl ?_
            refine gf_M_32 C dM_most_71 ?_
            refine wk_iconst C dM_most_74 kiconst_2 ?_
            obtain ⟨c_75, hf⟩ := chk_some hf
            refine al_53 C c_75 dM_most_75 ?_
            refine wk_if_eq (tgt := 98) C dM_most_76 rfl hf (fun c_76 hf => ?_) (fun c_76 hf => ?_)
            · refine wk_iconst C dM_most_98 kiconst_1 ?_
              refine wk_goto (tgt := 103) C dM_most_99 rfl ?_
              exact wk_go (b_M_most_103 hI C hf hq) (And.intro rfl (And.intro rfl trivial))
            · refine wk_aload_n C 0 dM_most_79 rfl rfl ?_
              refine gf_M_32 C dM_most_80 ?_
              refine wk_iconst C dM_most_83 kiconst_2 ?_
              obtain ⟨c_84, hf⟩ := chk_some hf
              refine al_53 C c_84 dM_most_84 ?_
              refine wk_if_ge (tgt := 92) C dM_most_85 rfl hf (fun c_85 hf => ?_) (fun c_85 hf => ?_)
              · refine wk_iconst C dM_most_92 kiconst_0 ?_
                refine wk_iload C dM_most_93 rfl ?_
                refine wk_icmp_ne (tgt := 102) C dM_most_95 rfl hf (fun c_95 hf => ?_) (fun c_95 hf => ?_)
                · refine wk_iconst C dM_most_102 kiconst_0 ?_
                  exact wk_go (b_M_most_103 hI C hf hq) (And.intro rfl (And.intro rfl trivial))
                · refine wk_iconst C dM_most_98 kiconst_1 ?_
                  refine wk_goto (tgt := 103) C dM_most_99 rfl ?_
                  exact wk_go (b_M_most_103 hI C hf hq) (And.intro rfl (And.intro rfl trivial))
              · refine wk_iconst C dM_most_88 kiconst_1 ?_
                refine wk_goto (tgt := 93) C dM_most_89 rfl ?_
                refine wk_iload C dM_most_93 rfl ?_
                refine wk_icmp_ne (tgt := 102) C dM_most_95 rfl hf (fun c_95 hf => ?_) (fun c_95 hf => ?_)
                · refine wk_iconst C dM_most_102 kiconst_0 ?_
                  exact wk_go (b_M_most_103 hI C hf hq) (And.intro rfl (And.intro rfl trivial))
                · refine wk_iconst C dM_most_98 kiconst_1 ?_
                  refine wk_goto (tgt := 103) C dM_most_99 rfl ?_
                  exact wk_go (b_M_most_103 hI C hf hq) (And.intro rfl (And.intro rfl trivial))
          · refine wk_bipush C dM_most_41 kbipush_m41 ?_
            cases hf
            exact wk_ireturn C hq dM_most_43
      · refine wk_iconst C dM_most_21 kiconst_m1 ?_
        cases hf
        exact wk_ireturn C hq dM_most_22
theorem m_M_most {l : Launch} {G : cGt} (hI : wd_inj (vC G)) {v1 : Int32} {v2 : Int32} {v3 : Int32} {v4 : Int32} {h h' : Hp} {r : Int32}  (hf : f_M_most v1 v2 v3 v4 h = some (r, h')) : wk_M l (vC G) yM_most cM_most 6 (some .int) 5 116 [.ref (cad G 46), .int v1, .int v2, .int v3, .int v4] h (some (.int r)) h' :=
  wk_met hI (by decide +kernel) rfl (Nat.le_of_ble_eq_true rfl) (wk_cat1 rfl) (fun X hX C hq => by subst hX; exact b_M_most hI C  hf hq)
