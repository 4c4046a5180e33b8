theorem dM_cut_0 : decode cM_cut 0 = .ok (.iload_n 1, 1) := by decide +kernel
theorem dM_cut_1 : decode cM_cut 1 = .ok (.invokestatic 48, 3) := by decide +kernel
theorem dM_cut_4 : decode cM_cut 4 = .ok (.ifCond .eq 14, 3) := by decide +kernel
theorem dM_cut_7 : decode cM_cut 7 = .ok (.iload_n 3, 1) := by decide +kernel
theorem dM_cut_8 : decode cM_cut 8 = .ok (.invokestatic 48, 3) := by decide +kernel
theorem dM_cut_11 : decode cM_cut 11 = .ok (.ifCond .eq 7, 3) := by decide +kernel
theorem dM_cut_14 : decode cM_cut 14 = .ok (.iload_n 2, 1) := by decide +kernel
theorem dM_cut_15 : decode cM_cut 15 = .ok (.ifCond .ge 5, 3) := by decide +kernel
theorem dM_cut_18 : decode cM_cut 18 = .ok (.iconst (-1), 1) := by decide +kernel
theorem dM_cut_19 : decode cM_cut 19 = .ok (.ireturn, 1) := by decide +kernel
theorem dM_cut_20 : decode cM_cut 20 = .ok (.aload_n 0, 1) := by decide +kernel
theorem dM_cut_21 : decode cM_cut 21 = .ok (.iload_n 1, 1) := by decide +kernel
theorem dM_cut_22 : decode cM_cut 22 = .ok (.iconst 0, 1) := by decide +kernel
theorem dM_cut_23 : decode cM_cut 23 = .ok (.invokevirtual 122, 3) := by decide +kernel
theorem dM_cut_26 : decode cM_cut 26 = .ok (.ifCond .ne 6, 3) := by decide +kernel
theorem dM_cut_29 : decode cM_cut 29 = .ok (.bipush (-41), 2) := by decide +kernel
theorem dM_cut_31 : decode cM_cut 31 = .ok (.ireturn, 1) := by decide +kernel
theorem dM_cut_32 : decode cM_cut 32 = .ok (.aload_n 0, 1) := by decide +kernel
theorem dM_cut_33 : decode cM_cut 33 = .ok (.iconst 0, 1) := by decide +kernel
theorem dM_cut_34 : decode cM_cut 34 = .ok (.aload_n 0, 1) := by decide +kernel
theorem dM_cut_35 : decode cM_cut 35 = .ok (.getfield 19, 3) := by decide +kernel
theorem dM_cut_38 : decode cM_cut 38 = .ok (.invokevirtual 102, 3) := by decide +kernel
theorem dM_cut_41 : decode cM_cut 41 = .ok (.iconst 1, 1) := by decide +kernel
theorem dM_cut_42 : decode cM_cut 42 = .ok (.istore 4, 2) := by decide +kernel
theorem dM_cut_44 : decode cM_cut 44 = .ok (.aload_n 0, 1) := by decide +kernel
theorem dM_cut_45 : decode cM_cut 45 = .ok (.iconst 0, 1) := by decide +kernel
theorem dM_cut_46 : decode cM_cut 46 = .ok (.invokevirtual 67, 3) := by decide +kernel
theorem dM_cut_49 : decode cM_cut 49 = .ok (.istore 5, 2) := by decide +kernel
theorem dM_cut_51 : decode cM_cut 51 = .ok (.iload 5, 2) := by decide +kernel
theorem dM_cut_53 : decode cM_cut 53 = .ok (.aload_n 0, 1) := by decide +kernel
theorem dM_cut_54 : decode cM_cut 54 = .ok (.getfield 29, 3) := by decide +kernel
theorem dM_cut_57 : decode cM_cut 57 = .ok (.iconst 0, 1) := by decide +kernel
theorem dM_cut_58 : decode cM_cut 58 = .ok (.iaload, 1) := by decide +kernel
theorem dM_cut_59 : decode cM_cut 59 = .ok (.if_icmp .lt 38, 3) := by decide +kernel
theorem dM_cut_62 : decode cM_cut 62 = .ok (.iload 5, 2) := by decide +kernel
theorem dM_cut_64 : decode cM_cut 64 = .ok (.iload_n 2, 1) := by decide +kernel
theorem dM_cut_65 : decode cM_cut 65 = .ok (.ineg, 1) := by decide +kernel
theorem dM_cut_66 : decode cM_cut 66 = .ok (.if_icmp .lt 31, 3) := by decide +kernel
theorem dM_cut_69 : decode cM_cut 69 = .ok (.iload 4, 2) := by decide +kernel
theorem dM_cut_71 : decode cM_cut 71 = .ok (.ifCond .eq 17, 3) := by decide +kernel
theorem dM_cut_74 : decode cM_cut 74 = .ok (.aload_n 0, 1) := by decide +kernel
theorem dM_cut_75 : decode cM_cut 75 = .ok (.iconst 0, 1) := by decide +kernel
theorem dM_cut_76 : decode cM_cut 76 = .ok (.iload 5, 2) := by decide +kernel
theorem dM_cut_78 : decode cM_cut 78 = .ok (.invokevirtual 75, 3) := by decide +kernel
theorem dM_cut_81 : decode cM_cut 81 = .ok (.ifCond .ne 7, 3) := by decide +kernel
theorem dM_cut_84 : decode cM_cut 84 = .ok (.iconst 1, 1) := by decide +kernel
theorem dM_cut_85 : decode cM_cut 85 = .ok (.goto 4, 3) := by decide +kernel
theorem dM_cut_88 : decode cM_cut 88 = .ok (.iconst 0, 1) := by decide +kernel
theorem dM_cut_89 : decode cM_cut 89 = .ok (.istore 4, 2) := by decide +kernel
theorem dM_cut_91 : decode cM_cut 91 = .ok (.iinc 5 (-1), 3) := by decide +kernel
theorem dM_cut_94 : decode cM_cut 94 = .ok (.goto (-43), 3) := by decide +kernel
theorem dM_cut_97 : decode cM_cut 97 = .ok (.aload_n 0, 1) := by decide +kernel
theorem dM_cut_98 : decode cM_cut 98 = .ok (.iconst 0, 1) := by decide +kernel
theorem dM_cut_99 : decode cM_cut 99 = .ok (.putfield 86, 3) := by decide +kernel
theorem dM_cut_102 : decode cM_cut 102 = .ok (.aload_n 0, 1) := by decide +kernel
theorem dM_cut_103 : decode cM_cut 103 = .ok (.getfield 32, 3) := by decide +kernel
theorem dM_cut_106 : decode cM_cut 106 = .ok (.iconst 0, 1) := by decide +kernel
theorem dM_cut_107 : decode cM_cut 107 = .ok (.iaload, 1) := by decide +kernel
theorem dM_cut_108 : decode cM_cut 108 = .ok (.ifCond .ge 14, 3) := by decide +kernel
theorem dM_cut_111 : decode cM_cut 111 = .ok (.iload 4, 2) := by decide +kernel
theorem dM_cut_113 : decode cM_cut 113 = .ok (.ifCond .ne 9, 3) := by decide +kernel
theorem dM_cut_116 : decode cM_cut 116 = .ok (.aload_n 0, 1) := by decide +kernel
theorem dM_cut_117 : decode cM_cut 117 = .ok (.bipush 45, 2) := by decide +kernel
theorem dM_cut_119 : decode cM_cut 119 = .ok (.invokevirtual 89, 3) := by decide +kernel
theorem dM_cut_122 : decode cM_cut 122 = .ok (.iload_n 2, 1) := by decide +kernel
theorem dM_cut_123 : decode cM_cut 123 = .ok (.sipush 1500, 3) := by decide +kernel
theorem dM_cut_126 : decode cM_cut 126 = .ok (.if_icmp .le 6, 3) := by decide +kernel
theorem dM_cut_129 : decode cM_cut 129 = .ok (.bipush (-5), 2) := by decide +kernel
theorem dM_cut_131 : decode cM_cut 131 = .ok (.ireturn, 1) := by decide +kernel
theorem dM_cut_132 : decode cM_cut 132 = .ok (.aload_n 0, 1) := by decide +kernel
theorem dM_cut_133 : decode cM_cut 133 = .ok (.iconst 0, 1) := by decide +kernel
theorem dM_cut_134 : decode cM_cut 134 = .ok (.aload_n 0, 1) := by decide +kernel
theorem dM_cut_135 : decode cM_cut 135 = .ok (.iconst 0, 1) := by decide +kernel
theorem dM_cut_136 : decode cM_cut 136 = .ok (.invokevirtual 67, 3) := by decide +kernel
theorem dM_cut_139 : decode cM_cut 139 = .ok (.ifCond .le 11, 3) := by decide +kernel
theorem dM_cut_142 : decode cM_cut 142 = .ok (.aload_n 0, 1) := by decide +kernel
theorem dM_cut_143 : decode cM_cut 143 = .ok (.iconst 0, 1) := by decide +kernel
theorem dM_cut_144 : decode cM_cut 144 = .ok (.invokevirtual 67, 3) := by decide +kernel
theorem dM_cut_147 : decode cM_cut 147 = .ok (.goto 4, 3) := by decide +kernel
theorem dM_cut_150 : decode cM_cut 150 = .ok (.iconst 0, 1) := by decide +kernel
theorem dM_cut_151 : decode cM_cut 151 = .ok (.iload_n 2, 1) := by decide +kernel
theorem dM_cut_152 : decode cM_cut 152 = .ok (.ineg, 1) := by decide +kernel
theorem dM_cut_153 : decode cM_cut 153 = .ok (.invokevirtual 92, 3) := by decide +kernel
theorem dM_cut_156 : decode cM_cut 156 = .ok (.aload_n 0, 1) := by decide +kernel
theorem dM_cut_157 : decode cM_cut 157 = .ok (.getfield 86, 3) := by decide +kernel
theorem dM_cut_160 : decode cM_cut 160 = .ok (.sipush 200, 3) := by decide +kernel
theorem dM_cut_163 : decode cM_cut 163 = .ok (.if_icmp .le 8, 3) := by decide +kernel
theorem dM_cut_166 : decode cM_cut 166 = .ok (.bipush (-5), 2) := by decide +kernel
theorem dM_cut_168 : decode cM_cut 168 = .ok (.goto 8, 3) := by decide +kernel
theorem dM_cut_171 : decode cM_cut 171 = .ok (.aload_n 0, 1) := by decide +kernel
theorem dM_cut_172 : decode cM_cut 172 = .ok (.iload_n 3, 1) := by decide +kernel
theorem dM_cut_173 : decode cM_cut 173 = .ok (.invokevirtual 99, 3) := by decide +kernel
theorem dM_cut_176 : decode cM_cut 176 = .ok (.ireturn, 1) := by decide +kernel
theorem dM_column_0 : decode cM_column 0 = .ok (.iload_n 1, 1) := by decide +kernel
theorem dM_column_1 : decode cM_column 1 = .ok (.invokestatic 48, 3) := by decide +kernel
theorem dM_column_4 : decode cM_column 4 = .ok (.ifCond .eq 21, 3) := by decide +kernel
theorem dM_column_7 : decode cM_column 7 = .ok (.iload 4, 2) := by decide +kernel
theorem dM_column_9 : decode cM_column 9 = .ok (.invokestatic 48, 3) := by decide +kernel
theorem dM_column_12 : decode cM_column 12 = .ok (.ifCond .eq 13, 3) := by decide +kernel
theorem dM_column_15 : decode cM_column 15 = .ok (.iload_n 3, 1) := by decide +kernel
theorem dM_column_16 : decode cM_column 16 = .ok (.iconst (-1), 1) := by decide +kernel
theorem dM_column_17 : decode cM_column 17 = .ok (.if_icmp .lt 8, 3) := by decide +kernel
theorem dM_column_20 : decode cM_column 20 = .ok (.iload_n 2, 1) := by decide +kernel
theorem dM_column_21 : decode cM_column 21 = .ok (.iconst (-1), 1) := by decide +kernel
theorem dM_column_22 : decode cM_column 22 = .ok (.if_icmp .ge 5, 3) := by decide +kernel
theorem dM_column_25 : decode cM_column 25 = .ok (.iconst (-1), 1) := by decide +kernel
theorem dM_column_26 : decode cM_column 26 = .ok (.ireturn, 1) := by decide +kernel
theorem dM_column_27 : decode cM_column 27 = .ok (.aload_n 0, 1) := by decide +kernel
theorem dM_column_28 : decode cM_column 28 = .ok (.iload_n 1, 1) := by decide +kernel
theorem dM_column_29 : decode cM_column 29 = .ok (.iconst 0, 1) := by decide +kernel
theorem dM_column_30 : decode cM_column 30 = .ok (.invokevirtual 122, 3) := by decide +kernel
theorem dM_column_33 : decode cM_column 33 = .ok (.ifCond .ne 6, 3) := by decide +kernel
theorem dM_column_36 : decode cM_column 36 = .ok (.bipush (-41), 2) := by decide +kernel
theorem dM_column_38 : decode cM_column 38 = .ok (.ireturn, 1) := by decide +kernel
theorem dM_column_39 : decode cM_column 39 = .ok (.aload_n 0, 1) := by decide +kernel
theorem dM_column_40 : decode cM_column 40 = .ok (.iconst 0, 1) := by decide +kernel
theorem dM_column_41 : decode cM_column 41 = .ok (.aload_n 0, 1) := by decide +kernel
theorem dM_column_42 : decode cM_column 42 = .ok (.getfield 19, 3) := by decide +kernel
theorem dM_column_45 : decode cM_column 45 = .ok (.invokevirtual 102, 3) := by decide +kernel
theorem dM_column_48 : decode cM_column 48 = .ok (.iload_n 3, 1) := by decide +kernel
theorem dM_column_49 : decode cM_column 49 = .ok (.ifCond .lt 7, 3) := by decide +kernel
theorem dM_column_52 : decode cM_column 52 = .ok (.iload_n 3, 1) := by decide +kernel
theorem dM_column_53 : decode cM_column 53 = .ok (.goto 23, 3) := by decide +kernel
theorem dM_column_56 : decode cM_column 56 = .ok (.aload_n 0, 1) := by decide +kernel
theorem dM_column_57 : decode cM_column 57 = .ok (.getfield 29, 3) := by decide +kernel
theorem dM_column_60 : decode cM_column 60 = .ok (.iconst 0, 1) := by decide +kernel
theorem dM_column_61 : decode cM_column 61 = .ok (.iaload, 1) := by decide +kernel
theorem dM_column_62 : decode cM_column 62 = .ok (.ifCond .ge 13, 3) := by decide +kernel
theorem dM_column_65 : decode cM_column 65 = .ok (.aload_n 0, 1) := by decide +kernel
theorem dM_column_66 : decode cM_column 66 = .ok (.getfield 29, 3) := by decide +kernel
theorem dM_column_69 : decode cM_column 69 = .ok (.iconst 0, 1) := by decide +kernel
theorem dM_column_70 : decode cM_column 70 = .ok (.iaload, 1) := by decide +kernel
theorem dM_column_71 : decode cM_column 71 = .ok (.ineg, 1) := by decide +kernel
theorem dM_column_72 : decode cM_column 72 = .ok (.goto 4, 3) := by decide +kernel
theorem dM_column_75 : decode cM_column 75 = .ok (.iconst 0, 1) := by decide +kernel
theorem dM_column_76 : decode cM_column 76 = .ok (.istore 5, 2) := by decide +kernel
theorem dM_column_78 : decode cM_column 78 = .ok (.aload_n 0, 1) := by decide +kernel
theorem dM_column_79 : decode cM_column 79 = .ok (.iconst 0, 1) := by decide +kernel
theorem dM_column_80 : decode cM_column 80 = .ok (.invokevirtual 67, 3) := by decide +kernel
theorem dM_column_83 : decode cM_column 83 = .ok (.iconst 1, 1) := by decide +kernel
theorem dM_column_84 : decode cM_column 84 = .ok (.iadd, 1) := by decide +kernel
theorem dM_column_85 : decode cM_column 85 = .ok (.iload 5, 2) := by decide +kernel
theorem dM_column_87 : decode cM_column 87 = .ok (.sipush 5000, 3) := by decide +kernel
theorem dM_column_90 : decode cM_column 90 = .ok (.if_icmp .le 9, 3) := by decide +kernel
theorem dM_column_93 : decode cM_column 93 = .ok (.sipush 5000, 3) := by decide +kernel
theorem dM_column_96 : decode cM_column 96 = .ok (.goto 5, 3) := by decide +kernel
theorem dM_column_99 : decode cM_column 99 = .ok (.iload 5, 2) := by decide +kernel
theorem dM_column_101 : decode cM_column 101 = .ok (.iadd, 1) := by decide +kernel
theorem dM_column_102 : decode cM_column 102 = .ok (.istore 6, 2) := by decide +kernel
theorem dM_column_104 : decode cM_column 104 = .ok (.iload 6, 2) := by decide +kernel
theorem dM_column_106 : decode cM_column 106 = .ok (.ifCond .lt 18, 3) := by decide +kernel
theorem dM_column_109 : decode cM_column 109 = .ok (.iload 6, 2) := by decide +kernel
theorem dM_column_111 : decode cM_column 111 = .ok (.ifCond .ne 21, 3) := by decide +kernel
theorem dM_column_114 : decode cM_column 114 = .ok (.aload_n 0, 1) := by decide +kernel
theorem dM_column_115 : decode cM_column 115 = .ok (.getfield 23, 3) := by decide +kernel
theorem dM_column_118 : decode cM_column 118 = .ok (.iconst 0, 1) := by decide +kernel
theorem dM_column_119 : decode cM_column 119 = .ok (.iaload, 1) := by decide +kernel
theorem dM_column_120 : decode cM_column 120 = .ok (.iconst 5, 1) := by decide +kernel
theorem dM_column_121 : decode cM_column 121 = .ok (.if_icmp .ge 11, 3) := by decide +kernel
theorem dM_column_124 : decode cM_column 124 = .ok (.aload_n 0, 1) := by decide +kernel
theorem dM_column_125 : decode cM_column 125 = .ok (.iconst 0, 1) := by decide +kernel
theorem dM_column_126 : decode cM_column 126 = .ok (.invokevirtual 58, 3) := by decide +kernel
theorem dM_column_129 : decode cM_column 129 = .ok (.goto 52, 3) := by decide +kernel
theorem dM_column_132 : decode cM_column 132 = .ok (.iload 6, 2) := by decide +kernel
theorem dM_column_134 : decode cM_column 134 = .ok (.ifCond .ne 29, 3) := by decide +kernel
theorem dM_column_137 : decode cM_column 137 = .ok (.aload_n 0, 1) := by decide +kernel
theorem dM_column_138 : decode cM_column 138 = .ok (.getfield 23, 3) := by decide +kernel
theorem dM_column_141 : decode cM_column 141 = .ok (.iconst 0, 1) := by decide +kernel
theorem dM_column_142 : decode cM_column 142 = .ok (.iconst 1, 1) := by decide +kernel
theorem dM_column_143 : decode cM_column 143 = .ok (.iastore, 1) := by decide +kernel
theorem dM_column_144 : decode cM_column 144 = .ok (.aload_n 0, 1) := by decide +kernel
theorem dM_column_145 : decode cM_column 145 = .ok (.getfield 26, 3) := by decide +kernel
theorem dM_column_148 : decode cM_column 148 = .ok (.iconst 0, 1) := by decide +kernel
theorem dM_column_149 : decode cM_column 149 = .ok (.iconst 1, 1) := by decide +kernel
theorem dM_column_150 : decode cM_column 150 = .ok (.iastore, 1) := by decide +kernel
theorem dM_column_151 : decode cM_column 151 = .ok (.aload_n 0, 1) := by decide +kernel
theorem dM_column_152 : decode cM_column 152 = .ok (.getfield 29, 3) := by decide +kernel
theorem dM_column_155 : decode cM_column 155 = .ok (.iconst 0, 1) := by decide +kernel
theorem dM_column_156 : decode cM_column 156 = .ok (.iload 5, 2) := by decide +kernel
theorem dM_column_158 : decode cM_column 158 = .ok (.ineg, 1) := by decide +kernel
theorem dM_column_159 : decode cM_column 159 = .ok (.iastore, 1) := by decide +kernel
theorem dM_column_160 : decode cM_column 160 = .ok (.goto 21, 3) := by decide +kernel
theorem dM_column_163 : decode cM_column 163 = .ok (.iload 6, 2) := by decide +kernel
theorem dM_column_165 : decode cM_column 165 = .ok (.aload_n 0, 1) := by decide +kernel
theorem dM_column_166 : decode cM_column 166 = .ok (.getfield 26, 3) := by decide +kernel
theorem dM_column_169 : decode cM_column 169 = .ok (.iconst 0, 1) := by decide +kernel
theorem dM_column_170 : decode cM_column 170 = .ok (.iaload, 1) := by decide +kernel
theorem dM_column_171 : decode cM_column 171 = .ok (.if_icmp .ge 10, 3) := by decide +kernel
theorem dM_column_174 : decode cM_column 174 = .ok (.aload_n 0, 1) := by decide +kernel
theorem dM_column_175 : decode cM_column 175 = .ok (.iconst 0, 1) := by decide +kernel
theorem dM_column_176 : decode cM_column 176 = .ok (.iload 6, 2) := by decide +kernel
theorem dM_column_178 : decode cM_column 178 = .ok (.invokevirtual 102, 3) := by decide +kernel
theorem dM_column_181 : decode cM_column 181 = .ok (.aload_n 0, 1) := by decide +kernel
theorem dM_column_182 : decode cM_column 182 = .ok (.getfield 32, 3) := by decide +kernel
theorem dM_column_185 : decode cM_column 185 = .ok (.iconst 0, 1) := by decide +kernel
theorem dM_column_186 : decode cM_column 186 = .ok (.iaload, 1) := by decide +kernel
theorem dM_column_187 : decode cM_column 187 = .ok (.ifCond .ge 7, 3) := by decide +kernel
theorem dM_column_190 : decode cM_column 190 = .ok (.iconst 1, 1) := by decide +kernel
theorem dM_column_191 : decode cM_column 191 = .ok (.goto 4, 3) := by decide +kernel
theorem dM_column_194 : decode cM_column 194 = .ok (.iconst 0, 1) := by decide +kernel
theorem dM_column_195 : decode cM_column 195 = .ok (.aload_n 0, 1) := by decide +kernel
theorem dM_column_196 : decode cM_column 196 = .ok (.iconst 0, 1) := by decide +kernel
theorem dM_column_197 : decode cM_column 197 = .ok (.invokevirtual 67, 3) := by decide +kernel
theorem dM_column_200 : decode cM_column 200 = .ok (.ifCond .le 13, 3) := by decide +kernel
theorem dM_column_203 : decode cM_column 203 = .ok (.aload_n 0, 1) := by decide +kernel
theorem dM_column_204 : decode cM_column 204 = .ok (.iconst 0, 1) := by decide +kernel
theorem dM_column_205 : decode cM_column 205 = .ok (.invokevirtual 67, 3) := by decide +kernel
theorem dM_column_208 : decode cM_column 208 = .ok (.iconst 1, 1) := by decide +kernel
theorem dM_column_209 : decode cM_column 209 = .ok (.iadd, 1) := by decide +kernel
theorem dM_column_210 : decode cM_column 210 = .ok (.goto 4, 3) := by decide +kernel
theorem dM_column_213 : decode cM_column 213 = .ok (.iconst 1, 1) := by decide +kernel
theorem dM_column_214 : decode cM_column 214 = .ok (.iadd, 1) := by decide +kernel
theorem dM_column_215 : decode cM_column 215 = .ok (.istore 7, 2) := by decide +kernel
theorem dM_column_217 : decode cM_column 217 = .ok (.iload_n 2, 1) := by decide +kernel
theorem dM_column_218 : decode cM_column 218 = .ok (.ifCond .lt 12, 3) := by decide +kernel
theorem dM_column_221 : decode cM_column 221 = .ok (.iload_n 2, 1) := by decide +kernel
theorem dM_column_222 : decode cM_column 222 = .ok (.iload 7, 2) := by decide +kernel
theorem dM_column_224 : decode cM_column 224 = .ok (.if_icmp .ge 6, 3) := by decide +kernel
theorem dM_column_227 : decode cM_column 227 = .ok (.bipush (-40), 2) := by decide +kernel
theorem dM_column_229 : decode cM_column 229 = .ok (.ireturn, 1) := by decide +kernel
theorem dM_column_230 : decode cM_column 230 = .ok (.iload_n 2, 1) := by decide +kernel
theorem dM_column_231 : decode cM_column 231 = .ok (.sipush 1500, 3) := by decide +kernel
theorem dM_column_234 : decode cM_column 234 = .ok (.if_icmp .gt 32, 3) := by decide +kernel
theorem dM_column_237 : decode cM_column 237 = .ok (.iload 5, 2) := by decide +kernel
theorem dM_column_239 : decode cM_column 239 = .ok (.sipush 1400, 3) := by decide +kernel
theorem dM_column_242 : decode cM_column 242 = .ok (.if_icmp .gt 24, 3) := by decide +kernel
theorem dM_column_245 : decode cM_column 245 = .ok (.iload_n 2, 1) := by decide +kernel
theorem dM_column_246 : decode cM_column 246 = .ok (.iload 7, 2) := by decide +kernel
theorem dM_column_248 : decode cM_column 248 = .ok (.if_icmp .le 7, 3) := by decide +kernel
theorem dM_column_251 : decode cM_column 251 = .ok (.iload_n 2, 1) := by decide +kernel
theorem dM_column_252 : decode cM_column 252 = .ok (.goto 5, 3) := by decide +kernel
theorem dM_column_255 : decode cM_column 255 = .ok (.iload 7, 2) := by decide +kernel
theorem dM_column_257 : decode cM_column 257 = .ok (.iload 5, 2) := by decide +kernel
theorem dM_column_259 : decode cM_column 259 = .ok (.iadd, 1) := by decide +kernel
theorem dM_column_260 : decode cM_column 260 = .ok (.sipush 200, 3) := by decide +kernel
theorem dM_column_263 : decode cM_column 263 = .ok (.if_icmp .le 6, 3) := by decide +kernel
theorem dM_column_266 : decode cM_column 266 = .ok (.bipush (-5), 2) := by decide +kernel
theorem dM_column_268 : decode cM_column 268 = .ok (.ireturn, 1) := by decide +kernel
theorem dM_column_269 : decode cM_column 269 = .ok (.aload_n 0, 1) := by decide +kernel
theorem dM_column_270 : decode cM_column 270 = .ok (.iconst 0, 1) := by decide +kernel
theorem dM_column_271 : decode cM_column 271 = .ok (.putfield 86, 3) := by decide +kernel
theorem dM_column_274 : decode cM_column 274 = .ok (.iload 7, 2) := by decide +kernel
theorem dM_column_276 : decode cM_column 276 = .ok (.istore 8, 2) := by decide +kernel
theorem dM_column_278 : decode cM_column 278 = .ok (.iload 8, 2) := by decide +kernel
theorem dM_column_280 : decode cM_column 280 = .ok (.iload_n 2, 1) := by decide +kernel
theorem dM_column_281 : decode cM_column 281 = .ok (.if_icmp .ge 15, 3) := by decide +kernel
theorem dM_column_284 : decode cM_column 284 = .ok (.aload_n 0, 1) := by decide +kernel
theorem dM_column_285 : decode cM_column 285 = .ok (.bipush 32, 2) := by decide +kernel
theorem dM_column_287 : decode cM_column 287 = .ok (.invokevirtual 89, 3) := by decide +kernel
theorem dM_column_290 : decode cM_column 290 = .ok (.iinc 8 1, 3) := by decide +kernel
theorem dM_column_293 : decode cM_column 293 = .ok (.goto (-15), 3) := by decide +kernel
theorem dM_column_296 : decode cM_column 296 = .ok (.aload_n 0, 1) := by decide +kernel
theorem dM_column_297 : decode cM_column 297 = .ok (.getfield 32, 3) := by decide +kernel
theorem dM_column_300 : decode cM_column 300 = .ok (.iconst 0, 1) := by decide +kernel
theorem dM_column_301 : decode cM_column 301 = .ok (.iaload, 1) := by decide +kernel
theorem dM_column_302 : decode cM_column 302 = .ok (.ifCond .ge 9, 3) := by decide +kernel
theorem dM_column_305 : decode cM_column 305 = .ok (.aload_n 0, 1) := by decide +kernel
theorem dM_column_306 : decode cM_column 306 = .ok (.bipush 45, 2) := by decide +kernel
theorem dM_column_308 : decode cM_column 308 = .ok (.invokevirtual 89, 3) := by decide +kernel
theorem dM_column_311 : decode cM_column 311 = .ok (.aload_n 0, 1) := by decide +kernel
theorem dM_column_312 : decode cM_column 312 = .ok (.iconst 0, 1) := by decide +kernel
theorem dM_column_313 : decode cM_column 313 = .ok (.aload_n 0, 1) := by decide +kernel
theorem dM_column_314 : decode cM_column 314 = .ok (.iconst 0, 1) := by decide +kernel
theorem dM_column_315 : decode cM_column 315 = .ok (.invokevirtual 67, 3) := by decide +kernel
theorem dM_column_318 : decode cM_column 318 = .ok (.ifCond .le 11, 3) := by decide +kernel
theorem dM_column_321 : decode cM_column 321 = .ok (.aload_n 0, 1) := by decide +kernel
theorem dM_column_322 : decode cM_column 322 = .ok (.iconst 0, 1) := by decide +kernel
theorem dM_column_323 : decode cM_column 323 = .ok (.invokevirtual 67, 3) := by decide +kernel
theorem dM_column_326 : decode cM_column 326 = .ok (.goto 4, 3) := by decide +kernel
theorem dM_column_329 : decode cM_column 329 = .ok (.iconst 0, 1) := by decide +kernel
theorem dM_column_330 : decode cM_column 330 = .ok (.iload 5, 2) := by decide +kernel
theorem dM_column_332 : decode cM_column 332 = .ok (.ineg, 1) := by decide +kernel
theorem dM_column_333 : decode cM_column 333 = .ok (.invokevirtual 92, 3) := by decide +kernel
theorem dM_column_336 : decode cM_column 336 = .ok (.aload_n 0, 1) := by decide +kernel
theorem dM_column_337 : decode cM_column 337 = .ok (.getfield 86, 3) := by decide +kernel
theorem dM_column_340 : decode cM_column 340 = .ok (.sipush 200, 3) := by decide +kernel
theorem dM_column_343 : decode cM_column 343 = .ok (.if_icmp .le 8, 3) := by decide +kernel
theorem dM_column_346 : decode cM_column 346 = .ok (.bipush (-5), 2) := by decide +kernel
theorem dM_column_348 : decode cM_column 348 = .ok (.goto 9, 3) := by decide +kernel
theorem dM_column_351 : decode cM_column 351 = .ok (.aload_n 0, 1) := by decide +kernel
theorem dM_column_352 : decode cM_column 352 = .ok (.iload 4, 2) := by decide +kernel
theorem dM_column_354 : decode cM_column 354 = .ok (.invokevirtual 99, 3) := by decide +kernel
theorem dM_column_357 : decode cM_column 357 = .ok (.ireturn, 1) := by decide +kernel
theorem dM_told_0 : decode cM_told 0 = .ok (.iload_n 0, 1) := by decide +kernel
theorem dM_told_1 : decode cM_told 1 = .ok (.ifCond .ge 7, 3) := by decide +kernel
theorem dM_told_4 : decode cM_told 4 = .ok (.iconst 1, 1) := by decide +kernel
theorem dM_told_5 : decode cM_told 5 = .ok (.goto 12, 3) := by decide +kernel
theorem dM_told_8 : decode cM_told 8 = .ok (.iload_n 0, 1) := by decide +kernel
theorem dM_told_9 : decode cM_told 9 = .ok (.ifCond .ne 7, 3) := by decide +kernel
theorem dM_told_12 : decode cM_told 12 = .ok (.iconst 2, 1) := by decide +kernel
theorem dM_told_13 : decode cM_told 13 = .ok (.goto 4, 3) := by decide +kernel
theorem dM_told_16 : decode cM_told 16 = .ok (.iconst 4, 1) := by decide +kernel
theorem dM_told_17 : decode cM_told 17 = .ok (.ireturn, 1) := by decide +kernel
theorem dM_strictly_0 : decode cM_strictly 0 = .ok (.iconst 0, 1) := by decide +kernel
theorem dM_strictly_1 : decode cM_strictly 1 = .ok (.istore_n 3, 1) := by decide +kernel
theorem dM_strictly_2 : decode cM_strictly 2 = .ok (.iload_n 3, 1) := by decide +kernel
theorem dM_strictly_3 : decode cM_strictly 3 = .ok (.aload_n 0, 1) := by decide +kernel
theorem dM_strictly_4 : decode cM_strictly 4 = .ok (.getfield 16, 3) := by decide +kernel
theorem dM_strictly_7 : decode cM_strictly 7 = .ok (.iload_n 1, 1) := by decide +kernel
theorem dM_strictly_8 : decode cM_strictly 8 = .ok (.iaload, 1) := by decide +kernel
theorem dM_strictly_9 : decode cM_strictly 9 = .ok (.if_icmp .ge 72, 3) := by decide +kernel
theorem dM_strictly_12 : decode cM_strictly 12 = .ok (.iload_n 3, 1) := by decide +kernel
theorem dM_strictly_13 : decode cM_strictly 13 = .ok (.aload_n 0, 1) := by decide +kernel
theorem dM_strictly_14 : decode cM_strictly 14 = .ok (.getfield 16, 3) := by decide +kernel
theorem dM_strictly_17 : decode cM_strictly 17 = .ok (.iload_n 2, 1) := by decide +kernel
theorem dM_strictly_18 : decode cM_strictly 18 = .ok (.iaload, 1) := by decide +kernel
theorem dM_strictly_19 : decode cM_strictly 19 = .ok (.if_icmp .ge 62, 3) := by decide +kernel
theorem dM_strictly_22 : decode cM_strictly 22 = .ok (.aload_n 0, 1) := by decide +kernel
theorem dM_strictly_23 : decode cM_strictly 23 = .ok (.getfield 13, 3) := by decide +kernel
theorem dM_strictly_26 : decode cM_strictly 26 = .ok (.sipush 200, 3) := by decide +kernel
theorem dM_strictly_29 : decode cM_strictly 29 = .ok (.iload_n 1, 1) := by decide +kernel
theorem dM_strictly_30 : decode cM_strictly 30 = .ok (.imul, 1) := by decide +kernel
theorem dM_strictly_31 : decode cM_strictly 31 = .ok (.iload_n 3, 1) := by decide +kernel
theorem dM_strictly_32 : decode cM_strictly 32 = .ok (.iadd, 1) := by decide +kernel
theorem dM_strictly_33 : decode cM_strictly 33 = .ok (.iaload, 1) := by decide +kernel
theorem dM_strictly_34 : decode cM_strictly 34 = .ok (.aload_n 0, 1) := by decide +kernel
theorem dM_strictly_35 : decode cM_strictly 35 = .ok (.getfield 13, 3) := by decide +kernel
theorem dM_strictly_38 : decode cM_strictly 38 = .ok (.sipush 200, 3) := by decide +kernel
theorem dM_strictly_41 : decode cM_strictly 41 = .ok (.iload_n 2, 1) := by decide +kernel
theorem dM_strictly_42 : decode cM_strictly 42 = .ok (.imul, 1) := by decide +kernel
theorem dM_strictly_43 : decode cM_strictly 43 = .ok (.iload_n 3, 1) := by decide +kernel
theorem dM_strictly_44 : decode cM_strictly 44 = .ok (.iadd, 1) := by decide +kernel
theorem dM_strictly_45 : decode cM_strictly 45 = .ok (.iaload, 1) := by decide +kernel
theorem dM_strictly_46 : decode cM_strictly 46 = .ok (.if_icmp .eq 29, 3) := by decide +kernel
theorem dM_strictly_49 : decode cM_strictly 49 = .ok (.aload_n 0, 1) := by decide +kernel
theorem dM_strictly_50 : decode cM_strictly 50 = .ok (.getfield 13, 3) := by decide +kernel
theorem dM_strictly_53 : decode cM_strictly 53 = .ok (.sipush 200, 3) := by decide +kernel
theorem dM_strictly_56 : decode cM_strictly 56 = .ok (.iload_n 1, 1) := by decide +kernel
theorem dM_strictly_57 : decode cM_strictly 57 = .ok (.imul, 1) := by decide +kernel
theorem dM_strictly_58 : decode cM_strictly 58 = .ok (.iload_n 3, 1) := by decide +kernel
theorem dM_strictly_59 : decode cM_strictly 59 = .ok (.iadd, 1) := by decide +kernel
theorem dM_strictly_60 : decode cM_strictly 60 = .ok (.iaload, 1) := by decide +kernel
theorem dM_strictly_61 : decode cM_strictly 61 = .ok (.aload_n 0, 1) := by decide +kernel
theorem dM_strictly_62 : decode cM_strictly 62 = .ok (.getfield 13, 3) := by decide +kernel
theorem dM_strictly_65 : decode cM_strictly 65 = .ok (.sipush 200, 3) := by decide +kernel
theorem dM_strictly_68 : decode cM_strictly 68 = .ok (.iload_n 2, 1) := by decide +kernel
theorem dM_strictly_69 : decode cM_strictly 69 = .ok (.imul, 1) := by decide +kernel
theorem dM_strictly_70 : decode cM_strictly 70 = .ok (.iload_n 3, 1) := by decide +kernel
theorem dM_strictly_71 : decode cM_strictly 71 = .ok (.iadd, 1) := by decide +kernel
theorem dM_strictly_72 : decode cM_strictly 72 = .ok (.iaload, 1) := by decide +kernel
theorem dM_strictly_73 : decode cM_strictly 73 = .ok (.isub, 1) := by decide +kernel
theorem dM_strictly_74 : decode cM_strictly 74 = .ok (.ireturn, 1) := by decide +kernel
theorem dM_strictly_75 : decode cM_strictly 75 = .ok (.iinc 3 1, 3) := by decide +kernel
theorem dM_strictly_78 : decode cM_strictly 78 = .ok (.goto (-76), 3) := by decide +kernel
theorem dM_strictly_81 : decode cM_strictly 81 = .ok (.aload_n 0, 1) := by decide +kernel
theorem dM_strictly_82 : decode cM_strictly 82 = .ok (.getfield 16, 3) := by decide +kernel
theorem dM_strictly_85 : decode cM_strictly 85 = .ok (.iload_n 1, 1) := by decide +kernel
theorem dM_strictly_86 : decode cM_strictly 86 = .ok (.iaload, 1) := by decide +kernel
theorem dM_strictly_87 : decode cM_strictly 87 = .ok (.aload_n 0, 1) := by decide +kernel
theorem dM_strictly_88 : decode cM_strictly 88 = .ok (.getfield 16, 3) := by decide +kernel
theorem dM_strictly_91 : decode cM_strictly 91 = .ok (.iload_n 2, 1) := by decide +kernel
theorem dM_strictly_92 : decode cM_strictly 92 = .ok (.iaload, 1) := by decide +kernel
theorem dM_strictly_93 : decode cM_strictly 93 = .ok (.isub, 1) := by decide +kernel
theorem dM_strictly_94 : decode cM_strictly 94 = .ok (.ireturn, 1) := by decide +kernel
theorem dM_loosely_0 : decode cM_loosely 0 = .ok (.sipush 200, 3) := by decide +kernel
theorem dM_loosely_3 : decode cM_loosely 3 = .ok (.iload_n 1, 1) := by decide +kernel
theorem dM_loosely_4 : decode cM_loosely 4 = .ok (.imul, 1) := by decide +kernel
theorem dM_loosely_5 : decode cM_loosely 5 = .ok (.istore_n 3, 1) := by decide +kernel
theorem dM_loosely_6 : decode cM_loosely 6 = .ok (.sipush 200, 3) := by decide +kernel
theorem dM_loosely_9 : decode cM_loosely 9 = .ok (.iload_n 2, 1) := by decide +kernel
theorem dM_loosely_10 : decode cM_loosely 10 = .ok (.imul, 1) := by decide +kernel
theorem dM_loosely_11 : decode cM_loosely 11 = .ok (.istore 4, 2) := by decide +kernel
theorem dM_loosely_13 : decode cM_loosely 13 = .ok (.iload_n 3, 1) := by decide +kernel
theorem dM_loosely_14 : decode cM_loosely 14 = .ok (.aload_n 0, 1) := by decide +kernel
theorem dM_loosely_15 : decode cM_loosely 15 = .ok (.getfield 16, 3) := by decide +kernel
theorem dM_loosely_18 : decode cM_loosely 18 = .ok (.iload_n 1, 1) := by decide +kernel
theorem dM_loosely_19 : decode cM_loosely 19 = .ok (.iaload, 1) := by decide +kernel
theorem dM_loosely_20 : decode cM_loosely 20 = .ok (.iadd, 1) := by decide +kernel
theorem dM_loosely_21 : decode cM_loosely 21 = .ok (.istore 5, 2) := by decide +kernel
theorem dM_loosely_23 : decode cM_loosely 23 = .ok (.iload 4, 2) := by decide +kernel
theorem dM_loosely_25 : decode cM_loosely 25 = .ok (.aload_n 0, 1) := by decide +kernel
theorem dM_loosely_26 : decode cM_loosely 26 = .ok (.getfield 16, 3) := by decide +kernel
theorem dM_loosely_29 : decode cM_loosely 29 = .ok (.iload_n 2, 1) := by decide +kernel
theorem dM_loosely_30 : decode cM_loosely 30 = .ok (.iaload, 1) := by decide +kernel
theorem dM_loosely_31 : decode cM_loosely 31 = .ok (.iadd, 1) := by decide +kernel
theorem dM_loosely_32 : decode cM_loosely 32 = .ok (.istore 6, 2) := by decide +kernel
theorem dM_loosely_34 : decode cM_loosely 34 = .ok (.iload_n 3, 1) := by decide +kernel
theorem dM_loosely_35 : decode cM_loosely 35 = .ok (.iload 5, 2) := by decide +kernel
theorem dM_loosely_37 : decode cM_loosely 37 = .ok (.if_icmp .ge 20, 3) := by decide +kernel
theorem dM_loosely_40 : decode cM_loosely 40 = .ok (.aload_n 0, 1) := by decide +kernel
theorem dM_loosely_41 : decode cM_loosely 41 = .ok (.getfield 13, 3) := by decide +kernel
theorem dM_loosely_44 : decode cM_loosely 44 = .ok (.iload_n 3, 1) := by decide +kernel
theorem dM_loosely_45 : decode cM_loosely 45 = .ok (.iaload, 1) := by decide +kernel
theorem dM_loosely_46 : decode cM_loosely 46 = .ok (.bipush 32, 2) := by decide +kernel
theorem dM_loosely_48 : decode cM_loosely 48 = .ok (.if_icmp .ne 9, 3) := by decide +kernel
theorem dM_loosely_51 : decode cM_loosely 51 = .ok (.iinc 3 1, 3) := by decide +kernel
theorem dM_loosely_54 : decode cM_loosely 54 = .ok (.goto (-20), 3) := by decide +kernel
theorem dM_loosely_57 : decode cM_loosely 57 = .ok (.iload 4, 2) := by decide +kernel
theorem dM_loosely_59 : decode cM_loosely 59 = .ok (.iload 6, 2) := by decide +kernel
theorem dM_loosely_61 : decode cM_loosely 61 = .ok (.if_icmp .ge 21, 3) := by decide +kernel
theorem dM_loosely_64 : decode cM_loosely 64 = .ok (.aload_n 0, 1) := by decide +kernel
theorem dM_loosely_65 : decode cM_loosely 65 = .ok (.getfield 13, 3) := by decide +kernel
theorem dM_loosely_68 : decode cM_loosely 68 = .ok (.iload 4, 2) := by decide +kernel
theorem dM_loosely_70 : decode cM_loosely 70 = .ok (.iaload, 1) := by decide +kernel
theorem dM_loosely_71 : decode cM_loosely 71 = .ok (.bipush 32, 2) := by decide +kernel
theorem dM_loosely_73 : decode cM_loosely 73 = .ok (.if_icmp .ne 9, 3) := by decide +kernel
theorem dM_loosely_76 : decode cM_loosely 76 = .ok (.iinc 4 1, 3) := by decide +kernel
theorem dM_loosely_79 : decode cM_loosely 79 = .ok (.goto (-22), 3) := by decide +kernel
theorem dM_loosely_82 : decode cM_loosely 82 = .ok (.iload 5, 2) := by decide +kernel
theorem dM_loosely_84 : decode cM_loosely 84 = .ok (.iload_n 3, 1) := by decide +kernel
theorem dM_loosely_85 : decode cM_loosely 85 = .ok (.if_icmp .le 23, 3) := by decide +kernel
theorem dM_loosely_88 : decode cM_loosely 88 = .ok (.aload_n 0, 1) := by decide +kernel
theorem dM_loosely_89 : decode cM_loosely 89 = .ok (.getfield 13, 3) := by decide +kernel
theorem dM_loosely_92 : decode cM_loosely 92 = .ok (.iload 5, 2) := by decide +kernel
theorem dM_loosely_94 : decode cM_loosely 94 = .ok (.iconst 1, 1) := by decide +kernel
theorem dM_loosely_95 : decode cM_loosely 95 = .ok (.isub, 1) := by decide +kernel
theorem dM_loosely_96 : decode cM_loosely 96 = .ok (.iaload, 1) := by decide +kernel
theorem dM_loosely_97 : decode cM_loosely 97 = .ok (.bipush 32, 2) := by decide +kernel
theorem dM_loosely_99 : decode cM_loosely 99 = .ok (.if_icmp .ne 9, 3) := by decide +kernel
theorem dM_loosely_102 : decode cM_loosely 102 = .ok (.iinc 5 (-1), 3) := by decide +kernel
theorem dM_loosely_105 : decode cM_loosely 105 = .ok (.goto (-23), 3) := by decide +kernel
theorem dM_loosely_108 : decode cM_loosely 108 = .ok (.iload 6, 2) := by decide +kernel
theorem dM_loosely_110 : decode cM_loosely 110 = .ok (.iload 4, 2) := by decide +kernel
theorem dM_loosely_112 : decode cM_loosely 112 = .ok (.if_icmp .le 23, 3) := by decide +kernel
theorem dM_loosely_115 : decode cM_loosely 115 = .ok (.aload_n 0, 1) := by decide +kernel
theorem dM_loosely_116 : decode cM_loosely 116 = .ok (.getfield 13, 3) := by decide +kernel
theorem dM_loosely_119 : decode cM_loosely 119 = .ok (.iload 6, 2) := by decide +kernel
theorem dM_loosely_121 : decode cM_loosely 121 = .ok (.iconst 1, 1) := by decide +kernel
theorem dM_loosely_122 : decode cM_loosely 122 = .ok (.isub, 1) := by decide +kernel
theorem dM_loosely_123 : decode cM_loosely 123 = .ok (.iaload, 1) := by decide +kernel
theorem dM_loosely_124 : decode cM_loosely 124 = .ok (.bipush 32, 2) := by decide +kernel
theorem dM_loosely_126 : decode cM_loosely 126 = .ok (.if_icmp .ne 9, 3) := by decide +kernel
theorem dM_loosely_129 : decode cM_loosely 129 = .ok (.iinc 6 (-1), 3) := by decide +kernel
theorem dM_loosely_132 : decode cM_loosely 132 = .ok (.goto (-24), 3) := by decide +kernel
theorem dM_loosely_135 : decode cM_loosely 135 = .ok (.iload_n 3, 1) := by decide +kernel
theorem dM_loosely_136 : decode cM_loosely 136 = .ok (.iload 5, 2) := by decide +kernel
theorem dM_loosely_138 : decode cM_loosely 138 = .ok (.if_icmp .lt 10, 3) := by decide +kernel
theorem dM_loosely_141 : decode cM_loosely 141 = .ok (.iload 4, 2) := by decide +kernel
theorem dM_loosely_143 : decode cM_loosely 143 = .ok (.iload 6, 2) := by decide +kernel
theorem dM_loosely_145 : decode cM_loosely 145 = .ok (.if_icmp .ge 65, 3) := by decide +kernel
theorem dM_loosely_148 : decode cM_loosely 148 = .ok (.iload_n 3, 1) := by decide +kernel
theorem dM_loosely_149 : decode cM_loosely 149 = .ok (.iload 5, 2) := by decide +kernel
theorem dM_loosely_151 : decode cM_loosely 151 = .ok (.if_icmp .ge 12, 3) := by decide +kernel
theorem dM_loosely_154 : decode cM_loosely 154 = .ok (.aload_n 0, 1) := by decide +kernel
theorem dM_loosely_155 : decode cM_loosely 155 = .ok (.getfield 13, 3) := by decide +kernel
theorem dM_loosely_158 : decode cM_loosely 158 = .ok (.iload_n 3, 1) := by decide +kernel
theorem dM_loosely_159 : decode cM_loosely 159 = .ok (.iaload, 1) := by decide +kernel
theorem dM_loosely_160 : decode cM_loosely 160 = .ok (.goto 5, 3) := by decide +kernel
theorem dM_loosely_163 : decode cM_loosely 163 = .ok (.bipush 32, 2) := by decide +kernel
theorem dM_loosely_165 : decode cM_loosely 165 = .ok (.istore 7, 2) := by decide +kernel
theorem dM_loosely_167 : decode cM_loosely 167 = .ok (.iload 4, 2) := by decide +kernel
theorem dM_loosely_169 : decode cM_loosely 169 = .ok (.iload 6, 2) := by decide +kernel
theorem dM_loosely_171 : decode cM_loosely 171 = .ok (.if_icmp .ge 13, 3) := by decide +kernel
theorem dM_loosely_174 : decode cM_loosely 174 = .ok (.aload_n 0, 1) := by decide +kernel
theorem dM_loosely_175 : decode cM_loosely 175 = .ok (.getfield 13, 3) := by decide +kernel
theorem dM_loosely_178 : decode cM_loosely 178 = .ok (.iload 4, 2) := by decide +kernel
theorem dM_loosely_180 : decode cM_loosely 180 = .ok (.iaload, 1) := by decide +kernel
theorem dM_loosely_181 : decode cM_loosely 181 = .ok (.goto 5, 3) := by decide +kernel
theorem dM_loosely_184 : decode cM_loosely 184 = .ok (.bipush 32, 2) := by decide +kernel
theorem dM_loosely_186 : decode cM_loosely 186 = .ok (.istore 8, 2) := by decide +kernel
theorem dM_loosely_188 : decode cM_loosely 188 = .ok (.iload 7, 2) := by decide +kernel
theorem dM_loosely_190 : decode cM_loosely 190 = .ok (.iload 8, 2) := by decide +kernel
theorem dM_loosely_192 : decode cM_loosely 192 = .ok (.if_icmp .eq 9, 3) := by decide +kernel
theorem dM_loosely_195 : decode cM_loosely 195 = .ok (.iload 7, 2) := by decide +kernel
theorem dM_loosely_197 : decode cM_loosely 197 = .ok (.iload 8, 2) := by decide +kernel
theorem dM_loosely_199 : decode cM_loosely 199 = .ok (.isub, 1) := by decide +kernel
theorem dM_loosely_200 : decode cM_loosely 200 = .ok (.ireturn, 1) := by decide +kernel
theorem dM_loosely_201 : decode cM_loosely 201 = .ok (.iinc 3 1, 3) := by decide +kernel
theorem dM_loosely_204 : decode cM_loosely 204 = .ok (.iinc 4 1, 3) := by decide +kernel
theorem dM_loosely_207 : decode cM_loosely 207 = .ok (.goto (-72), 3) := by decide +kernel
theorem dM_loosely_210 : decode cM_loosely 210 = .ok (.iconst 0, 1) := by decide +kernel
theorem dM_loosely_211 : decode cM_loosely 211 = .ok (.ireturn, 1) := by decide +kernel
theorem dM_compare_0 : decode cM_compare 0 = .ok (.iload_n 1, 1) := by decide +kernel
theorem dM_compare_1 : decode cM_compare 1 = .ok (.invokestatic 48, 3) := by decide +kernel
theorem dM_compare_4 : decode cM_compare 4 = .ok (.ifCond .eq 10, 3) := by decide +kernel
theorem dM_compare_7 : decode cM_compare 7 = .ok (.iload_n 2, 1) := by decide +kernel
theorem dM_compare_8 : decode cM_compare 8 = .ok (.invokestatic 48, 3) := by decide +kernel
theorem dM_compare_11 : decode cM_compare 11 = .ok (.ifCond .ne 5, 3) := by decide +kernel
theorem dM_compare_14 : decode cM_compare 14 = .ok (.iconst (-1), 1) := by decide +kernel
theorem dM_compare_15 : decode cM_compare 15 = .ok (.ireturn, 1) := by decide +kernel
theorem dM_compare_16 : decode cM_compare 16 = .ok (.iload_n 3, 1) := by decide +kernel
theorem dM_compare_17 : decode cM_compare 17 = .ok (.ifCond .eq 13, 3) := by decide +kernel
theorem dM_compare_20 : decode cM_compare 20 = .ok (.aload_n 0, 1) := by decide +kernel
theorem dM_compare_21 : decode cM_compare 21 = .ok (.iload_n 1, 1) := by decide +kernel
theorem dM_compare_22 : decode cM_compare 22 = .ok (.iload_n 2, 1) := by decide +kernel
theorem dM_compare_23 : decode cM_compare 23 = .ok (.invokevirtual 138, 3) := by decide +kernel
theorem dM_compare_26 : decode cM_compare 26 = .ok (.invokestatic 141, 3) := by decide +kernel
theorem dM_compare_29 : decode cM_compare 29 = .ok (.ireturn, 1) := by decide +kernel
theorem dM_compare_30 : decode cM_compare 30 = .ok (.aload_n 0, 1) := by decide +kernel
theorem dM_compare_31 : decode cM_compare 31 = .ok (.iload_n 1, 1) := by decide +kernel
theorem dM_compare_32 : decode cM_compare 32 = .ok (.iconst 0, 1) := by decide +kernel
theorem dM_compare_33 : decode cM_compare 33 = .ok (.invokevirtual 122, 3) := by decide +kernel
theorem dM_compare_36 : decode cM_compare 36 = .ok (.ifCond .eq 12, 3) := by decide +kernel
theorem dM_compare_39 : decode cM_compare 39 = .ok (.aload_n 0, 1) := by decide +kernel
theorem dM_compare_40 : decode cM_compare 40 = .ok (.iload_n 2, 1) := by decide +kernel
theorem dM_compare_41 : decode cM_compare 41 = .ok (.iconst 1, 1) := by decide +kernel
theorem dM_compare_42 : decode cM_compare 42 = .ok (.invokevirtual 122, 3) := by decide +kernel
theorem dM_compare_45 : decode cM_compare 45 = .ok (.ifCond .ne 13, 3) := by decide +kernel
theorem dM_compare_48 : decode cM_compare 48 = .ok (.aload_n 0, 1) := by decide +kernel
theorem dM_compare_49 : decode cM_compare 49 = .ok (.iload_n 1, 1) := by decide +kernel
theorem dM_compare_50 : decode cM_compare 50 = .ok (.iload_n 2, 1) := by decide +kernel
theorem dM_compare_51 : decode cM_compare 51 = .ok (.invokevirtual 144, 3) := by decide +kernel
theorem dM_compare_54 : decode cM_compare 54 = .ok (.invokestatic 141, 3) := by decide +kernel
theorem dM_compare_57 : decode cM_compare 57 = .ok (.ireturn, 1) := by decide +kernel
theorem dM_compare_58 : decode cM_compare 58 = .ok (.aload_n 0, 1) := by decide +kernel
theorem dM_compare_59 : decode cM_compare 59 = .ok (.iconst 0, 1) := by decide +kernel
theorem dM_compare_60 : decode cM_compare 60 = .ok (.aload_n 0, 1) := by decide +kernel
theorem dM_compare_61 : decode cM_compare 61 = .ok (.getfield 19, 3) := by decide +kernel
theorem dM_compare_64 : decode cM_compare 64 = .ok (.aload_n 0, 1) := by decide +kernel
theorem dM_compare_65 : decode cM_compare 65 = .ok (.getfield 52, 3) := by decide +kernel
theorem dM_compare_68 : decode cM_compare 68 = .ok (.isub, 1) := by decide +kernel
theorem dM_compare_69 : decode cM_compare 69 = .ok (.invokevirtual 102, 3) := by decide +kernel
theorem dM_compare_72 : decode cM_compare 72 = .ok (.aload_n 0, 1) := by decide +kernel
theorem dM_compare_73 : decode cM_compare 73 = .ok (.iconst 1, 1) := by decide +kernel
theorem dM_compare_74 : decode cM_compare 74 = .ok (.aload_n 0, 1) := by decide +kernel
theorem dM_compare_75 : decode cM_compare 75 = .ok (.getfield 19, 3) := by decide +kernel
theorem dM_compare_78 : decode cM_compare 78 = .ok (.aload_n 0, 1) := by decide +kernel
theorem dM_compare_79 : decode cM_compare 79 = .ok (.getfield 52, 3) := by decide +kernel
theorem dM_compare_82 : decode cM_compare 82 = .ok (.isub, 1) := by decide +kernel
theorem dM_compare_83 : decode cM_compare 83 = .ok (.invokevirtual 102, 3) := by decide +kernel
theorem dM_compare_86 : decode cM_compare 86 = .ok (.aload_n 0, 1) := by decide +kernel
theorem dM_compare_87 : decode cM_compare 87 = .ok (.iconst 0, 1) := by decide +kernel
theorem dM_compare_88 : decode cM_compare 88 = .ok (.iconst 1, 1) := by decide +kernel
theorem dM_compare_89 : decode cM_compare 89 = .ok (.iconst 1, 1) := by decide +kernel
theorem dM_compare_90 : decode cM_compare 90 = .ok (.iconst 2, 1) := by decide +kernel
theorem dM_compare_91 : decode cM_compare 91 = .ok (.invokevirtual 111, 3) := by decide +kernel
theorem dM_compare_94 : decode cM_compare 94 = .ok (.aload_n 0, 1) := by decide +kernel
theorem dM_compare_95 : decode cM_compare 95 = .ok (.getfield 32, 3) := by decide +kernel
theorem dM_compare_98 : decode cM_compare 98 = .ok (.iconst 2, 1) := by decide +kernel
theorem dM_compare_99 : decode cM_compare 99 = .ok (.iaload, 1) := by decide +kernel
theorem dM_compare_100 : decode cM_compare 100 = .ok (.invokestatic 141, 3) := by decide +kernel
theorem dM_compare_103 : decode cM_compare 103 = .ok (.ireturn, 1) := by decide +kernel
theorem dM_whole_0 : decode cM_whole 0 = .ok (.iload_n 1, 1) := by decide +kernel
theorem dM_whole_1 : decode cM_whole 1 = .ok (.invokestatic 48, 3) := by decide +kernel
theorem dM_whole_4 : decode cM_whole 4 = .ok (.ifCond .ne 6, 3) := by decide +kernel
theorem dM_whole_7 : decode cM_whole 7 = .ok (.ldc 147, 2) := by decide +kernel
theorem dM_whole_9 : decode cM_whole 9 = .ok (.ireturn, 1) := by decide +kernel
theorem dM_whole_10 : decode cM_whole 10 = .ok (.aload_n 0, 1) := by decide +kernel
theorem dM_whole_11 : decode cM_whole 11 = .ok (.iload_n 1, 1) := by decide +kernel
theorem dM_whole_12 : decode cM_whole 12 = .ok (.iconst 0, 1) := by decide +kernel
theorem dM_whole_13 : decode cM_whole 13 = .ok (.invokevirtual 122, 3) := by decide +kernel
theorem dM_whole_16 : decode cM_whole 16 = .ok (.ifCond .eq 19, 3) := by decide +kernel
theorem dM_whole_19 : decode cM_whole 19 = .ok (.aload_n 0, 1) := by decide +kernel
theorem dM_whole_20 : decode cM_whole 20 = .ok (.iconst 0, 1) := by decide +kernel
theorem dM_whole_21 : decode cM_whole 21 = .ok (.invokevirtual 126, 3) := by decide +kernel
theorem dM_whole_24 : decode cM_whole 24 = .ok (.ifCond .eq 11, 3) := by decide +kernel
theorem dM_whole_27 : decode cM_whole 27 = .ok (.aload_n 0, 1) := by decide +kernel
theorem dM_whole_28 : decode cM_whole 28 = .ok (.iconst 0, 1) := by decide +kernel
theorem dM_whole_29 : decode cM_whole 29 = .ok (.invokevirtual 129, 3) := by decide +kernel
theorem dM_whole_32 : decode cM_whole 32 = .ok (.goto 5, 3) := by decide +kernel
theorem dM_whole_35 : decode cM_whole 35 = .ok (.ldc 148, 2) := by decide +kernel
theorem dM_whole_37 : decode cM_whole 37 = .ok (.ireturn, 1) := by decide +kernel
theorem dM_about_0 : decode cM_about 0 = .ok (.iload_n 1, 1) := by decide +kernel
theorem dM_about_1 : decode cM_about 1 = .ok (.invokestatic 48, 3) := by decide +kernel
theorem dM_about_4 : decode cM_about 4 = .ok (.ifCond .eq 12, 3) := by decide +kernel
theorem dM_about_7 : decode cM_about 7 = .ok (.iload_n 2, 1) := by decide +kernel
theorem dM_about_8 : decode cM_about 8 = .ok (.ifCond .lt 8, 3) := by decide +kernel
theorem dM_about_11 : decode cM_about 11 = .ok (.iload_n 2, 1) := by decide +kernel
theorem dM_about_12 : decode cM_about 12 = .ok (.iconst 3, 1) := by decide +kernel
theorem dM_about_13 : decode cM_about 13 = .ok (.if_icmp .le 5, 3) := by decide +kernel
theorem dM_about_16 : decode cM_about 16 = .ok (.iconst (-1), 1) := by decide +kernel
theorem dM_about_17 : decode cM_about 17 = .ok (.ireturn, 1) := by decide +kernel
theorem dM_about_18 : decode cM_about 18 = .ok (.aload_n 0, 1) := by decide +kernel
theorem dM_about_19 : decode cM_about 19 = .ok (.iload_n 1, 1) := by decide +kernel
theorem dM_about_20 : decode cM_about 20 = .ok (.iconst 0, 1) := by decide +kernel
theorem dM_about_21 : decode cM_about 21 = .ok (.invokevirtual 122, 3) := by decide +kernel
theorem dM_about_24 : decode cM_about 24 = .ok (.istore_n 3, 1) := by decide +kernel
theorem dM_about_25 : decode cM_about 25 = .ok (.iload_n 2, 1) := by decide +kernel
theorem dM_about_26 : decode cM_about 26 = .ok (.ifCond .ne 13, 3) := by decide +kernel
theorem dM_about_29 : decode cM_about 29 = .ok (.iload_n 3, 1) := by decide +kernel
theorem dM_about_30 : decode cM_about 30 = .ok (.ifCond .eq 7, 3) := by decide +kernel
theorem dM_about_33 : decode cM_about 33 = .ok (.iconst 1, 1) := by decide +kernel
theorem dM_about_34 : decode cM_about 34 = .ok (.goto 4, 3) := by decide +kernel
theorem dM_about_37 : decode cM_about 37 = .ok (.iconst 0, 1) := by decide +kernel
theorem dM_about_38 : decode cM_about 38 = .ok (.ireturn, 1) := by decide +kernel
theorem dM_about_39 : decode cM_about 39 = .ok (.iload_n 3, 1) := by decide +kernel
theorem dM_about_40 : decode cM_about 40 = .ok (.ifCond .eq 12, 3) := by decide +kernel
theorem dM_about_43 : decode cM_about 43 = .ok (.aload_n 0, 1) := by decide +kernel
theorem dM_about_44 : decode cM_about 44 = .ok (.getfield 32, 3) := by decide +kernel
theorem dM_about_47 : decode cM_about 47 = .ok (.iconst 0, 1) := by decide +kernel
theorem dM_about_48 : decode cM_about 48 = .ok (.iaload, 1) := by decide +kernel
theorem dM_about_49 : decode cM_about 49 = .ok (.ifCond .ne 5, 3) := by decide +kernel
theorem dM_about_52 : decode cM_about 52 = .ok (.iconst 0, 1) := by decide +kernel
theorem dM_about_53 : decode cM_about 53 = .ok (.ireturn, 1) := by decide +kernel
theorem dM_about_54 : decode cM_about 54 = .ok (.iload_n 2, 1) := by decide +kernel
theorem dM_about_55 : decode cM_about 55 = .ok (.iconst 1, 1) := by decide +kernel
theorem dM_about_56 : decode cM_about 56 = .ok (.if_icmp .ne 12, 3) := by decide +kernel
theorem dM_about_59 : decode cM_about 59 = .ok (.aload_n 0, 1) := by decide +kernel
theorem dM_about_60 : decode cM_about 60 = .ok (.getfield 26, 3) := by decide +kernel
theorem dM_about_63 : decode cM_about 63 = .ok (.iconst 0, 1) := by decide +kernel
theorem dM_about_64 : decode cM_about 64 = .ok (.iaload, 1) := by decide +kernel
theorem dM_about_65 : decode cM_about 65 = .ok (.goto 30, 3) := by decide +kernel
theorem dM_about_68 : decode cM_about 68 = .ok (.iload_n 2, 1) := by decide +kernel
theorem dM_about_69 : decode cM_about 69 = .ok (.iconst 2, 1) := by decide +kernel
theorem dM_about_70 : decode cM_about 70 = .ok (.if_icmp .ne 11, 3) := by decide +kernel
theorem dM_about_73 : decode cM_about 73 = .ok (.aload_n 0, 1) := by decide +kernel
theorem dM_about_74 : decode cM_about 74 = .ok (.iconst 0, 1) := by decide +kernel
theorem dM_about_75 : decode cM_about 75 = .ok (.invokevirtual 67, 3) := by decide +kernel
theorem dM_about_78 : decode cM_about 78 = .ok (.goto 17, 3) := by decide +kernel
theorem dM_about_81 : decode cM_about 81 = .ok (.aload_n 0, 1) := by decide +kernel
theorem dM_about_82 : decode cM_about 82 = .ok (.getfield 32, 3) := by decide +kernel
theorem dM_about_85 : decode cM_about 85 = .ok (.iconst 0, 1) := by decide +kernel
theorem dM_about_86 : decode cM_about 86 = .ok (.iaload, 1) := by decide +kernel
theorem dM_about_87 : decode cM_about 87 = .ok (.ifCond .ge 7, 3) := by decide +kernel
theorem dM_about_90 : decode cM_about 90 = .ok (.iconst 1, 1) := by decide +kernel
theorem dM_about_91 : decode cM_about 91 = .ok (.goto 4, 3) := by decide +kernel
theorem dM_about_94 : decode cM_about 94 = .ok (.iconst 0, 1) := by decide +kernel
theorem dM_about_95 : decode cM_about 95 = .ok (.ireturn, 1) := by decide +kernel
set_option maxHeartbeats 4000000 in
set_option maxRecDepth 100000 in
theorem b_M_cut_151 {X : wk_X} {G : cGt} (hI : wd_inj (vC G)) (C : wk_C X (vC G) cM_cut RM 6 3 75) {v2 : Int32} {v3 : Int32} {s1 : Int32} {s2 : Int32} {h : Hp} {q : Int32 × Hp}  (hf : f_M_cut_151 v2 v3 s1 s2 h = some q) (hq : wk_Q X (vC G) (some (.int q.1)) q.2 (some .int)) : WW X (vC G) h 151 [(0, .ref (cad G 46)), (2, .int v2), (3, .int v3)] [.int s2, .int s1, .ref (cad G 46)] := by
  unfold f_M_cut_151 at hf
  refine wk_iload_n C 2 dM_cut_151 rfl rfl ?_
  refine wk_ineg C dM_cut_152 ?_
  obtain ⟨r153, h153, e_153, hf⟩ := bd_some hf
  refine wk_callV (As := [.int s1, .int s2, .int (-v2)]) (rest := []) C lw_good cw_M_92 wi_M_plain (m_M_plain hI e_153) lz_46 (he_46 G (h 46)) rfl rfl rfl (Nat.le_of_ble_eq_true rfl) (by decide) dM_cut_153 ?_
  refine wk_aload_n C 0 dM_cut_156 rfl rfl ?_
  refine gf_M_86 C dM_cut_157 ?_
  refine wk_sipush C dM_cut_160 ksipush_200 ?_
  refine wk_icmp_le (tgt := 171) C dM_cut_163 rfl hf (fun c_163 hf => ?_) (fun c_163 hf => ?_)
  · refine wk_aload_n C 0 dM_cut_171 rfl rfl ?_
    refine wk_iload_n C 3 dM_cut_172 rfl rfl ?_
    obtain ⟨r173, h173, e_173, hf⟩ := bd_some hf
    refine wk_callV (As := [.int v3]) (rest := []) C lw_good cw_M_99 wi_M_keep (m_M_keep hI e_173) lz_46 (he_46 G (h153 46)) rfl rfl rfl (Nat.le_of_ble_eq_true rfl) (by decide) dM_cut_173 ?_
    cases hf
    exact wk_ireturn C hq dM_cut_176
  · refine wk_bipush C dM_cut_166 kbipush_m5 ?_
    refine wk_goto (tgt := 176) C dM_cut_168 rfl ?_
    cases hf
    exact wk_ireturn C hq dM_cut_176
set_option maxHeartbeats 4000000 in
set_option maxRecDepth 100000 in
theorem b_M_cut_122 {X : wk_X} {G : cGt} (hI : wd_inj (vC G)) (C : wk_C X (vC G) cM_cut RM 6 3 75) {v2 : Int32} {v3 : Int32} {h : Hp} {q : Int32 × Hp}  (hf : f_M_cut_122 v2 v3 h = some q) (hq : wk_Q X (vC G) (some (.int q.1)) q.2 (some .int)) : WW X (vC G) h 122 [(0, .ref (cad G 46)), (2, .int v2), (3, .int v3)] [] := by
  unfold f_M_cut_122 at hf
  refine wk_iload_n C 2 dM_cut_122 rfl rfl ?_
  refine wk_sipush C dM_cut_123 ksipush_1500 ?_
  refine wk_icmp_le (tgt := 132) C dM_cut_126 rfl hf (fun c_126 hf => ?_) (fun c_126 hf => ?_)
  · refine wk_aload_n C 0 dM_cut_132 rfl rfl ?_
    refine wk_iconst C dM_cut_133 kiconst_0 ?_
    refine wk_aload_n C 0 dM_cut_134 rfl rfl ?_
    refine wk_iconst C dM_cut_135 kiconst_0 ?_
    obtain ⟨r136, h136, e_136, hf⟩ := bd_some hf
    refine wk_callV (As := [.int 0]) (rest := [.int 0, .ref (cad G 46)]) C lw_good cw_M_67 wi_M_high (m_M_high hI e_136) lz_46 (he_46 G (h 46)) rfl rfl rfl (Nat.le_of_ble_eq_true rfl) (by decide) dM_cut_136 ?_
    refine wk_if_le (tgt := 150) C dM_cut_139 rfl hf (fun c_139 hf => ?_) (fun c_139 hf => ?_)
    · refine wk_iconst C dM_cut_150 kiconst_0 ?_
      exact wk_go (b_M_cut_151 hI C hf hq) (And.intro rfl (And.intro rfl (And.intro rfl trivial)))
    · refine wk_aload_n C 0 dM_cut_142 rfl rfl ?_
      refine wk_iconst C dM_cut_143 kiconst_0 ?_
      obtain ⟨r144, h144, e_144, hf⟩ := bd_some hf
      refine wk_callV (As := [.int 0]) (rest := [.int 0, .ref (cad G 46)]) C lw_good cw_M_67 wi_M_high (m_M_high hI e_144) lz_46 (he_46 G (h136 46)) rfl rfl rfl (Nat.le_of_ble_eq_true rfl) (by decide) dM_cut_144 ?_
      refine wk_goto (tgt := 151) C dM_cut_147 rfl ?_
      exact wk_go (b_M_cut_151 hI C hf hq) (And.intro rfl (And.intro rfl (And.intro rfl trivial)))
  · refine wk_bipush C dM_cut_129 kbipush_m5 ?_
    cases hf
    exact wk_ireturn C hq dM_cut_131
set_option maxHeartbeats 4000000 in
set_option maxRecDepth 100000 in
theorem b_M_cut_97 {X : wk_X} {G : cGt} (hI : wd_inj (vC G)) (C : wk_C X (vC G) cM_cut RM 6 3 75) {v2 : Int32} {v3 : Int32} {v4 : Int32} {h : Hp} {q : Int32 × Hp}  (hf : f_M_cut_97 v2 v3 v4 h = some q) (hq : wk_Q X (vC G) (some (.int q.1)) q.2 (some .int)) : WW X (vC G) h 97 [(0, .ref (cad G 46)), (2, .int v2), (3, .int v3), (4, .int v4)] [] := by
  unfold f_M_cut_97 at hf
  refine wk_aload_n C 0 dM_cut_97 rfl rfl ?_
  refine wk_iconst C dM_cut_98 kiconst_0 ?_
  refine pf_M_86 C dM_cut_99 ?_
  refine wk_aload_n C 0 dM_cut_102 rfl rfl ?_
  refine gf_M_32 C dM_cut_103 ?_
  refine wk_iconst C dM_cut_106 kiconst_0 ?_
  obtain ⟨c_107, hf⟩ := chk_some hf
  refine al_53 C c_107 dM_cut_107 ?_
  refine wk_if_ge (tgt := 122) C dM_cut_108 rfl hf (fun c_108 hf => ?_) (fun c_108 hf => ?_)
  · exact wk_go (b_M_cut_122 hI C hf hq) (And.intro rfl (And.intro rfl (And.intro rfl trivial)))
  · refine wk_iload C dM_cut_111 rfl ?_
    refine wk_if_ne (tgt := 122) C dM_cut_113 rfl hf (fun c_113 hf => ?_) (fun c_113 hf => ?_)
    · exact wk_go (b_M_cut_122 hI C hf hq) (And.intro rfl (And.intro rfl (And.intro rfl trivial)))
    · refine wk_aload_n C 0 dM_cut_116 rfl rfl ?_
      refine wk_bipush C dM_cut_117 kbipush_45 ?_
      obtain ⟨r119, h119, e_119, hf⟩ := bd_some hf
      refine wk_callV (As := [.int 45]) (rest := []) C lw_good cw_M_89 wi_M_letter (m_M_letter hI e_119) lz_46 (he_46 G ((up2 h 46 13 0) 46)) rfl rfl rfl (Nat.le_of_ble_eq_true rfl) (by decide) dM_cut_119 ?_
      exact wk_go (b_M_cut_122 hI C hf hq) (And.intro rfl (And.intro rfl (And.intro rfl trivial)))
set_option maxHeartbeats 4000000 in
set_option maxRecDepth 100000 in
theorem b_M_cut_51 {X : wk_X} {G : cGt} (hI : wd_inj (vC G)) (C : wk_C X (vC G) cM_cut RM 6 3 75) : ∀ (n : Nat) {v2 : Int32} {v3 : Int32} {v4 : Int32} {v5 : Int32} {h : Hp} {q : Int32 × Hp}  (hf : f_M_cut_51 n v2 v3 v4 v5 h = some q) (hq : wk_Q X (vC G) (some (.int q.1)) q.2 (some .int)), WW X (vC G) h 51 [(0, .ref (cad G 46)), (2, .int v2), (3, .int v3), (4, .int v4), (5, .int v5)] [] := by
  intro n
  induction n with
  | zero =>
    intros
    rename_i hf _
    cases hf
  | succ n ih =>
    intro v2 v3 v4 v5 h q hf hq
    rw [f_M_cut_51] at hf
    refine wk_iload C dM_cut_51 rfl ?_
    refine wk_aload_n C 0 dM_cut_53 rfl rfl ?_
    refine gf_M_29 C dM_cut_54 ?_
    refine wk_iconst C dM_cut_57 kiconst_0 ?_
    obtain ⟨c_58, hf⟩ := chk_some hf
    refine al_52 C c_58 dM_cut_58 ?_
    refine wk_icmp_lt (tgt := 97) C dM_cut_59 rfl hf (fun c_59 hf => ?_) (fun c_59 hf => ?_)
    · exact wk_go (b_M_cut_97 hI C hf hq) (And.intro rfl (And.intro rfl (And.intro rfl (And.intro rfl trivial))))
    · refine wk_iload C dM_cut_62 rfl ?_
      refine wk_iload_n C 2 dM_cut_64 rfl rfl ?_
      refine wk_ineg C dM_cut_65 ?_
      refine wk_icmp_lt (tgt := 97) C dM_cut_66 rfl hf (fun c_66 hf => ?_) (fun c_66 hf => ?_)
      · exact wk_go (b_M_cut_97 hI C hf hq) (And.intro rfl (And.intro rfl (And.intro rfl (And.intro rfl trivial))))
      · refine wk_iload C dM_cut_69 rfl ?_
        refine wk_if_eq (tgt := 88) C dM_cut_71 rfl hf (fun c_71 hf => ?_) (fun c_71 hf => ?_)
        · refine wk_iconst C dM_cut_88 kiconst_0 ?_
          refine wk_istore C dM_cut_89 (by decide) ?_
          refine wk_iinc C dM_cut_91 rfl kiconst_m1 (by decide) ?_
          refine wk_goto (tgt := 51) C dM_cut_94 rfl ?_
          exact wk_go (ih hf hq) (And.intro rfl (And.intro rfl (And.intro rfl (And.intro rfl (And.intro rfl trivial)))))
        · refine wk_aload_n C 0 dM_cut_74 rfl rfl ?_
          refine wk_iconst C dM_cut_75 kiconst_0 ?_
          refine wk_iload C dM_cut_76 rfl ?_
          obtain ⟨r78, h78, e_78, hf⟩ := bd_some hf
          refine wk_callV (As := [.int 0, .int v5]) (rest := []) C lw_good cw_M_75 wi_M_digit (m_M_digit hI e_78) lz_46 (he_46 G (h 46)) rfl rfl rfl (Nat.le_of_ble_eq_true rfl) (by decide) dM_cut_78 ?_
          refine wk_if_ne (tgt := 88) C dM_cut_81 rfl hf (fun c_81 hf => ?_) (fun c_81 hf => ?_)
          · refine wk_iconst C dM_cut_88 kiconst_0 ?_
            refine wk_istore C dM_cut_89 (by decide) ?_
            refine wk_iinc C dM_cut_91 rfl kiconst_m1 (by decide) ?_
            refine wk_goto (tgt := 51) C dM_cut_94 rfl ?_
            exact wk_go (ih hf hq) (And.intro rfl (And.intro rfl (And.intro rfl (And.intro rfl (And.intro rfl trivial)))))
          · refine wk_iconst C dM_cut_84 kiconst_1 ?_
            refine wk_goto (tgt := 89) C dM_cut_85 rfl ?_
            refine wk_istore C dM_cut_89 (by decide) ?_
            refine wk_iinc C dM_cut_91 rfl kiconst_m1 (by decide) ?_
            refine wk_goto (tgt := 51) C dM_cut_94 rfl ?_
            exact wk_go (ih hf hq) (And.intro rfl (And.intro rfl (And.intro rfl (And.intro rfl (And.intro rfl trivial)))))
set_option maxHeartbeats 4000000 in
set_option maxRecDepth 100000 in
theorem b_M_cut {X : wk_X} {G : cGt} (hI : wd_inj (vC G)) (C : wk_C X (vC G) cM_cut RM 6 3 75) {v1 : Int32} {v2 : Int32} {v3 : Int32} {h : Hp} {q : Int32 × Hp}  (hf : f_M_cut v1 v2 v3 h = some q) (hq : wk_Q X (vC G) (some (.int q.1)) q.2 (some .int)) : WW X (vC G) h 0 [(0, .ref (cad G 46)), (1, .int v1), (2, .int v2), (3, .int v3)] [] := by
  unfold f_M_cut at hf
  refine wk_iload_n C 1 dM_cut_0 rfl rfl ?_
  obtain ⟨r1, h1, e_1, hf⟩ := bd_some hf
  refine wk_callS (As := [.int v1]) (rest := []) C lw_good cw_M_48 ws_M_isRegister (m_M_isRegister hI e_1) rfl rfl (Nat.le_of_ble_eq_true rfl) (by decide) dM_cut_1 ?_
  refine wk_if_eq (tgt := 18) C dM_cut_4 rfl hf (fun c_4 hf => ?_) (fun c_4 hf => ?_)
  · refine wk_iconst C dM_cut_18 kiconst_m1 ?_
    cases hf
    exact wk_ireturn C hq dM_cut_19
  · refine wk_iload_n C 3 dM_cut_7 rfl rfl ?_
    obtain ⟨r8, h8, e_8, hf⟩ := bd_some hf
    refine wk_callS (As := [.int v3]) (rest := []) C lw_good cw_M_48 ws_M_isRegister (m_M_isRegister hI e_8) rfl rfl (Nat.le_of_ble_eq_true rfl) (by decide) dM_cut_8 ?_
    refine wk_if_eq (tgt := 18) C dM_cut_11 rfl hf (fun c_11 hf => ?_) (fun c_11 hf => ?_)
    · refine wk_iconst C dM_cut_18 kiconst_m1 ?_
      cases hf
      exact wk_ireturn C hq dM_cut_19
    · refine wk_iload_n C 2 dM_cut_14 rfl rfl ?_
      refine wk_if_ge (tgt := 20) C dM_cut_15 rfl hf (fun c_15 hf => ?_) (fun c_15 hf => ?_)
      · refine wk_aload_n C 0 dM_cut_20 rfl rfl ?_
        refine wk_iload_n C 1 dM_cut_21 rfl rfl ?_
        refine wk_iconst C dM_cut_22 kiconst_0 ?_
        obtain ⟨r23, h23, e_23, hf⟩ := bd_some hf
        refine wk_callV (As := [.int v1, .int 0]) (rest := []) C lw_good cw_M_122 wi_M_read (m_M_read hI e_23) lz_46 (he_46 G (h8 46)) rfl rfl rfl (Nat.le_of_ble_eq_true rfl) (by decide) dM_cut_23 ?_
        refine wk_if_ne (tgt := 32) C dM_cut_26 rfl hf (fun c_26 hf => ?_) (fun c_26 hf => ?_)
        · refine wk_aload_n C 0 dM_cut_32 rfl rfl ?_
          refine wk_iconst C dM_cut_33 kiconst_0 ?_
          refine wk_aload_n C 0 dM_cut_34 rfl rfl ?_
          refine gf_M_19 C dM_cut_35 ?_
          obtain ⟨r38, h38, e_38, hf⟩ := bd_some hf
          refine wk_callV (As := [.int 0, .int (h23 46 4)]) (rest := []) C lw_good cw_M_102 wi_M_round (m_M_round hI e_38) lz_46 (he_46 G (h23 46)) rfl rfl rfl (Nat.le_of_ble_eq_true rfl) (by decide) dM_cut_38 ?_
          refine wk_iconst C dM_cut_41 kiconst_1 ?_
          refine wk_istore C dM_cut_42 (by decide) ?_
          refine wk_aload_n C 0 dM_cut_44 rfl rfl ?_
          refine wk_iconst C dM_cut_45 kiconst_0 ?_
          obtain ⟨r46, h46, e_46, hf⟩ := bd_some hf
          refine wk_callV (As := [.int 0]) (rest := []) C lw_good cw_M_67 wi_M_high (m_M_high hI e_46) lz_46 (he_46 G (h38 46)) rfl rfl rfl (Nat.le_of_ble_eq_true rfl) (by decide) dM_cut_46 ?_
          refine wk_istore C dM_cut_49 (by decide) ?_
          exact wk_go (b_M_cut_51 hI C fuel hf hq) (And.intro rfl (And.intro rfl (And.intro rfl (And.intro rfl (And.intro rfl trivial)))))
        · refine wk_bipush C dM_cut_29 kbipush_m41 ?_
          cases hf
          exact wk_ireturn C hq dM_cut_31
      · refine wk_iconst C dM_cut_18 kiconst_m1 ?_
        cases hf
        exact wk_ireturn C hq dM_cut_19
theorem m_M_cut {l : Launch} {G : cGt} (hI : wd_inj (vC G)) {v1 : Int32} {v2 : Int32} {v3 : Int32} {h h' : Hp} {r : Int32}  (hf : f_M_cut v1 v2 v3 h = some (r, h')) : wk_M l (vC G) yM_cut cM_cut 6 (some .int) 3 75 [.ref (cad G 46), .int v1, .int v2, .int v3] h (some (.int r)) h' :=
  wk_met hI (by decide +kernel) rfl (Nat.le_of_ble_eq_true rfl) (wk_cat1 rfl) (fun X hX C hq => by subst hX; exact b_M_cut hI C  hf hq)
set_option maxHeartbeats 4000000 in
set_option maxRecDepth 100000 in
theorem b_M_column_330 {X : wk_X} {G : cGt} (hI : wd_inj (vC G)) (C : wk_C X (vC G) cM_column RM 9 3 75) {v4 : Int32} {v5 : Int32} {s1 : Int32} {s2 : Int32} {h : Hp} {q : Int32 × Hp}  (hf : f_M_column_330 v4 v5 s1 s2 h = some q) (hq : wk_Q X (vC G) (some (.int q.1)) q.2 (some .int)) : WW X (vC G) h 330 [(0, .ref (cad G 46)), (4, .int v4), (5, .int v5)] [.int s2, .int s1, .ref (cad G 46)] := by
  unfold f_M_column_330 at hf
  refine wk_iload C dM_column_330 rfl ?_
  refine wk_ineg C dM_column_332 ?_
  obtain ⟨r333, h333, e_333, hf⟩ := bd_some hf
  refine wk_callV (As := [.int s1, .int s2, .int (-v5)]) (rest := []) C lw_good cw_M_92 wi_M_plain (m_M_plain hI e_333) lz_46 (he_46 G (h 46)) rfl rfl rfl (Nat.le_of_ble_eq_true rfl) (by decide) dM_column_333 ?_
  refine wk_aload_n C 0 dM_column_336 rfl rfl ?_
  refine gf_M_86 C dM_column_337 ?_
  refine wk_sipush C dM_column_340 ksipush_200 ?_
  refine wk_icmp_le (tgt := 351) C dM_column_343 rfl hf (fun c_343 hf => ?_) (fun c_343 hf => ?_)
  · refine wk_aload_n C 0 dM_column_351 rfl rfl ?_
    refine wk_iload C dM_column_352 rfl ?_
    obtain ⟨r354, h354, e_354, hf⟩ := bd_some hf
    refine wk_callV (As := [.int v4]) (rest := []) C lw_good cw_M_99 wi_M_keep (m_M_keep hI e_354) lz_46 (he_46 G (h333 46)) rfl rfl rfl (Nat.le_of_ble_eq_true rfl) (by decide) dM_column_354 ?_
    cases hf
    exact wk_ireturn C hq dM_column_357
  · refine wk_bipush C dM_column_346 kbipush_m5 ?_
    refine wk_goto (tgt := 357) C dM_column_348 rfl ?_
    cases hf
    exact wk_ireturn C hq dM_column_357
set_option maxHeartbeats 4000000 in
set_option maxRecDepth 100000 in
theorem b_M_column_311 {X : wk_X} {G : cGt} (hI : wd_inj (vC G)) (C : wk_C X (vC G) cM_column RM 9 3 75) {v4 : Int32} {v5 : Int32} {h : Hp} {q : Int32 × Hp}  (hf : f_M_column_311 v4 v5 h = some q) (hq : wk_Q X (vC G) (some (.int q.1)) q.2 (some .int)) : WW X (vC G) h 311 [(0, .ref (cad G 46)), (4, .int v4), (5, .int v5)] [] := by
  unfold f_M_column_311 at hf
  refine wk_aload_n C 0 dM_column_311 rfl rfl ?_
  refine wk_iconst C dM_column_312 kiconst_0 ?_
  refine wk_aload_n C 0 dM_column_313 rfl rfl ?_
  refine wk_iconst C dM_column_314 kiconst_0 ?_
  obtain ⟨r315, h315, e_315, hf⟩ := bd_some hf
  refine wk_callV (As := [.int 0]) (rest := [.int 0, .ref (cad G 46)]) C lw_good cw_M_67 wi_M_high (m_M_high hI e_315) lz_46 (he_46 G (h 46)) rfl rfl rfl (Nat.le_of_ble_eq_true rfl) (by decide) dM_column_315 ?_
  refine wk_if_le (tgt := 329) C dM_column_318 rfl hf (fun c_318 hf => ?_) (fun c_318 hf => ?_)
  · refine wk_iconst C dM_column_329 kiconst_0 ?_
    exact wk_go (b_M_column_330 hI C hf hq) (And.intro rfl (And.intro rfl (And.intro rfl trivial)))
  · refine wk_aload_n C 0 dM_column_321 rfl rfl ?_
    refine wk_iconst C dM_column_322 kiconst_0 ?_
    obtain ⟨r323, h323, e_323, hf⟩ := bd_some hf
    refine wk_callV (As := [.int 0]) (rest := [.int 0, .ref (cad G 46)]) C lw_good cw_M_67 wi_M_high (m_M_high hI e_323) lz_46 (he_46 G (h315 46)) rfl rfl rfl (Nat.le_of_ble_eq_true rfl) (by decide) dM_column_323 ?_
    refine wk_goto (tgt := 330) C dM_column_326 rfl ?_
    exact wk_go (b_M_column_330 hI C hf hq) (And.intro rfl (And.intro rfl (And.intro rfl trivial)))
set_option maxHeartbeats 4000000 in
set_option maxRecDepth 100000 in
theorem b_M_column_278 {X : wk_X} {G : cGt} (hI : wd_inj (vC G)) (C : wk_C X (vC G) cM_column RM 9 3 75) : ∀ (n : Nat) {v2 : Int32} {v4 : Int32} {v5 : Int32} {v8 : Int32} {h : Hp} {q : Int32 × Hp}  (hf : f_M_column_278 n v2 v4 v5 v8 h = some q) (hq : wk_Q X (vC G) (some (.int q.1)) q.2 (some .int)), WW X (vC G) h 278 [(0, .ref (cad G 46)), (2, .int v2), (4, .int v4), (5, .int v5), (8, .int v8)] [] := by
  intro n
  induction n with
  | zero =>
    intros
    rename_i hf _
    cases hf
  | succ n ih =>
    intro v2 v4 v5 v8 h q hf hq
    rw [f_M_column_278] at hf
    refine wk_iload C dM_column_278 rfl ?_
    refine wk_iload_n C 2 dM_column_280 rfl rfl ?_
    refine wk_icmp_ge (tgt := 296) C dM_column_281 rfl hf (fun c_281 hf => ?_) (fun c_281 hf => ?_)
    · refine wk_aload_n C 0 dM_column_296 rfl rfl ?_
      refine gf_M_32 C dM_column_297 ?_
      refine wk_iconst C dM_column_300 kiconst_0 ?_
      obtain ⟨c_301, hf⟩ := chk_some hf
      refine al_53 C c_301 dM_column_301 ?_
      refine wk_if_ge (tgt := 311) C dM_column_302 rfl hf (fun c_302 hf => ?_) (fun c_302 hf => ?_)
      · exact wk_go (b_M_column_311 hI C hf hq) (And.intro rfl (And.intro rfl (And.intro rfl trivial)))
      · refine wk_aload_n C 0 dM_column_305 rfl rfl ?_
        refine wk_bipush C dM_column_306 kbipush_45 ?_
        obtain ⟨r308, h308, e_308, hf⟩ := bd_some hf
        refine wk_callV (As := [.int 45]) (rest := []) C lw_good cw_M_89 wi_M_letter (m_M_letter hI e_308) lz_46 (he_46 G (h 46)) rfl rfl rfl (Nat.le_of_ble_eq_true rfl) (by decide) dM_column_308 ?_
        exact wk_go (b_M_column_311 hI C hf hq) (And.intro rfl (And.intro rfl (And.intro rfl trivial)))
    · refine wk_aload_n C 0 dM_column_284 rfl rfl ?_
      refine wk_bipush C dM_column_285 kbipush_32 ?_
      obtain ⟨r287, h287, e_287, hf⟩ := bd_some hf
      refine wk_callV (As := [.int 32]) (rest := []) C lw_good cw_M_89 wi_M_letter (m_M_letter hI e_287) lz_46 (he_46 G (h 46)) rfl rfl rfl (Nat.le_of_ble_eq_true rfl) (by decide) dM_column_287 ?_
      refine wk_iinc C dM_column_290 rfl kiconst_1 (by decide) ?_
      refine wk_goto (tgt := 278) C dM_column_293 rfl ?_
      exact wk_go (ih hf hq) (And.intro rfl (And.intro rfl (And.intro rfl (And.intro rfl (And.intro rfl trivial)))))
set_option maxHeartbeats 4000000 in
set_option maxRecDepth 100000 in
theorem b_M_column_257 {X : wk_X} {G : cGt} (hI : wd_inj (vC G)) (C : wk_C X (vC G) cM_column RM 9 3 75) {v2 : Int32} {v4 : Int32} {v5 : Int32} {v7 : Int32} {s0 : Int32} {h : Hp} {q : Int32 × Hp}  (hf : f_M_column_257 v2 v4 v5 v7 s0 h = some q) (hq : wk_Q X (vC G) (some (.int q.1)) q.2 (some .int)) : WW X (vC G) h 257 [(0, .ref (cad G 46)), (2, .int v2), (4, .int v4), (5, .int v5), (7, .int v7)] [.int s0] := by
  unfold f_M_column_257 at hf
  refine wk_iload C dM_column_257 rfl ?_
  refine wk_iadd C dM_column_259 ?_
  refine wk_sipush C dM_column_260 ksipush_200 ?_
  refine wk_icmp_le (tgt := 269) C dM_column_263 rfl hf (fun c_263 hf => ?_) (fun c_263 hf => ?_)
  · refine wk_aload_n C 0 dM_column_269 rfl rfl ?_
    refine wk_iconst C dM_column_270 kiconst_0 ?_
    refine pf_M_86 C dM_column_271 ?_
    refine wk_iload C dM_column_274 rfl ?_
    refine wk_istore C dM_column_276 (by decide) ?_
    exact wk_go (b_M_column_278 hI C fuel hf hq) (And.intro rfl (And.intro rfl (And.intro rfl (And.intro rfl (And.intro rfl trivial)))))
  · refine wk_bipush C dM_column_266 kbipush_m5 ?_
    cases hf
    exact wk_ireturn C hq dM_column_268
set_option maxHeartbeats 4000000 in
set_option maxRecDepth 100000 in
theorem b_M_column_230 {X : wk_X} {G : cGt} (hI : wd_inj (vC G)) (C : wk_C X (vC G) cM_column RM 9 3 75) {v2 : Int32} {v4 : Int32} {v5 : Int32} {v7 : Int32} {h : Hp} {q : Int32 × Hp}  (hf : f_M_column_230 v2 v4 v5 v7 h = some q) (hq : wk_Q X (vC G) (some (.int q.1)) q.2 (some .int)) : WW X (vC G) h 230 [(0, .ref (cad G 46)), (2, .int v2), (4, .int v4), (5, .int v5), (7, .int v7)] [] := by
  unfold f_M_column_230 at hf
  refine wk_iload_n C 2 dM_column_230 rfl rfl ?_
  refine wk_sipush C dM_column_231 ksipush_1500 ?_
  refine wk_icmp_gt (tgt := 266) C dM_column_234 rfl hf (fun c_234 hf => ?_) (fun c_234 hf => ?_)
  · refine wk_bipush C dM_column_266 kbipush_m5 ?_
    cases hf
    exact wk_ireturn C hq dM_column_268
  · refine wk_iload C dM_column_237 rfl ?_
    refine wk_sipush C dM_column_239 ksipush_1400 ?_
    refine wk_icmp_gt (tgt := 266) C dM_column_242 rfl hf (fun c_242 hf => ?_) (fun c_242 hf => ?_)
    · refine wk_bipush C dM_column_266 kbipush_m5 ?_
      cases hf
      exact wk_ireturn C hq dM_column_268
    · refine wk_iload_n C 2 dM_column_245 rfl rfl ?_
      refine wk_iload C dM_column_246 rfl ?_
      refine wk_icmp_le (tgt := 255) C dM_column_248 rfl hf (fun c_248 hf => ?_) (fun c_248 hf => ?_)
      · refine wk_iload C dM_column_255 rfl ?_
        exact wk_go (b_M_column_257 hI C hf hq) (And.intro rfl (And.intro rfl (And.intro rfl (And.intro rfl (And.intro rfl trivial)))))
      · refine wk_iload_n C 2 dM_column_251 rfl rfl ?_
        refine wk_goto (tgt := 257) C dM_column_252 rfl ?_
        exact wk_go (b_M_column_257 hI C hf hq) (And.intro rfl (And.intro rfl (And.intro rfl (And.intro rfl (And.intro rfl trivial)))))
set_option maxHeartbeats 4000000 in
set_option maxRecDepth 100000 in
theorem b_M_column_214 {X : wk_X} {G : cGt} (hI : wd_inj (vC G)) (C : wk_C X (vC G) cM_column RM 9 3 75) {v2 : Int32} {v4 : Int32} {v5 : Int32} {s0 : Int32} {s1 : Int32} {h : Hp} {q : Int32 × Hp}  (hf : f_M_column_214 v2 v4 v5 s0 s1 h = some q) (hq : wk_Q X (vC G) (some (.int q.1)) q.2 (some .int)) : WW X (vC G) h 214 [(0, .ref (cad G 46)), (2, .int v2), (4, .int v4), (5, .int v5)] [.int s1, .int s0] := by
  unfold f_M_column_214 at hf
  refine wk_iadd C dM_column_214 ?_
  refine wk_istore C dM_column_215 (by decide) ?_
  refine wk_iload_n C 2 dM_column_217 rfl rfl ?_
  refine wk_if_lt (tgt := 230) C dM_column_218 rfl hf (fun c_218 hf => ?_) (fun c_218 hf => ?_)
  · exact wk_go (b_M_column_230 hI C hf hq) (And.intro rfl (And.intro rfl (And.intro rfl (And.intro rfl (And.intro rfl trivial)))))
  · refine wk_iload_n C 2 dM_column_221 rfl rfl ?_
    refine wk_iload C dM_column_222 rfl ?_
    refine wk_icmp_ge (tgt := 230) C dM_column_224 rfl hf (fun c_224 hf => ?_) (fun c_224 hf => ?_)
    · exact wk_go (b_M_column_230 hI C hf hq) (And.intro rfl (And.intro rfl (And.intro rfl (And.intro rfl (And.intro rfl trivial)))))
    · refine wk_bipush C dM_column_227 kbipush_m40 ?_
      cases hf
      exact wk_ireturn C hq dM_column_229
set_option maxHeartbeats 4000000 in
set_option maxRecDepth 100000 in
theorem b_M_column_195 {X : wk_X} {G : cGt} (hI : wd_inj (vC G)) (C : wk_C X (vC G) cM_column RM 9 3 75) {v2 : Int32} {v4 : Int32} {v5 : Int32} {s0 : Int32} {h : Hp} {q : Int32 × Hp}  (hf : f_M_column_195 v2 v4 v5 s0 h = some q) (hq : wk_Q X (vC G) (some (.int q.1)) q.2 (some .int)) : WW X (vC G) h 195 [(0, .ref (cad G 46)), (2, .int v2), (4, .int v4), (5, .int v5)] [.int s0] := by
  unfold f_M_column_195 at hf
  refine wk_aload_n C 0 dM_column_195 rfl rfl ?_
  refine wk_iconst C dM_column_196 kiconst_0 ?_
  obtain ⟨r197, h197, e_197, hf⟩ := bd_some hf
  refine wk_callV (As := [.int 0]) (rest := [.int s0]) C lw_good cw_M_67 wi_M_high (m_M_high hI e_197) lz_46 (he_46 G (h 46)) rfl rfl rfl (Nat.le_of_ble_eq_true rfl) (by decide) dM_column_197 ?_
  refine wk_if_le (tgt := 213) C dM_column_200 rfl hf (fun c_200 hf => ?_) (fun c_200 hf => ?_)
  · refine wk_iconst C dM_column_213 kiconst_1 ?_
    exact wk_go (b_M_column_214 hI C hf hq) (And.intro rfl (And.intro rfl (And.intro rfl (And.intro rfl trivial))))
  · refine wk_aload_n C 0 dM_column_203 rfl rfl ?_
    refine wk_iconst C dM_column_204 kiconst_0 ?_
    obtain ⟨r205, h205, e_205, hf⟩ := bd_some hf
    refine wk_callV (As := [.int 0]) (rest := [.int s0]) C lw_good cw_M_67 wi_M_high (m_M_high hI e_205) lz_46 (he_46 G (h197 46)) rfl rfl rfl (Nat.le_of_ble_eq_true rfl) (by decide) dM_column_205 ?_
    refine wk_iconst C dM_column_208 kiconst_1 ?_
    refine wk_iadd C dM_column_209 ?_
    refine wk_goto (tgt := 214) C dM_column_210 rfl ?_
    exact wk_go (b_M_column_214 hI C hf hq) (And.intro rfl (And.intro rfl (And.intro rfl (And.intro rfl trivial))))
set_option maxHeartbeats 4000000 in
set_option maxRecDepth 100000 in
theorem b_M_column_124 {X : wk_X} {G : cGt} (hI : wd_inj (vC G)) (C : wk_C X (vC G) cM_column RM 9 3 75) {v2 : Int32} {v4 : Int32} {v5 : Int32} {h : Hp} {q : Int32 × Hp}  (hf : f_M_column_124 v2 v4 v5 h = some q) (hq : wk_Q X (vC G) (some (.int q.1)) q.2 (some .int)) : WW X (vC G) h 124 [(0, .ref (cad G 46)), (2, .int v2), (4, .int v4), (5, .int v5)] [] := by
  unfold f_M_column_124 at hf
  refine wk_aload_n C 0 dM_column_124 rfl rfl ?_
  refine wk_iconst C dM_column_125 kiconst_0 ?_
  obtain ⟨r126, h126, e_126, hf⟩ := bd_some hf
  refine wk_callV (As := [.int 0]) (rest := []) C lw_good cw_M_58 wi_M_zero (m_M_zero hI e_126) lz_46 (he_46 G (h 46)) rfl rfl rfl (Nat.le_of_ble_eq_true rfl) (by decide) dM_column_126 ?_
  refine wk_goto (tgt := 181) C dM_column_129 rfl ?_
  refine wk_aload_n C 0 dM_column_181 rfl rfl ?_
  refine gf_M_32 C dM_column_182 ?_
  refine wk_iconst C dM_column_185 kiconst_0 ?_
  obtain ⟨c_186, hf⟩ := chk_some hf
  refine al_53 C c_186 dM_column_186 ?_
  refine wk_if_ge (tgt := 194) C dM_column_187 rfl hf (fun c_187 hf => ?_) (fun c_187 hf => ?_)
  · refine wk_iconst C dM_column_194 kiconst_0 ?_
    exact wk_go (b_M_column_195 hI C hf hq) (And.intro rfl (And.intro rfl (And.intro rfl (And.intro rfl trivial))))
  · refine wk_iconst C dM_column_190 kiconst_1 ?_
    refine wk_goto (tgt := 195) C dM_column_191 rfl ?_
    exact wk_go (b_M_column_195 hI C hf hq) (And.intro rfl (And.intro rfl (And.intro rfl (And.intro rfl trivial))))
set_option maxHeartbeats 4000000 in
set_option maxRecDepth 100000 in
theorem b_M_column_132 {X : wk_X} {G : cGt} (hI : wd_inj (vC G)) (C : wk_C X (vC G) cM_column RM 9 3 75) {v2 : Int32} {v4 : Int32} {v5 : Int32} {v6 : Int32} {h : Hp} {q : Int32 × Hp}  (hf : f_M_column_132 v2 v4 v5 v6 h = some q) (hq : wk_Q X (vC G) (some (.int q.1)) q.2 (some .int)) : WW X (vC G) h 132 [(0, .ref (cad G 46)), (2, .int v2), (4, .int v4), (5, .int v5), (6, .int v6)] [] := by
  unfold f_M_column_132 at hf
  refine wk_iload C dM_column_132 rfl ?_
  refine wk_if_ne (tgt := 163) C dM_column_134 rfl hf (fun c_134 hf => ?_) (fun c_134 hf => ?_)
  · refine wk_iload C dM_column_163 rfl ?_
    refine wk_aload_n C 0 dM_column_165 rfl rfl ?_
    refine gf_M_26 C dM_column_166 ?_
    refine wk_iconst C dM_column_169 kiconst_0 ?_
    obtain ⟨c_170, hf⟩ := chk_some hf
    refine al_51 C c_170 dM_column_170 ?_
    refine wk_icmp_ge (tgt := 181) C dM_column_171 rfl hf (fun c_171 hf => ?_) (fun c_171 hf => ?_)
    · refine wk_aload_n C 0 dM_column_181 rfl rfl ?_
      refine gf_M_32 C dM_column_182 ?_
      refine wk_iconst C dM_column_185 kiconst_0 ?_
      obtain ⟨c_186, hf⟩ := chk_some hf
      refine al_53 C c_186 dM_column_186 ?_
      refine wk_if_ge (tgt := 194) C dM_column_187 rfl hf (fun c_187 hf => ?_) (fun c_187 hf => ?_)
      · refine wk_iconst C dM_column_194 kiconst_0 ?_
        exact wk_go (b_M_column_195 hI C hf hq) (And.intro rfl (And.intro rfl (And.intro rfl (And.intro rfl trivial))))
      · refine wk_iconst C dM_column_190 kiconst_1 ?_
        refine wk_goto (tgt := 195) C dM_column_191 rfl ?_
        exact wk_go (b_M_column_195 hI C hf hq) (And.intro rfl (And.intro rfl (And.intro rfl (And.intro rfl trivial))))
    · refine wk_aload_n C 0 dM_column_174 rfl rfl ?_
      refine wk_iconst C dM_column_175 kiconst_0 ?_
      refine wk_iload C dM_column_176 rfl ?_
      obtain ⟨r178, h178, e_178, hf⟩ := bd_some hf
      refine wk_callV (As := [.int 0, .int v6]) (rest := []) C lw_good cw_M_102 wi_M_round (m_M_round hI e_178) lz_46 (he_46 G (h 46)) rfl rfl rfl (Nat.le_of_ble_eq_true rfl) (by decide) dM_column_178 ?_
      refine wk_aload_n C 0 dM_column_181 rfl rfl ?_
      refine gf_M_32 C dM_column_182 ?_
      refine wk_iconst C dM_column_185 kiconst_0 ?_
      obtain ⟨c_186, hf⟩ := chk_some hf
      refine al_53 C c_186 dM_column_186 ?_
      refine wk_if_ge (tgt := 194) C dM_column_187 rfl hf (fun c_187 hf => ?_) (fun c_187 hf => ?_)
      · refine wk_iconst C dM_column_194 kiconst_0 ?_
        exact wk_go (b_M_column_195 hI C hf hq) (And.intro rfl (And.intro rfl (And.intro rfl (And.intro rfl trivial))))
      · refine wk_iconst C dM_column_190 kiconst_1 ?_
        refine wk_goto (tgt := 195) C dM_column_191 rfl ?_
        exact wk_go (b_M_column_195 hI C hf hq) (And.intro rfl (And.intro rfl (And.intro rfl (And.intro rfl trivial))))
  · refine wk_aload_n C 0 dM_column_137 rfl rfl ?_
    refine gf_M_23 C dM_column_138 ?_
    refine wk_iconst C dM_column_141 kiconst_0 ?_
    refine wk_iconst C dM_column_142 kiconst_1 ?_
    obtain ⟨c_143, hf⟩ := chk_some hf
    refine as_50 C c_143 dM_column_143 ?_
    refine wk_aload_n C 0 dM_column_144 rfl rfl ?_
    refine gf_M_26 C dM_column_145 ?_
    refine wk_iconst C dM_column_148 kiconst_0 ?_
    refine wk_iconst C dM_column_149 kiconst_1 ?_
    obtain ⟨c_150, hf⟩ := chk_some hf
    refine as_51 C c_150 dM_column_150 ?_
    refine wk_aload_n C 0 dM_column_151 rfl rfl ?_
    refine gf_M_29 C dM_column_152 ?_
    refine wk_iconst C dM_column_155 kiconst_0 ?_
    refine wk_iload C dM_column_156 rfl ?_
    refine wk_ineg C dM_column_158 ?_
    obtain ⟨c_159, hf⟩ := chk_some hf
    refine as_52 C c_159 dM_column_159 ?_
    refine wk_goto (tgt := 181) C dM_column_160 rfl ?_
    refine wk_aload_n C 0 dM_column_181 rfl rfl ?_
    refine gf_M_32 C dM_column_182 ?_
    refine wk_iconst C dM_column_185 kiconst_0 ?_
    obtain ⟨c_186, hf⟩ := chk_some hf
    refine al_53 C c_186 dM_column_186 ?_
    refine wk_if_ge (tgt := 194) C dM_column_187 rfl hf (fun c_187 hf => ?_) (fun c_187 hf => ?_)
    · refine wk_iconst C dM_column_194 kiconst_0 ?_
      exact wk_go (b_M_column_195 hI C hf hq) (And.intro rfl (And.intro rfl (And.intro rfl (And.intro rfl trivial))))
    · refine wk_iconst C dM_column_190 kiconst_1 ?_
      refine wk_goto (tgt := 195) C dM_column_191 rfl ?_
      exact wk_go (b_M_column_195 hI C hf hq) (And.intro rfl (And.intro rfl (And.intro rfl (And.intro rfl trivial))))
set_option maxHeartbeats 4000000 in
set_option maxRecDepth 100000 in
theorem b_M_column_101 {X : wk_X} {G : cGt} (hI : wd_inj (vC G)) (C : wk_C X (vC G) cM_column RM 9 3 75) {v2 : Int32} {v4 : Int32} {v5 : Int32} {s0 : Int32} {s1 : Int32} {h : Hp} {q : Int32 × Hp}  (hf : f_M_column_101 v2 v4 v5 s0 s1 h = some q) (hq : wk_Q X (vC G) (some (.int q.1)) q.2 (some .int)) : WW X (vC G) h 101 [(0, .ref (cad G 46)), (2, .int v2), (4, .int v4), (5, .int v5)] [.int s1, .int s0] := by
  unfold f_M_column_101 at hf
  refine wk_iadd C dM_column_101 ?_
  refine wk_istore C dM_column_102 (by decide) ?_
  refine wk_iload C dM_column_104 rfl ?_
  refine wk_if_lt (tgt := 124) C dM_column_106 rfl hf (fun c_106 hf => ?_) (fun c_106 hf => ?_)
  · exact wk_go (b_M_column_124 hI C hf hq) (And.intro rfl (And.intro rfl (And.intro rfl (And.intro rfl trivial))))
  · refine wk_iload C dM_column_109 rfl ?_
    refine wk_if_ne (tgt := 132) C dM_column_111 rfl hf (fun c_111 hf => ?_) (fun c_111 hf => ?_)
    · exact wk_go (b_M_column_132 hI C hf hq) (And.intro rfl (And.intro rfl (And.intro rfl (And.intro rfl (And.intro rfl trivial)))))
    · refine wk_aload_n C 0 dM_column_114 rfl rfl ?_
      refine gf_M_23 C dM_column_115 ?_
      refine wk_iconst C dM_column_118 kiconst_0 ?_
      obtain ⟨c_119, hf⟩ := chk_some hf
      refine al_50 C c_119 dM_column_119 ?_
      refine wk_iconst C dM_column_120 kiconst_5 ?_
      refine wk_icmp_ge (tgt := 132) C dM_column_121 rfl hf (fun c_121 hf => ?_) (fun c_121 hf => ?_)
      · exact wk_go (b_M_column_132 hI C hf hq) (And.intro rfl (And.intro rfl (And.intro rfl (And.intro rfl (And.intro rfl trivial)))))
      · exact wk_go (b_M_column_124 hI C hf hq) (And.intro rfl (And.intro rfl (And.intro rfl (And.intro rfl trivial))))
set_option maxHeartbeats 4000000 in
set_option maxRecDepth 100000 in
theorem b_M_column_76 {X : wk_X} {G : cGt} (hI : wd_inj (vC G)) (C : wk_C X (vC G) cM_column RM 9 3 75) {v2 : Int32} {v4 : Int32} {s0 : Int32} {h : Hp} {q : Int32 × Hp}  (hf : f_M_column_76 v2 v4 s0 h = some q) (hq : wk_Q X (vC G) (some (.int q.1)) q.2 (some .int)) : WW X (vC G) h 76 [(0, .ref (cad G 46)), (2, .int v2), (4, .int v4)] [.int s0] := by
  unfold f_M_column_76 at hf
  refine wk_istore C dM_column_76 (by decide) ?_
  refine wk_aload_n C 0 dM_column_78 rfl rfl ?_
  refine wk_iconst C dM_column_79 kiconst_0 ?_
  obtain ⟨r80, h80, e_80, hf⟩ := bd_some hf
  refine wk_callV (As := [.int 0]) (rest := []) C lw_good cw_M_67 wi_M_high (m_M_high hI e_80) lz_46 (he_46 G (h 46)) rfl rfl rfl (Nat.le_of_ble_eq_true rfl) (by decide) dM_column_80 ?_
  refine wk_iconst C dM_column_83 kiconst_1 ?_
  refine wk_iadd C dM_column_84 ?_
  refine wk_iload C dM_column_85 rfl ?_
  refine wk_sipush C dM_column_87 ksipush_5000 ?_
  refine wk_icmp_le (tgt := 99) C dM_column_90 rfl hf (fun c_90 hf => ?_) (fun c_90 hf => ?_)
  · refine wk_iload C dM_column_99 rfl ?_
    exact wk_go (b_M_column_101 hI C hf hq) (And.intro rfl (And.intro rfl (And.intro rfl (And.intro rfl trivial))))
  · refine wk_sipush C dM_column_93 ksipush_5000 ?_
    refine wk_goto (tgt := 101) C dM_column_96 rfl ?_
    exact wk_go (b_M_column_101 hI C hf hq) (And.intro rfl (And.intro rfl (And.intro rfl (And.intro rfl trivial))))
set_option maxHeartbeats 4000000 in
set_option maxRecDepth 100000 in
theorem b_M_column {X : wk_X} {G : cGt} (hI : wd_inj (vC G)) (C : wk_C X (vC G) cM_column RM 9 3 75) {v1 : Int32} {v2 : Int32} {v3 : Int32} {v4 : Int32} {h : Hp} {q : Int32 × Hp}  (hf : f_M_column v1 v2 v3 v4 h = some q) (hq : wk_Q X (vC G) (some (.int q.1)) q.2 (some .int)) : WW X (vC G) h 0 [(0, .ref (cad G 46)), (1, .int v1), (2, .int v2), (3, .int v3), (4, .int v4)] [] := by
  unfold f_M_column at hf
  refine wk_iload_n C 1 dM_column_0 rfl rfl ?_
  obtain ⟨r1, h1, e_1, hf⟩ := bd_some hf
  refine wk_callS (As := [.int v1]) (rest := []) C lw_good cw_M_48 ws_M_isRegister (m_M_isRegister hI e_1) rfl rfl (Nat.le_of_ble_eq_true rfl) (by decide) dM_column_1 ?_
  refine wk_if_eq (tgt := 25) C dM_column_4 rfl hf (fun c_4 hf => ?_) (fun c_4 hf => ?_)
  · refine wk_iconst C dM_column_25 kiconst_m1 ?_
    cases hf
    exact wk_ireturn C hq dM_column_26
  · refine wk_iload C dM_column_7 rfl ?_
    obtain ⟨r9, h9, e_9, hf⟩ := bd_some hf
    refine wk_callS (As := [.int v4]) (rest := []) C lw_good cw_M_48 ws_M_isRegister (m_M_isRegister hI e_9) rfl rfl (Nat.le_of_ble_eq_true rfl) (by decide) dM_column_9 ?_
    refine wk_if_eq (tgt := 25) C dM_column_12 rfl hf (fun c_12 hf => ?_) (fun c_12 hf => ?_)
    · refine wk_iconst C dM_column_25 kiconst_m1 ?_
      cases hf
      exact wk_ireturn C hq dM_column_26
    · refine wk_iload_n C 3 dM_column_15 rfl rfl ?_
      refine wk_iconst C dM_column_16 kiconst_m1 ?_
      refine wk_icmp_lt (tgt := 25) C dM_column_17 rfl hf (fun c_17 hf => ?_) (fun c_17 hf => ?_)
      · refine wk_iconst C dM_column_25 kiconst_m1 ?_
        cases hf
        exact wk_ireturn C hq dM_column_26
      · refine wk_iload_n C 2 dM_column_20 rfl rfl ?_
        refine wk_iconst C dM_column_21 kiconst_m1 ?_
        refine wk_icmp_ge (tgt := 27) C dM_column_22 rfl hf (fun c_22 hf => ?_) (fun c_22 hf => ?_)
        · refine wk_aload_n C 0 dM_column_27 rfl rfl ?_
          refine wk_iload_n C 1 dM_column_28 rfl rfl ?_
          refine wk_iconst C dM_column_29 kiconst_0 ?_
          obtain ⟨r30, h30, e_30, hf⟩ := bd_some hf
          refine wk_callV (As := [.int v1, .int 0]) (rest := []) C lw_good cw_M_122 wi_M_read (m_M_read hI e_30) lz_46 (he_46 G (h9 46)) rfl rfl rfl (Nat.le_of_ble_eq_true rfl) (by decide) dM_column_30 ?_
          refine wk_if_ne (tgt := 39) C dM_column_33 rfl hf (fun c_33 hf => ?_) (fun c_33 hf => ?_)
          · refine wk_aload_n C 0 dM_column_39 rfl rfl ?_
            refine wk_iconst C dM_column_40 kiconst_0 ?_
            refine wk_aload_n C 0 dM_column_41 rfl rfl ?_
            refine gf_M_19 C dM_column_42 ?_
            obtain ⟨r45, h45, e_45, hf⟩ := bd_some hf
            refine wk_callV (As := [.int 0, .int (h30 46 4)]) (rest := []) C lw_good cw_M_102 wi_M_round (m_M_round hI e_45) lz_46 (he_46 G (h30 46)) rfl rfl rfl (Nat.le_of_ble_eq_true rfl) (by decide) dM_column_45 ?_
            refine wk_iload_n C 3 dM_column_48 rfl rfl ?_
            refine wk_if_lt (tgt := 56) C dM_column_49 rfl hf (fun c_49 hf => ?_) (fun c_49 hf => ?_)
            · refine wk_aload_n C 0 dM_column_56 rfl rfl ?_
              refine gf_M_29 C dM_column_57 ?_
              refine wk_iconst C dM_column_60 kiconst_0 ?_
              obtain ⟨c_61, hf⟩ := chk_some hf
              refine al_52 C c_61 dM_column_61 ?_
              refine wk_if_ge (tgt := 75) C dM_column_62 rfl hf (fun c_62 hf => ?_) (fun c_62 hf => ?_)
              · refine wk_iconst C dM_column_75 kiconst_0 ?_
                exact wk_go (b_M_column_76 hI C hf hq) (And.intro rfl (And.intro rfl (And.intro rfl trivial)))
              · refine wk_aload_n C 0 dM_column_65 rfl rfl ?_
                refine gf_M_29 C dM_column_66 ?_
                refine wk_iconst C dM_column_69 kiconst_0 ?_
                obtain ⟨c_70, hf⟩ := chk_some hf
                refine al_52 C c_70 dM_column_70 ?_
                refine wk_ineg C dM_column_71 ?_
                refine wk_goto (tgt := 76) C dM_column_72 rfl ?_
                exact wk_go (b_M_column_76 hI C hf hq) (And.intro rfl (And.intro rfl (And.intro rfl trivial)))
            · refine wk_iload_n C 3 dM_column_52 rfl rfl ?_
              refine wk_goto (tgt := 76) C dM_column_53 rfl ?_
              exact wk_go (b_M_column_76 hI C hf hq) (And.intro rfl (And.intro rfl (And.intro rfl trivial)))
          · refine wk_bipush C dM_column_36 kbipush_m41 ?_
            cases hf
            exact wk_ireturn C hq dM_column_38
        · refine wk_iconst C dM_column_25 kiconst_m1 ?_
          cases hf
          exact wk_ireturn C hq dM_column_26
theorem m_M_column {l : Launch} {G : cGt} (hI : wd_inj (vC G)) {v1 : Int32} {v2 : Int32} {v3 : Int32} {v4 : Int32} {h h' : Hp} {r : Int32}  (hf : f_M_column v1 v2 v3 v4 h = some (r, h')) : wk_M l (vC G) yM_column cM_column 9 (some .int) 3 75 [.ref (cad G 46), .int v1, .int v2, .int v3, .int v4] h (some (.int r)) h' :=
  wk_met hI (by decide +kernel) rfl (Nat.le_of_ble_eq_true rfl) (wk_cat1 rfl) (fun X hX C hq => by subst hX; exact b_M_column hI C  hf hq)
set_option maxHeartbeats 4000000 in
set_option maxRecDepth 100000 in
theorem b_M_told {X : wk_X} {G : cGt} (hI : wd_inj (vC G)) (C : wk_C X (vC G) cM_told RM 1 0 0) {v0 : Int32} {h : Hp} {q : Int32 × Hp}  (hf : f_M_told v0 h = some q) (hq : wk_Q X (vC G) (some (.int q.1)) q.2 (some .int)) : WW X (vC G) h 0 [(0, .int v0)] [] := by
  unfold f_M_told at hf
  refine wk_iload_n C 0 dM_told_0 rfl rfl ?_
  refine wk_if_ge (tgt := 8) C dM_told_1 rfl hf (fun c_1 hf => ?_) (fun c_1 hf => ?_)
  · refine wk_iload_n C 0 dM_told_8 rfl rfl ?_
    refine wk_if_ne (tgt := 16) C dM_told_9 rfl hf (fun c_9 hf => ?_) (fun c_9 hf => ?_)
    · refine wk_iconst C dM_told_16 kiconst_4 ?_
      cases hf
      exact wk_ireturn C hq dM_told_17
    · refine wk_iconst C dM_told_12 kiconst_2 ?_
      refine wk_goto (tgt := 17) C dM_told_13 rfl ?_
      cases hf
      exact wk_ireturn C hq dM_told_17
  · refine wk_iconst C dM_told_4 kiconst_1 ?_
    refine wk_goto (tgt := 17) C dM_told_5 rfl ?_
    cases hf
    exact wk_ireturn C hq dM_told_17
theorem m_M_told {l : Launch} {G : cGt} (hI : wd_inj (vC G)) {v0 : Int32} {h h' : Hp} {r : Int32}  (hf : f_M_told v0 h = some (r, h')) : wk_M l (vC G) yM_told cM_told 1 (some .int) 0 0 [.int v0] h (some (.int r)) h' :=
  wk_met hI (by decide +kernel) rfl (Nat.le_of_ble_eq_true rfl) (wk_cat1 rfl) (fun X hX C hq => by subst hX; exact b_M_told hI C  hf hq)
set_option maxHeartbeats 4000000 in
set_option maxRecDepth 100000 in
theorem b_M_strictly_81 {X : wk_X} {G : cGt} (hI : wd_inj (vC G)) (C : wk_C X (vC G) cM_strictly RM 4 0 0) {v1 : Int32} {v2 : Int32} {h : Hp} {q : Int32 × Hp}  (hf : f_M_strictly_81 v1 v2 h = some q) (hq : wk_Q X (vC G) (some (.int q.1)) q.2 (some .int)) : WW X (vC G) h 81 [(0, .ref (cad G 46)), (1, .int v1), (2, .int v2)] [] := by
  unfold f_M_strictly_81 at hf
  refine wk_aload_n C 0 dM_strictly_81 rfl rfl ?_
  refine gf_M_16 C dM_strictly_82 ?_
  refine wk_iload_n C 1 dM_strictly_85 rfl rfl ?_
  obtain ⟨c_86, hf⟩ := chk_some hf
  refine al_49 C c_86 dM_strictly_86 ?_
  refine wk_aload_n C 0 dM_strictly_87 rfl rfl ?_
  refine gf_M_16 C dM_strictly_88 ?_
  refine wk_iload_n C 2 dM_strictly_91 rfl rfl ?_
  obtain ⟨c_92, hf⟩ := chk_some hf
  refine al_49 C c_92 dM_strictly_92 ?_
  refine wk_isub C dM_strictly_93 ?_
  cases hf
  exact wk_ireturn C hq dM_strictly_94
set_option maxHeartbeats 4000000 in
set_option maxRecDepth 100000 in
theorem b_M_strictly_2 {X : wk_X} {G : cGt} (hI : wd_inj (vC G)) (C : wk_C X (vC G) cM_strictly RM 4 0 0) : ∀ (n : Nat) {v1 : Int32} {v2 : Int32} {v3 : Int32} {h : Hp} {q : Int32 × Hp}  (hf : f_M_strictly_2 n v1 v2 v3 h = some q) (hq : wk_Q X (vC G) (some (.int q.1)) q.2 (some .int)), WW X (vC G) h 2 [(0, .ref (cad G 46)), (1, .int v1), (2, .int v2), (3, .int v3)] [] := by
  intro n
  induction n with
  | zero =>
    intros
    rename_i hf _
    cases hf
  | succ n ih =>
    intro v1 v2 v3 h q hf hq
    rw [f_M_strictly_2] at hf
    refine wk_iload_n C 3 dM_strictly_2 rfl rfl ?_
    refine wk_aload_n C 0 dM_strictly_3 rfl rfl ?_
    refine gf_M_16 C dM_strictly_4 ?_
    refine wk_iload_n C 1 dM_strictly_7 rfl rfl ?_
    obtain ⟨c_8, hf⟩ := chk_some hf
    refine al_49 C c_8 dM_strictly_8 ?_
    refine wk_icmp_ge (tgt := 81) C dM_strictly_9 rfl hf (fun c_9 hf => ?_) (fun c_9 hf => ?_)
    · exact wk_go (b_M_strictly_81 hI C hf hq) (And.intro rfl (And.intro rfl (And.intro rfl trivial)))
    · refine wk_iload_n C 3 dM_strictly_12 rfl rfl ?_
      refine wk_aload_n C 0 dM_strictly_13 rfl rfl ?_
      refine gf_M_16 C dM_strictly_14 ?_
      refine wk_iload_n C 2 dM_strictly_17 rfl rfl ?_
      obtain ⟨c_18, hf⟩ := chk_some hf
      refine al_49 C c_18 dM_strictly_18 ?_
      refine wk_icmp_ge (tgt := 81) C dM_strictly_19 rfl hf (fun c_19 hf => ?_) (fun c_19 hf => ?_)
      · exact wk_go (b_M_strictly_81 hI C hf hq) (And.intro rfl (And.intro rfl (And.intro rfl trivial)))
      · refine wk_aload_n C 0 dM_strictly_22 rfl rfl ?_
        refine gf_M_13 C dM_strictly_23 ?_
        refine wk_sipush C dM_strictly_26 ksipush_200 ?_
        refine wk_iload_n C 1 dM_strictly_29 rfl rfl ?_
        refine wk_imul C dM_strictly_30 ?_
        refine wk_iload_n C 3 dM_strictly_31 rfl rfl ?_
        refine wk_iadd C dM_strictly_32 ?_
        obtain ⟨c_33, hf⟩ := chk_some hf
        refine al_48 C c_33 dM_strictly_33 ?_
        refine wk_aload_n C 0 dM_strictly_34 rfl rfl ?_
        refine gf_M_13 C dM_strictly_35 ?_
        refine wk_sipush C dM_strictly_38 ksipush_200 ?_
        refine wk_iload_n C 2 dM_strictly_41 rfl rfl ?_
        refine wk_imul C dM_strictly_42 ?_
        refine wk_iload_n C 3 dM_strictly_43 rfl rfl ?_
        refine wk_iadd C dM_strictly_44 ?_
        obtain ⟨c_45, hf⟩ := chk_some hf
        refine al_48 C c_45 dM_strictly_45 ?_
        refine wk_icmp_eq (tgt := 75) C dM_strictly_46 rfl hf (fun c_46 hf => ?_) (fun c_46 hf => ?_)
        · refine wk_iinc C dM_strictly_75 rfl kiconst_1 (by decide) ?_
          refine wk_goto (tgt := 2) C dM_strictly_78 rfl ?_
          exact wk_go (ih hf hq) (And.intro rfl (And.intro rfl (And.intro rfl (And.intro rfl trivial))))
        · refine wk_aload_n C 0 dM_strictly_49 rfl rfl ?_
          refine gf_M_13 C dM_strictly_50 ?_
          refine wk_sipush C dM_strictly_53 ksipush_200 ?_
          refine wk_iload_n C 1 dM_strictly_56 rfl rfl ?_
          refine wk_imul C dM_strictly_57 ?_
          refine wk_iload_n C 3 dM_strictly_58 rfl rfl ?_
          refine wk_iadd C dM_strictly_59 ?_
          obtain ⟨c_60, hf⟩ := chk_some hf
          refine al_48 C c_60 dM_strictly_60 ?_
          refine wk_aload_n C 0 dM_strictly_61 rfl rfl ?_
          refine gf_M_13 C dM_strictly_62 ?_
          refine wk_sipush C dM_strictly_65 ksipush_200 ?_
          refine wk_iload_n C 2 dM_strictly_68 rfl rfl ?_
          refine wk_imul C dM_strictly_69 ?_
          refine wk_iload_n C 3 dM_strictly_70 rfl rfl ?_
          refine wk_iadd C dM_strictly_71 ?_
          obtain ⟨c_72, hf⟩ := chk_some hf
          refine al_48 C c_72 dM_strictly_72 ?_
          refine wk_isub C dM_strictly_73 ?_
          cases hf
          exact wk_ireturn C hq dM_strictly_74
set_option maxHeartbeats 4000000 in
set_option maxRecDepth 100000 in
theorem b_M_strictly {X : wk_X} {G : cGt} (hI : wd_inj (vC G)) (C : wk_C X (vC G) cM_strictly RM 4 0 0) {v1 : Int32} {v2 : Int32} {h : Hp} {q : Int32 × Hp}  (hf : f_M_strictly v1 v2 h = some q) (hq : wk_Q X (vC G) (some (.int q.1)) q.2 (some .int)) : WW X (vC G) h 0 [(0, .ref (cad G 46)), (1, .int v1), (2, .int v2)] [] := by
  unfold f_M_strictly at hf
  refine wk_iconst C dM_strictly_0 kiconst_0 ?_
  refine wk_istore_n C 3 dM_strictly_1 rfl (by decide) ?_
  exact wk_go (b_M_strictly_2 hI C fuel hf hq) (And.intro rfl (And.intro rfl (And.intro rfl (And.intro rfl trivial))))
theorem m_M_strictly {l : Launch} {G : cGt} (hI : wd_inj (vC G)) {v1 : Int32} {v2 : Int32} {h h' : Hp} {r : Int32}  (hf : f_M_strictly v1 v2 h = some (r, h')) : wk_M l (vC G) yM_strictly cM_strictly 4 (some .int) 0 0 [.ref (cad G 46), .int v1, .int v2] h (some (.int r)) h' :=
  wk_met hI (by decide +kernel) rfl (Nat.le_of_ble_eq_true rfl) (wk_cat1 rfl) (fun X hX C hq => by subst hX; exact b_M_strictly hI C  hf hq)
set_option maxHeartbeats 4000000 in
set_option maxRecDepth 100000 in
theorem b_M_loosely_186 {X : wk_X} {G : cGt} (hI : wd_inj (vC G)) (C : wk_C X (vC G) cM_loosely RM 9 0 0) {k135 : Int32 → Int32 → Int32 → Int32 → Hp → Option (Int32 × Hp)} (hk135 : ∀ (v3 : Int32) (v4 : Int32) (v5 : Int32) (v6 : Int32) (h : Hp) (q : Int32 × Hp), k135 v3 v4 v5 v6 h = some q → wk_Q X (vC G) (some (.int q.1)) q.2 (some .int) → WW X (vC G) h 135 [(0, .ref (cad G 46)), (3, .int v3), (4, .int v4), (5, .int v5), (6, .int v6)] []) {v3 : Int32} {v4 : Int32} {v5 : Int32} {v6 : Int32} {v7 : Int32} {s0 : Int32} {h : Hp} {q : Int32 × Hp}  (hf : f_M_loosely_186 k135 v3 v4 v5 v6 v7 s0 h = some q) (hq : wk_Q X (vC G) (some (.int q.1)) q.2 (some .int)) : WW X (vC G) h 186 [(0, .ref (cad G 46)), (3, .int v3), (4, .int v4), (5, .int v5), (6, .int v6), (7, .int v7)] [.int s0] := by
  unfold f_M_loosely_186 at hf
  refine wk_istore C dM_loosely_186 (by decide) ?_
  refine wk_iload C dM_loosely_188 rfl ?_
  refine wk_iload C dM_loosely_190 rfl ?_
  refine wk_icmp_eq (tgt := 201) C dM_loosely_192 rfl hf (fun c_192 hf => ?_) (fun c_192 hf => ?_)
  · refine wk_iinc C dM_loosely_201 rfl kiconst_1 (by decide) ?_
    refine wk_iinc C dM_loosely_204 rfl kiconst_1 (by decide) ?_
    refine wk_goto (tgt := 135) C dM_loosely_207 rfl ?_
    exact wk_go (hk135 _ _ _ _ _ _ hf hq) (And.intro rfl (And.intro rfl (And.intro rfl (And.intro rfl (And.intro rfl trivial)))))
  · refine wk_iload C dM_loosely_195 rfl ?_
    refine wk_iload C dM_loosely_197 rfl ?_
    refine wk_isub C dM_loosely_199 ?_
    cases hf
    exact wk_ireturn C hq dM_loosely_200
set_option maxHeartbeats 4000000 in
set_option maxRecDepth 100000 in
theorem b_M_loosely_165 {X : wk_X} {G : cGt} (hI : wd_inj (vC G)) (C : wk_C X (vC G) cM_loosely RM 9 0 0) {k135 : Int32 → Int32 → Int32 → Int32 → Hp → Option (Int32 × Hp)} (hk135 : ∀ (v3 : Int32) (v4 : Int32) (v5 : Int32) (v6 : Int32) (h : Hp) (q : Int32 × Hp), k135 v3 v4 v5 v6 h = some q → wk_Q X (vC G) (some (.int q.1)) q.2 (some .int) → WW X (vC G) h 135 [(0, .ref (cad G 46)), (3, .int v3), (4, .int v4), (5, .int v5), (6, .int v6)] []) {v3 : Int32} {v4 : Int32} {v5 : Int32} {v6 : Int32} {s0 : Int32} {h : Hp} {q : Int32 × Hp}  (hf : f_M_loosely_165 k135 v3 v4 v5 v6 s0 h = some q) (hq : wk_Q X (vC G) (some (.int q.1)) q.2 (some .int)) : WW X (vC G) h 165 [(0, .ref (cad G 46)), (3, .int v3), (4, .int v4), (5, .int v5), (6, .int v6)] [.int s0] := by
  unfold f_M_loosely_165 at hf
  refine wk_istore C dM_loosely_165 (by decide) ?_
  refine wk_iload C dM_loosely_167 rfl ?_
  refine wk_iload C dM_loosely_169 rfl ?_
  refine wk_icmp_ge (tgt := 184) C dM_loosely_171 rfl hf (fun c_171 hf => ?_) (fun c_171 hf => ?_)
  · refine wk_bipush C dM_loosely_184 kbipush_32 ?_
    exact wk_go (b_M_loosely_186 hI C hk135 hf hq) (And.intro rfl (And.intro rfl (And.intro rfl (And.intro rfl (And.intro rfl (And.intro rfl trivial))))))
  · refine wk_aload_n C 0 dM_loosely_174 rfl rfl ?_
    refine gf_M_13 C dM_loosely_175 ?_
    refine wk_iload C dM_loosely_178 rfl ?_
    obtain ⟨c_180, hf⟩ := chk_some hf
    refine al_48 C c_180 dM_loosely_180 ?_
    refine wk_goto (tgt := 186) C dM_loosely_181 rfl ?_
    exact wk_go (b_M_loosely_186 hI C hk135 hf hq) (And.intro rfl (And.intro rfl (And.intro rfl (And.intro rfl (And.intro rfl (And.intro rfl trivial))))))
set_option maxHeartbeats 4000000 in
set_option maxRecDepth 100000 in
theorem b_M_loosely_148 {X : wk_X} {G : cGt} (hI : wd_inj (vC G)) (C : wk_C X (vC G) cM_loosely RM 9 0 0) {k135 : Int32 → Int32 → Int32 → Int32 → Hp → Option (Int32 × Hp)} (hk135 : ∀ (v3 : Int32) (v4 : Int32) (v5 : Int32) (v6 : Int32) (h : Hp) (q : Int32 × Hp), k135 v3 v4 v5 v6 h = some q → wk_Q X (vC G) (some (.int q.1)) q.2 (some .int) → WW X (vC G) h 135 [(0, .ref (cad G 46)), (3, .int v3), (4, .int v4), (5, .int v5), (6, .int v6)] []) {v3 : Int32} {v4 : Int32} {v5 : Int32} {v6 : Int32} {h : Hp} {q : Int32 × Hp}  (hf : f_M_loosely_148 k135 v3 v4 v5 v6 h = some q) (hq : wk_Q X (vC G) (some (.int q.1)) q.2 (some .int)) : WW X (vC G) h 148 [(0, .ref (cad G 46)), (3, .int v3), (4, .int v4), (5, .int v5), (6, .int v6)] [] := by
  unfold f_M_loosely_148 at hf
  refine wk_iload_n C 3 dM_loosely_148 rfl rfl ?_
  refine wk_iload C dM_loosely_149 rfl ?_
  refine wk_icmp_ge (tgt := 163) C dM_loosely_151 rfl hf (fun c_151 hf => ?_) (fun c_151 hf => ?_)
  · refine wk_bipush C dM_loosely_163 kbipush_32 ?_
    exact wk_go (b_M_loosely_165 hI C hk135 hf hq) (And.intro rfl (And.intro rfl (And.intro rfl (And.intro rfl (And.intro rfl trivial)))))
  · refine wk_aload_n C 0 dM_loosely_154 rfl rfl ?_
    refine gf_M_13 C dM_loosely_155 ?_
    refine wk_iload_n C 3 dM_loosely_158 rfl rfl ?_
    obtain ⟨c_159, hf⟩ := chk_some hf
    refine al_48 C c_159 dM_loosely_159 ?_
    refine wk_goto (tgt := 165) C dM_loosely_160 rfl ?_
    exact wk_go (b_M_loosely_165 hI C hk135 hf hq) (And.intro rfl (And.intro rfl (And.intro rfl (And.intro rfl (And.intro rfl trivial)))))
set_option maxHeartbeats 4000000 in
set_option maxRecDepth 100000 in
theorem b_M_loosely_135 {X : wk_X} {G : cGt} (hI : wd_inj (vC G)) (C : wk_C X (vC G) cM_loosely RM 9 0 0) : ∀ (n : Nat) {v3 : Int32} {v4 : Int32} {v5 : Int32} {v6 : Int32} {h : Hp} {q : Int32 × Hp}  (hf : f_M_loosely_135 n v3 v4 v5 v6 h = some q) (hq : wk_Q X (vC G) (some (.int q.1)) q.2 (some .int)), WW X (vC G) h 135 [(0, .ref (cad G 46)), (3, .int v3), (4, .int v4), (5, .int v5), (6, .int v6)] [] := by
  intro n
  induction n with
  | zero =>
    intros
    rename_i hf _
    cases hf
  | succ n ih =>
    intro v3 v4 v5 v6 h q hf hq
    rw [f_M_loosely_135] at hf
    refine wk_iload_n C 3 dM_loosely_135 rfl rfl ?_
    refine wk_iload C dM_loosely_136 rfl ?_
    refine wk_icmp_lt (tgt := 148) C dM_loosely_138 rfl hf (fun c_138 hf => ?_) (fun c_138 hf => ?_)
    · exact wk_go (b_M_loosely_148 hI C (fun _ _ _ _ _ _ hf hq => ih hf hq) hf hq) (And.intro rfl (And.intro rfl (And.intro rfl (And.intro rfl (And.intro rfl trivial)))))
    · refine wk_iload C dM_loosely_141 rfl ?_
      refine wk_iload C dM_loosely_143 rfl ?_
      refine wk_icmp_ge (tgt := 210) C dM_loosely_145 rfl hf (fun c_145 hf => ?_) (fun c_145 hf => ?_)
      · refine wk_iconst C dM_loosely_210 kiconst_0 ?_
        cases hf
        exact wk_ireturn C hq dM_loosely_211
      · exact wk_go (b_M_loosely_148 hI C (fun _ _ _ _ _ _ hf hq => ih hf hq) hf hq) (And.intro rfl (And.intro rfl (And.intro rfl (And.intro rfl (And.intro rfl trivial)))))
set_option maxHeartbeats 4000000 in
set_option maxRecDepth 100000 in
theorem b_M_loosely_108 {X : wk_X} {G : cGt} (hI : wd_inj (vC G)) (C : wk_C X (vC G) cM_loosely RM 9 0 0) : ∀ (n : Nat) {v3 : Int32} {v4 : Int32} {v5 : Int32} {v6 : Int32} {h : Hp} {q : Int32 × Hp}  (hf : f_M_loosely_108 n v3 v4 v5 v6 h = some q) (hq : wk_Q X (vC G) (some (.int q.1)) q.2 (some .int)), WW X (vC G) h 108 [(0, .ref (cad G 46)), (3, .int v3), (4, .int v4), (5, .int v5), (6, .int v6)] [] := by
  intro n
  induction n with
  | zero =>
    intros
    rename_i hf _
    cases hf
  | succ n ih =>
    intro v3 v4 v5 v6 h q hf hq
    rw [f_M_loosely_108] at hf
    refine wk_iload C dM_loosely_108 rfl ?_
    refine wk_iload C dM_loosely_110 rfl ?_
    refine wk_icmp_le (tgt := 135) C dM_loosely_112 rfl hf (fun c_112 hf => ?_) (fun c_112 hf => ?_)
    · exact wk_go (b_M_loosely_135 hI C fuel hf hq) (And.intro rfl (And.intro rfl (And.intro rfl (And.intro rfl (And.intro rfl trivial)))))
    · refine wk_aload_n C 0 dM_loosely_115 rfl rfl ?_
      refine gf_M_13 C dM_loosely_116 ?_
      refine wk_iload C dM_loosely_119 rfl ?_
      refine wk_iconst C dM_loosely_121 kiconst_1 ?_
      refine wk_isub C dM_loosely_122 ?_
      obtain ⟨c_123, hf⟩ := chk_some hf
      refine al_48 C c_123 dM_loosely_123 ?_
      refine wk_bipush C dM_loosely_124 kbipush_32 ?_
      refine wk_icmp_ne (tgt := 135) C dM_loosely_126 rfl hf (fun c_126 hf => ?_) (fun c_126 hf => ?_)
      · exact wk_go (b_M_loosely_135 hI C fuel hf hq) (And.intro rfl (And.intro rfl (And.intro rfl (And.intro rfl (And.intro rfl trivial)))))
      · refine wk_iinc C dM_loosely_129 rfl kiconst_m1 (by decide) ?_
        refine wk_goto (tgt := 108) C dM_loosely_132 rfl ?_
        exact wk_go (ih hf hq) (And.intro rfl (And.intro rfl (And.intro rfl (And.intro rfl (And.intro rfl trivial)))))
set_option maxHeartbeats 4000000 in
set_option maxRecDepth 100000 in
theorem b_M_loosely_82 {X : wk_X} {G : cGt} (hI : wd_inj (vC G)) (C : wk_C X (vC G) cM_loosely RM 9 0 0) : ∀ (n : Nat) {v3 : Int32} {v4 : Int32} {v5 : Int32} {v6 : Int32} {h : Hp} {q : Int32 × Hp}  (hf : f_M_loosely_82 n v3 v4 v5 v6 h = some q) (hq : wk_Q X (vC G) (some (.int q.1)) q.2 (some .int)), WW X (vC G) h 82 [(0, .ref (cad G 46)), (3, .int v3), (4, .int v4), (5, .int v5), (6, .int v6)] [] := by
  intro n
  induction n with
  | zero =>
    intros
    rename_i hf _
    cases hf
  | succ n ih =>
    intro v3 v4 v5 v6 h q hf hq
    rw [f_M_loosely_82] at hf
    refine wk_iload C dM_loosely_82 rfl ?_
    refine wk_iload_n C 3 dM_loosely_84 rfl rfl ?_
    refine wk_icmp_le (tgt := 108) C dM_loosely_85 rfl hf (fun c_85 hf => ?_) (fun c_85 hf => ?_)
    · exact wk_go (b_M_loosely_108 hI C fuel hf hq) (And.intro rfl (And.intro rfl (And.intro rfl (And.intro rfl (And.intro rfl trivial)))))
    · refine wk_aload_n C 0 dM_loosely_88 rfl rfl ?_
      refine gf_M_13 C dM_loosely_89 ?_
      refine wk_iload C dM_loosely_92 rfl ?_
      refine wk_iconst C dM_loosely_94 kiconst_1 ?_
      refine wk_isub C dM_loosely_95 ?_
      obtain ⟨c_96, hf⟩ := chk_some hf
      refine al_48 C c_96 dM_loosely_96 ?_
      refine wk_bipush C dM_loosely_97 kbipush_32 ?_
      refine wk_icmp_ne (tgt := 108) C dM_loosely_99 rfl hf (fun c_99 hf => ?_) (fun c_99 hf => ?_)
      · exact wk_go (b_M_loosely_108 hI C fuel hf hq) (And.intro rfl (And.intro rfl (And.intro rfl (And.intro rfl (And.intro rfl trivial)))))
      · refine wk_iinc C dM_loosely_102 rfl kiconst_m1 (by decide) ?_
        refine wk_goto (tgt := 82) C dM_loosely_105 rfl ?_
        exact wk_go (ih hf hq) (And.intro rfl (And.intro rfl (And.intro rfl (And.intro rfl (And.intro rfl trivial)))))
set_option maxHeartbeats 4000000 in
set_option maxRecDepth 100000 in
theorem b_M_loosely_57 {X : wk_X} {G : cGt} (hI : wd_inj (vC G)) (C : wk_C X (vC G) cM_loosely RM 9 0 0) : ∀ (n : Nat) {v3 : Int32} {v4 : Int32} {v5 : Int32} {v6 : Int32} {h : Hp} {q : Int32 × Hp}  (hf : f_M_loosely_57 n v3 v4 v5 v6 h = some q) (hq : wk_Q X (vC G) (some (.int q.1)) q.2 (some .int)), WW X (vC G) h 57 [(0, .ref (cad G 46)), (3, .int v3), (4, .int v4), (5, .int v5), (6, .int v6)] [] := by
  intro n
  induction n with
  | zero =>
    intros
    rename_i hf _
    cases hf
  | succ n ih =>
    intro v3 v4 v5 v6 h q hf hq
    rw [f_M_loosely_57] at hf
    refine wk_iload C dM_loosely_57 rfl ?_
    refine wk_iload C dM_loosely_59 rfl ?_
    refine wk_icmp_ge (tgt := 82) C dM_loosely_61 rfl hf (fun c_61 hf => ?_) (fun c_61 hf => ?_)
    · exact wk_go (b_M_loosely_82 hI C fuel hf hq) (And.intro rfl (And.intro rfl (And.intro rfl (And.intro rfl (And.intro rfl trivial)))))
    · refine wk_aload_n C 0 dM_loosely_64 rfl rfl ?_
      refine gf_M_13 C dM_loosely_65 ?_
      refine wk_iload C dM_loosely_68 rfl ?_
      obtain ⟨c_70, hf⟩ := chk_some hf
      refine al_48 C c_70 dM_loosely_70 ?_
      refine wk_bipush C dM_loosely_71 kbipush_32 ?_
      refine wk_icmp_ne (tgt := 82) C dM_loosely_73 rfl hf (fun c_73 hf => ?_) (fun c_73 hf => ?_)
      · exact wk_go (b_M_loosely_82 hI C fuel hf hq) (And.intro rfl (And.intro rfl (And.intro rfl (And.intro rfl (And.intro rfl trivial)))))
      · refine wk_iinc C dM_loosely_76 rfl kiconst_1 (by decide) ?_
        refine wk_goto (tgt := 57) C dM_loosely_79 rfl ?_
        exact wk_go (ih hf hq) (And.intro rfl (And.intro rfl (And.intro rfl (And.intro rfl (And.intro rfl trivial)))))
set_option maxHeartbeats 4000000 in
set_option maxRecDepth 100000 in
theorem b_M_loosely_34 {X : wk_X} {G : cGt} (hI : wd_inj (vC G)) (C : wk_C X (vC G) cM_loosely RM 9 0 0) : ∀ (n : Nat) {v3 : Int32} {v4 : Int32} {v5 : Int32} {v6 : Int32} {h : Hp} {q : Int32 × Hp}  (hf : f_M_loosely_34 n v3 v4 v5 v6 h = some q) (hq : wk_Q X (vC G) (some (.int q.1)) q.2 (some .int)), WW X (vC G) h 34 [(0, .ref (cad G 46)), (3, .int v3), (4, .int v4), (5, .int v5), (6, .int v6)] [] := by
  intro n
  induction n with
  | zero =>
    intros
    rename_i hf _
    cases hf
  | succ n ih =>
    intro v3 v4 v5 v6 h q hf hq
    rw [f_M_loosely_34] at hf
    refine wk_iload_n C 3 dM_loosely_34 rfl rfl ?_
    refine wk_iload C dM_loosely_35 rfl ?_
    refine wk_icmp_ge (tgt := 57) C dM_loosely_37 rfl hf (fun c_37 hf => ?_) (fun c_37 hf => ?_)
    · exact wk_go (b_M_loosely_57 hI C fuel hf hq) (And.intro rfl (And.intro rfl (And.intro rfl (And.intro rfl (And.intro rfl trivial)))))
    · refine wk_aload_n C 0 dM_loosely_40 rfl rfl ?_
      refine gf_M_13 C dM_loosely_41 ?_
      refine wk_iload_n C 3 dM_loosely_44 rfl rfl ?_
      obtain ⟨c_45, hf⟩ := chk_some hf
      refine al_48 C c_45 dM_loosely_45 ?_
      refine wk_bipush C dM_loosely_46 kbipush_32 ?_
      refine wk_icmp_ne (tgt := 57) C dM_loosely_48 rfl hf (fun c_48 hf => ?_) (fun c_48 hf => ?_)
      · exact wk_go (b_M_loosely_57 hI C fuel hf hq) (And.intro rfl (And.intro rfl (And.intro rfl (And.intro rfl (And.intro rfl trivial)))))
      · refine wk_iinc C dM_loosely_51 rfl kiconst_1 (by decide) ?_
        refine wk_goto (tgt := 34) C dM_loosely_54 rfl ?_
        exact wk_go (ih hf hq) (And.intro rfl (And.intro rfl (And.intro rfl (And.intro rfl (And.intro rfl trivial)))))
set_option maxHeartbeats 4000000 in
set_option maxRecDepth 100000 in
theorem b_M_loosely {X : wk_X} {G : cGt} (hI : wd_inj (vC G)) (C : wk_C X (vC G) cM_loosely RM 9 0 0) {v1 : Int32} {v2 : Int32} {h : Hp} {q : Int32 × Hp}  (hf : f_M_loosely v1 v2 h = some q) (hq : wk_Q X (vC G) (some (.int q.1)) q.2 (some .int)) : WW X (vC G) h 0 [(0, .ref (cad G 46)), (1, .int v1), (2, .int v2)] [] := by
  unfold f_M_loosely at hf
  refine wk_sipush C dM_loosely_0 ksipush_200 ?_
  refine wk_iload_n C 1 dM_loosely_3 rfl rfl ?_
  refine wk_imul C dM_loosely_4 ?_
  refine wk_istore_n C 3 dM_loosely_5 rfl (by decide) ?_
  refine wk_sipush C dM_loosely_6 ksipush_200 ?_
  refine wk_iload_n C 2 dM_loosely_9 rfl rfl ?_
  refine wk_imul C dM_loosely_10 ?_
  refine wk_istore C dM_loosely_11 (by decide) ?_
  refine wk_iload_n C 3 dM_loosely_13 rfl rfl ?_
  refine wk_aload_n C 0 dM_loosely_14 rfl rfl ?_
  refine gf_M_16 C dM_loosely_15 ?_
  refine wk_iload_n C 1 dM_loosely_18 rfl rfl ?_
  obtain ⟨c_19, hf⟩ := chk_some hf
  refine al_49 C c_19 dM_loosely_19 ?_
  refine wk_iadd C dM_loosely_20 ?_
  refine wk_istore C dM_loosely_21 (by decide) ?_
  refine wk_iload C dM_loosely_23 rfl ?_
  refine wk_aload_n C 0 dM_loosely_25 rfl rfl ?_
  refine gf_M_16 C dM_loosely_26 ?_
  refine wk_iload_n C 2 dM_loosely_29 rfl rfl ?_
  obtain ⟨c_30, hf⟩ := chk_some hf
  refine al_49 C c_30 dM_loosely_30 ?_
  refine wk_iadd C dM_loosely_31 ?_
  refine wk_istore C dM_loosely_32 (by decide) ?_
  exact wk_go (b_M_loosely_34 hI C fuel hf hq) (And.intro rfl (And.intro rfl (And.intro rfl (And.intro rfl (And.intro rfl trivial)))))
theorem m_M_loosely {l : Launch} {G : cGt} (hI : wd_inj (vC G)) {v1 : Int32} {v2 : Int32} {h h' : Hp} {r : Int32}  (hf : f_M_loosely v1 v2 h = some (r, h')) : wk_M l (vC G) yM_loosely cM_loosely 9 (some .int) 0 0 [.ref (cad G 46), .int v1, .int v2] h (some (.int r)) h' :=
  wk_met hI (by decide +kernel) rfl (Nat.le_of_ble_eq_true rfl) (wk_cat1 rfl) (fun X hX C hq => by subst hX; exact b_M_loosely hI C  hf hq)
set_option maxHeartbeats 4000000 in
set_option maxRecDepth 100000 in
theorem b_M_compare {X : wk_X} {G : cGt} (hI : wd_inj (vC G)) (C : wk_C X (vC G) cM_compare RM 4 3 76) {v1 : Int32} {v2 : Int32} {v3 : Int32} {h : Hp} {q : Int32 × Hp}  (hf : f_M_compare v1 v2 v3 h = some q) (hq : wk_Q X (vC G) (some (.int q.1)) q.2 (some .int)) : WW X (vC G) h 0 [(0, .ref (cad G 46)), (1, .int v1), (2, .int v2), (3, .int v3)] [] := by
  unfold f_M_compare at hf
  refine wk_iload_n C 1 dM_compare_0 rfl rfl ?_
  obtain ⟨r1, h1, e_1, hf⟩ := bd_some hf
  refine wk_callS (As := [.int v1]) (rest := []) C lw_good cw_M_48 ws_M_isRegister (m_M_isRegister hI e_1) rfl rfl (Nat.le_of_ble_eq_true rfl) (by decide) dM_compare_1 ?_
  refine wk_if_eq (tgt := 14) C dM_compare_4 rfl hf (fun c_4 hf => ?_) (fun c_4 hf => ?_)
  · refine wk_iconst C dM_compare_14 kiconst_m1 ?_
    cases hf
    exact wk_ireturn C hq dM_compare_15
  · refine wk_iload_n C 2 dM_compare_7 rfl rfl ?_
    obtain ⟨r8, h8, e_8, hf⟩ := bd_some hf
    refine wk_callS (As := [.int v2]) (rest := []) C lw_good cw_M_48 ws_M_isRegister (m_M_isRegister hI e_8) rfl rfl (Nat.le_of_ble_eq_true rfl) (by decide) dM_compare_8 ?_
    refine wk_if_ne (tgt := 16) C dM_compare_11 rfl hf (fun c_11 hf => ?_) (fun c_11 hf => ?_)
    · refine wk_iload_n C 3 dM_compare_16 rfl rfl ?_
      refine wk_if_eq (tgt := 30) C dM_compare_17 rfl hf (fun c_17 hf => ?_) (fun c_17 hf => ?_)
      · refine wk_aload_n C 0 dM_compare_30 rfl rfl ?_
        refine wk_iload_n C 1 dM_compare_31 rfl rfl ?_
        refine wk_iconst C dM_compare_32 kiconst_0 ?_
        obtain ⟨r33, h33, e_33, hf⟩ := bd_some hf
        refine wk_callV (As := [.int v1, .int 0]) (rest := []) C lw_good cw_M_122 wi_M_read (m_M_read hI e_33) lz_46 (he_46 G (h8 46)) rfl rfl rfl (Nat.le_of_ble_eq_true rfl) (by decide) dM_compare_33 ?_
        refine wk_if_eq (tgt := 48) C dM_compare_36 rfl hf (fun c_36 hf => ?_) (fun c_36 hf => ?_)
        · refine wk_aload_n C 0 dM_compare_48 rfl rfl ?_
          refine wk_iload_n C 1 dM_compare_49 rfl rfl ?_
          refine wk_iload_n C 2 dM_compare_50 rfl rfl ?_
          obtain ⟨r51, h51, e_51, hf⟩ := bd_some hf
          refine wk_callV (As := [.int v1, .int v2]) (rest := []) C lw_good cw_M_144 wi_M_loosely (m_M_loosely hI e_51) lz_46 (he_46 G (h33 46)) rfl rfl rfl (Nat.le_of_ble_eq_true rfl) (by decide) dM_compare_51 ?_
          obtain ⟨r54, h54, e_54, hf⟩ := bd_some hf
          refine wk_callS (As := [.int r51]) (rest := []) C lw_good cw_M_141 ws_M_told (m_M_told hI e_54) rfl rfl (Nat.le_of_ble_eq_true rfl) (by decide) dM_compare_54 ?_
          cases hf
          exact wk_ireturn C hq dM_compare_57
        · refine wk_aload_n C 0 dM_compare_39 rfl rfl ?_
          refine wk_iload_n C 2 dM_compare_40 rfl rfl ?_
          refine wk_iconst C dM_compare_41 kiconst_1 ?_
          obtain ⟨r42, h42, e_42, hf⟩ := bd_some hf
          refine wk_callV (As := [.int v2, .int 1]) (rest := []) C lw_good cw_M_122 wi_M_read (m_M_read hI e_42) lz_46 (he_46 G (h33 46)) rfl rfl rfl (Nat.le_of_ble_eq_true rfl) (by decide) dM_compare_42 ?_
          refine wk_if_ne (tgt := 58) C dM_compare_45 rfl hf (fun c_45 hf => ?_) (fun c_45 hf => ?_)
          · refine wk_aload_n C 0 dM_compare_58 rfl rfl ?_
            refine wk_iconst C dM_compare_59 kiconst_0 ?_
            refine wk_aload_n C 0 dM_compare_60 rfl rfl ?_
            refine gf_M_19 C dM_compare_61 ?_
            refine wk_aload_n C 0 dM_compare_64 rfl rfl ?_
            refine gf_M_52 C dM_compare_65 ?_
            refine wk_isub C dM_compare_68 ?_
            obtain ⟨r69, h69, e_69, hf⟩ := bd_some hf
            refine wk_callV (As := [.int 0, .int ((h42 46 4) - (h42 46 5))]) (rest := []) C lw_good cw_M_102 wi_M_round (m_M_round hI e_69) lz_46 (he_46 G (h42 46)) rfl rfl rfl (Nat.le_of_ble_eq_true rfl) (by decide) dM_compare_69 ?_
            refine wk_aload_n C 0 dM_compare_72 rfl rfl ?_
            refine wk_iconst C dM_compare_73 kiconst_1 ?_
            refine wk_aload_n C 0 dM_compare_74 rfl rfl ?_
            refine gf_M_19 C dM_compare_75 ?_
            refine wk_aload_n C 0 dM_compare_78 rfl rfl ?_
            refine gf_M_52 C dM_compare_79 ?_
            refine wk_isub C dM_compare_82 ?_
            obtain ⟨r83, h83, e_83, hf⟩ := bd_some hf
            refine wk_callV (As := [.int 1, .int ((h69 46 4) - (h69 46 5))]) (rest := []) C lw_good cw_M_102 wi_M_round (m_M_round hI e_83) lz_46 (he_46 G (h69 46)) rfl rfl rfl (Nat.le_of_ble_eq_true rfl) (by decide) dM_compare_83 ?_
            refine wk_aload_n C 0 dM_compare_86 rfl rfl ?_
            refine wk_iconst C dM_compare_87 kiconst_0 ?_
            refine wk_iconst C dM_compare_88 kiconst_1 ?_
            refine wk_iconst C dM_compare_89 kiconst_1 ?_
            refine wk_iconst C dM_compare_90 kiconst_2 ?_
            obtain ⟨r91, h91, e_91, hf⟩ := bd_some hf
            refine wk_callV (As := [.int 0, .int 1, .int 1, .int 2]) (rest := []) C lw_good cw_M_111 wi_M_add (m_M_add hI e_91) lz_46 (he_46 G (h83 46)) rfl rfl rfl (Nat.le_of_ble_eq_true rfl) (by decide) dM_compare_91 ?_
            refine wk_aload_n C 0 dM_compare_94 rfl rfl ?_
            refine gf_M_32 C dM_compare_95 ?_
            refine wk_iconst C dM_compare_98 kiconst_2 ?_
            obtain ⟨c_99, hf⟩ := chk_some hf
            refine al_53 C c_99 dM_compare_99 ?_
            obtain ⟨r100, h100, e_100, hf⟩ := bd_some hf
            refine wk_callS (As := [.int (h91 53 (Int32.toNatClampNeg 2))]) (rest := []) C lw_good cw_M_141 ws_M_told (m_M_told hI e_100) rfl rfl (Nat.le_of_ble_eq_true rfl) (by decide) dM_compare_100 ?_
            cases hf
            exact wk_ireturn C hq dM_compare_103
          · refine wk_aload_n C 0 dM_compare_48 rfl rfl ?_
            refine wk_iload_n C 1 dM_compare_49 rfl rfl ?_
            refine wk_iload_n C 2 dM_compare_50 rfl rfl ?_
            obtain ⟨r51, h51, e_51, hf⟩ := bd_some hf
            refine wk_callV (As := [.int v1, .int v2]) (rest := []) C lw_good cw_M_144 wi_M_loosely (m_M_loosely hI e_51) lz_46 (he_46 G (h42 46)) rfl rfl rfl (Nat.le_of_ble_eq_true rfl) (by decide) dM_compare_51 ?_
            obtain ⟨r54, h54, e_54, hf⟩ := bd_some hf
            refine wk_callS (As := [.int r51]) (rest := []) C lw_good cw_M_141 ws_M_told (m_M_told hI e_54) rfl rfl (Nat.le_of_ble_eq_true rfl) (by decide) dM_compare_54 ?_
            cases hf
            exact wk_ireturn C hq dM_compare_57
      · refine wk_aload_n C 0 dM_compare_20 rfl rfl ?_
        refine wk_iload_n C 1 dM_compare_21 rfl rfl ?_
        refine wk_iload_n C 2 dM_compare_22 rfl rfl ?_
        obtain ⟨r23, h23, e_23, hf⟩ := bd_some hf
        refine wk_callV (As := [.int v1, .int v2]) (rest := []) C lw_good cw_M_138 wi_M_strictly (m_M_strictly hI e_23) lz_46 (he_46 G (h8 46)) rfl rfl rfl (Nat.le_of_ble_eq_true rfl) (by decide) dM_compare_23 ?_
        obtain ⟨r26, h26, e_26, hf⟩ := bd_some hf
        refine wk_callS (As := [.int r23]) (rest := []) C lw_good cw_M_141 ws_M_told (m_M_told hI e_26) rfl rfl (Nat.le_of_ble_eq_true rfl) (by decide) dM_compare_26 ?_
        cases hf
        exact wk_ireturn C hq dM_compare_29
    · refine wk_iconst C dM_compare_14 kiconst_m1 ?_
      cases hf
      exact wk_ireturn C hq dM_compare_15
theorem m_M_compare {l : Launch} {G : cGt} (hI : wd_inj (vC G)) {v1 : Int32} {v2 : Int32} {v3 : Int32} {h h' : Hp} {r : Int32}  (hf : f_M_compare v1 v2 v3 h = some (r, h')) : wk_M l (vC G) yM_compare cM_compare 4 (some .int) 3 76 [.ref (cad G 46), .int v1, .int v2, .int v3] h (some (.int r)) h' :=
  wk_met hI (by decide +kernel) rfl (Nat.le_of_ble_eq_true rfl) (wk_cat1 rfl) (fun X hX C hq => by subst hX; exact b_M_compare hI C  hf hq)
set_option maxHeartbeats 4000000 in
set_option maxRecDepth 100000 in
theorem b_M_whole {X : wk_X} {G : cGt} (hI : wd_inj (vC G)) (C : wk_C X (vC G) cM_whole RM 2 3 75) {v1 : Int32} {h : Hp} {q : Int32 × Hp}  (hf : f_M_whole v1 h = some q) (hq : wk_Q X (vC G) (some (.int q.1)) q.2 (some .int)) : WW X (vC G) h 0 [(0, .ref (cad G 46)), (1, .int v1)] [] := by
  unfold f_M_whole at hf
  refine wk_iload_n C 1 dM_whole_0 rfl rfl ?_
  obtain ⟨r1, h1, e_1, hf⟩ := bd_some hf
  refine wk_callS (As := [.int v1]) (rest := []) C lw_good cw_M_48 ws_M_isRegister (m_M_isRegister hI e_1) rfl rfl (Nat.le_of_ble_eq_true rfl) (by decide) dM_whole_1 ?_
  refine wk_if_ne (tgt := 10) C dM_whole_4 rfl hf (fun c_4 hf => ?_) (fun c_4 hf => ?_)
  · refine wk_aload_n C 0 dM_whole_10 rfl rfl ?_
    refine wk_iload_n C 1 dM_whole_11 rfl rfl ?_
    refine wk_iconst C dM_whole_12 kiconst_0 ?_
    obtain ⟨r13, h13, e_13, hf⟩ := bd_some hf
    refine wk_callV (As := [.int v1, .int 0]) (rest := []) C lw_good cw_M_122 wi_M_read (m_M_read hI e_13) lz_46 (he_46 G (h1 46)) rfl rfl rfl (Nat.le_of_ble_eq_true rfl) (by decide) dM_whole_13 ?_
    refine wk_if_eq (tgt := 35) C dM_whole_16 rfl hf (fun c_16 hf => ?_) (fun c_16 hf => ?_)
    · refine wk_ldc C dM_whole_35 wc_M_148 ?_
      cases hf
      exact wk_ireturn C hq dM_whole_37
    · refine wk_aload_n C 0 dM_whole_19 rfl rfl ?_
      refine wk_iconst C dM_whole_20 kiconst_0 ?_
      obtain ⟨r21, h21, e_21, hf⟩ := bd_some hf
      refine wk_callV (As := [.int 0]) (rest := []) C lw_good cw_M_126 wi_M_isWhole (m_M_isWhole hI e_21) lz_46 (he_46 G (h13 46)) rfl rfl rfl (Nat.le_of_ble_eq_true rfl) (by decide) dM_whole_21 ?_
      refine wk_if_eq (tgt := 35) C dM_whole_24 rfl hf (fun c_24 hf => ?_) (fun c_24 hf => ?_)
      · refine wk_ldc C dM_whole_35 wc_M_148 ?_
        cases hf
        exact wk_ireturn C hq dM_whole_37
      · refine wk_aload_n C 0 dM_whole_27 rfl rfl ?_
        refine wk_iconst C dM_whole_28 kiconst_0 ?_
        obtain ⟨r29, h29, e_29, hf⟩ := bd_some hf
        refine wk_callV (As := [.int 0]) (rest := []) C lw_good cw_M_129 wi_M_valueOf (m_M_valueOf hI e_29) lz_46 (he_46 G (h21 46)) rfl rfl rfl (Nat.le_of_ble_eq_true rfl) (by decide) dM_whole_29 ?_
        refine wk_goto (tgt := 37) C dM_whole_32 rfl ?_
        cases hf
        exact wk_ireturn C hq dM_whole_37
  · refine wk_ldc C dM_whole_7 wc_M_147 ?_
    cases hf
    exact wk_ireturn C hq dM_whole_9
theorem m_M_whole {l : Launch} {G : cGt} (hI : wd_inj (vC G)) {v1 : Int32} {h h' : Hp} {r : Int32}  (hf : f_M_whole v1 h = some (r, h')) : wk_M l (vC G) yM_whole cM_whole 2 (some .int) 3 75 [.ref (cad G 46), .int v1] h (some (.int r)) h' :=
  wk_met hI (by decide +kernel) rfl (Nat.le_of_ble_eq_true rfl) (wk_cat1 rfl) (fun X hX C hq => by subst hX; exact b_M_whole hI C  hf hq)
set_option maxHeartbeats 4000000 in
set_option maxRecDepth 100000 in
theorem b_M_about {X : wk_X} {G : cGt} (hI : wd_inj (vC G)) (C : wk_C X (vC G) cM_about RM 4 3 75) {v1 : Int32} {v2 : Int32} {h : Hp} {q : Int32 × Hp}  (hf : f_M_about v1 v2 h = some q) (hq : wk_Q X (vC G) (some (.int q.1)) q.2 (some .int)) : WW X (vC G) h 0 [(0, .ref (cad G 46)), (1, .int v1), (2, .int v2)] [] := by
  unfold f_M_about at hf
  refine wk_iload_n C 1 dM_about_0 rfl rfl ?_
  obtain ⟨r1, h1, e_1, hf⟩ := bd_some hf
  refine wk_callS (As := [.int v1]) (rest := []) C lw_good cw_M_48 ws_M_isRegister (m_M_isRegister hI e_1) rfl rfl (Nat.le_of_ble_eq_true rfl) (by decide) dM_about_1 ?_
  refine wk_if_eq (tgt := 16) C dM_about_4 rfl hf (fun c_4 hf => ?_) (fun c_4 hf => ?_)
  · refine wk_iconst C dM_about_16 kiconst_m1 ?_
    cases hf
    exact wk_ireturn C hq dM_about_17
  · refine wk_iload_n C 2 dM_about_7 rfl rfl ?_
    refine wk_if_lt (tgt := 16) C dM_about_8 rfl hf (fun c_8 hf => ?_) (fun c_8 hf => ?_)
    · refine wk_iconst C dM_about_16 kiconst_m1 ?_
      cases hf
      exact wk_ireturn C hq dM_about_17
    · refine wk_iload_n C 2 dM_about_11 rfl rfl ?_
      refine wk_iconst C dM_about_12 kiconst_3 ?_
      refine wk_icmp_le (tgt := 18) C dM_about_13 rfl hf (fun c_13 hf => ?_) (fun c_13 hf => ?_)
      · refine wk_aload_n C 0 dM_about_18 rfl rfl ?_
        refine wk_iload_n C 1 dM_about_19 rfl rfl ?_
        refine wk_iconst C dM_about_20 kiconst_0 ?_
        obtain ⟨r21, h21, e_21, hf⟩ := bd_some hf
        refine wk_callV (As := [.int v1, .int 0]) (rest := []) C lw_good cw_M_122 wi_M_read (m_M_read hI e_21) lz_46 (he_46 G (h1 46)) rfl rfl rfl (Nat.le_of_ble_eq_true rfl) (by decide) dM_about_21 ?_
        refine wk_istore_n C 3 dM_about_24 rfl (by decide) ?_
        refine wk_iload_n C 2 dM_about_25 rfl rfl ?_
        refine wk_if_ne (tgt := 39) C dM_about_26 rfl hf (fun c_26 hf => ?_) (fun c_26 hf => ?_)
        · refine wk_iload_n C 3 dM_about_39 rfl rfl ?_
          refine wk_if_eq (tgt := 52) C dM_about_40 rfl hf (fun c_40 hf => ?_) (fun c_40 hf => ?_)
          · refine wk_iconst C dM_about_52 kiconst_0 ?_
            cases hf
            exact wk_ireturn C hq dM_about_53
          · refine wk_aload_n C 0 dM_about_43 rfl rfl ?_
            refine gf_M_32 C dM_about_44 ?_
            refine wk_iconst C dM_about_47 kiconst_0 ?_
            obtain ⟨c_48, hf⟩ := chk_some hf
            refine al_53 C c_48 dM_about_48 ?_
            refine wk_if_ne (tgt := 54) C dM_about_49 rfl hf (fun c_49 hf => ?_) (fun c_49 hf => ?_)
            · refine wk_iload_n C 2 dM_about_54 rfl rfl ?_
              refine wk_iconst C dM_about_55 kiconst_1 ?_
              refine wk_icmp_ne (tgt := 68) C dM_about_56 rfl hf (fun c_56 hf => ?_) (fun c_56 hf => ?_)
              · refine wk_iload_n C 2 dM_about_68 rfl rfl ?_
                refine wk_iconst C dM_about_69 kiconst_2 ?_
                refine wk_icmp_ne (tgt := 81) C dM_about_70 rfl hf (fun c_70 hf => ?_) (fun c_70 hf => ?_)
                · refine wk_aload_n C 0 dM_about_81 rfl rfl ?_
                  refine gf_M_32 C dM_about_82 ?_
                  refine wk_iconst C dM_about_85 kiconst_0 ?_
                  obtain ⟨c_86, hf⟩ := chk_some hf
                  refine al_53 C c_86 dM_about_86 ?_
                  refine wk_if_ge (tgt := 94) C dM_about_87 rfl hf (fun c_87 hf => ?_) (fun c_87 hf => ?_)
                  · refine wk_iconst C dM_about_94 kiconst_0 ?_
                    cases hf
                    exact wk_ireturn C hq dM_about_95
                  · refine wk_iconst C dM_about_90 kiconst_1 ?_
                    refine wk_goto (tgt := 95) C dM_about_91 rfl ?_
                    cases hf
                    exact wk_ireturn C hq dM_about_95
                · refine wk_aload_n C 0 dM_about_73 rfl rfl ?_
                  refine wk_iconst C dM_about_74 kiconst_0 ?_
                  obtain ⟨r75, h75, e_75, hf⟩ := bd_some hf
                  refine wk_callV (As := [.int 0]) (rest := []) C lw_good cw_M_67 wi_M_high (m_M_high hI e_75) lz_46 (he_46 G (h21 46)) rfl rfl rfl (Nat.le_of_ble_eq_true rfl) (by decide) dM_about_75 ?_
                  refine wk_goto (tgt := 95) C dM_about_78 rfl ?_
                  cases hf
                  exact wk_ireturn C hq dM_about_95
              · refine wk_aload_n C 0 dM_about_59 rfl rfl ?_
                refine gf_M_26 C dM_about_60 ?_
                refine wk_iconst C dM_about_63 kiconst_0 ?_
                obtain ⟨c_64, hf⟩ := chk_some hf
                refine al_51 C c_64 dM_about_64 ?_
                refine wk_goto (tgt := 95) C dM_about_65 rfl ?_
                cases hf
                exact wk_ireturn C hq dM_about_95
            · refine wk_iconst C dM_about_52 kiconst_0 ?_
              cases hf
              exact wk_ireturn C hq dM_about_53
        · refine wk_iload_n C 3 dM_about_29 rfl rfl ?_
          refine wk_if_eq (tgt := 37) C dM_about_30 rfl hf (fun c_30 hf => ?_) (fun c_30 hf => ?_)
          · refine wk_iconst C dM_about_37 kiconst_0 ?_
            cases hf
            exact wk_ireturn C hq dM_about_38
          · refine wk_iconst C dM_about_33 kiconst_1 ?_
            refine wk_goto (tgt := 38) C dM_about_34 rfl ?_
            cases hf
            exact wk_ireturn C hq dM_about_38
      · refine wk_iconst C dM_about_16 kiconst_m1 ?_
        cases hf
        exact wk_ireturn C hq dM_about_17
theorem m_M_about {l : Launch} {G : cGt} (hI : wd_inj (vC G)) {v1 : Int32} {v2 : Int32} {h h' : Hp} {r : Int32}  (hf : f_M_about v1 v2 h = some (r, h')) : wk_M l (vC G) yM_about cM_about 4 (some .int) 3 75 [.ref (cad G 46), .int v1, .int v2] h (some (.int r)) h' :=
  wk_met hI (by decide +kernel) rfl (Nat.le_of_ble_eq_true rfl) (wk_cat1 rfl) (fun X hX C hq => by subst hX; exact b_M_about hI C  hf hq)
