theorem dM_multiply_0 : decode cM_multiply 0 = .ok (.aload_n 0, 1) := by decide +kernel
theorem dM_multiply_1 : decode cM_multiply 1 = .ok (.getfield 32, 3) := by decide +kernel
theorem dM_multiply_4 : decode cM_multiply 4 = .ok (.iload_n 1, 1) := by decide +kernel
theorem dM_multiply_5 : decode cM_multiply 5 = .ok (.iaload, 1) := by decide +kernel
theorem dM_multiply_6 : decode cM_multiply 6 = .ok (.aload_n 0, 1) := by decide +kernel
theorem dM_multiply_7 : decode cM_multiply 7 = .ok (.getfield 32, 3) := by decide +kernel
theorem dM_multiply_10 : decode cM_multiply 10 = .ok (.iload_n 2, 1) := by decide +kernel
theorem dM_multiply_11 : decode cM_multiply 11 = .ok (.iaload, 1) := by decide +kernel
theorem dM_multiply_12 : decode cM_multiply 12 = .ok (.imul, 1) := by decide +kernel
theorem dM_multiply_13 : decode cM_multiply 13 = .ok (.ifCond .ne 9, 3) := by decide +kernel
theorem dM_multiply_16 : decode cM_multiply 16 = .ok (.aload_n 0, 1) := by decide +kernel
theorem dM_multiply_17 : decode cM_multiply 17 = .ok (.iload_n 3, 1) := by decide +kernel
theorem dM_multiply_18 : decode cM_multiply 18 = .ok (.invokevirtual 58, 3) := by decide +kernel
theorem dM_multiply_21 : decode cM_multiply 21 = .ok (.return_, 1) := by decide +kernel
theorem dM_multiply_22 : decode cM_multiply 22 = .ok (.aload_n 0, 1) := by decide +kernel
theorem dM_multiply_23 : decode cM_multiply 23 = .ok (.getfield 26, 3) := by decide +kernel
theorem dM_multiply_26 : decode cM_multiply 26 = .ok (.iload_n 1, 1) := by decide +kernel
theorem dM_multiply_27 : decode cM_multiply 27 = .ok (.iaload, 1) := by decide +kernel
theorem dM_multiply_28 : decode cM_multiply 28 = .ok (.aload_n 0, 1) := by decide +kernel
theorem dM_multiply_29 : decode cM_multiply 29 = .ok (.getfield 26, 3) := by decide +kernel
theorem dM_multiply_32 : decode cM_multiply 32 = .ok (.iload_n 2, 1) := by decide +kernel
theorem dM_multiply_33 : decode cM_multiply 33 = .ok (.iaload, 1) := by decide +kernel
theorem dM_multiply_34 : decode cM_multiply 34 = .ok (.iadd, 1) := by decide +kernel
theorem dM_multiply_35 : decode cM_multiply 35 = .ok (.istore 4, 2) := by decide +kernel
theorem dM_multiply_37 : decode cM_multiply 37 = .ok (.iconst 0, 1) := by decide +kernel
theorem dM_multiply_38 : decode cM_multiply 38 = .ok (.istore 5, 2) := by decide +kernel
theorem dM_multiply_40 : decode cM_multiply 40 = .ok (.iload 5, 2) := by decide +kernel
theorem dM_multiply_42 : decode cM_multiply 42 = .ok (.iload 4, 2) := by decide +kernel
theorem dM_multiply_44 : decode cM_multiply 44 = .ok (.if_icmp .ge 23, 3) := by decide +kernel
theorem dM_multiply_47 : decode cM_multiply 47 = .ok (.aload_n 0, 1) := by decide +kernel
theorem dM_multiply_48 : decode cM_multiply 48 = .ok (.getfield 23, 3) := by decide +kernel
theorem dM_multiply_51 : decode cM_multiply 51 = .ok (.sipush 2600, 3) := by decide +kernel
theorem dM_multiply_54 : decode cM_multiply 54 = .ok (.iload_n 3, 1) := by decide +kernel
theorem dM_multiply_55 : decode cM_multiply 55 = .ok (.imul, 1) := by decide +kernel
theorem dM_multiply_56 : decode cM_multiply 56 = .ok (.iload 5, 2) := by decide +kernel
theorem dM_multiply_58 : decode cM_multiply 58 = .ok (.iadd, 1) := by decide +kernel
theorem dM_multiply_59 : decode cM_multiply 59 = .ok (.iconst 0, 1) := by decide +kernel
theorem dM_multiply_60 : decode cM_multiply 60 = .ok (.iastore, 1) := by decide +kernel
theorem dM_multiply_61 : decode cM_multiply 61 = .ok (.iinc 5 1, 3) := by decide +kernel
theorem dM_multiply_64 : decode cM_multiply 64 = .ok (.goto (-24), 3) := by decide +kernel
theorem dM_multiply_67 : decode cM_multiply 67 = .ok (.aload_n 0, 1) := by decide +kernel
theorem dM_multiply_68 : decode cM_multiply 68 = .ok (.getfield 26, 3) := by decide +kernel
theorem dM_multiply_71 : decode cM_multiply 71 = .ok (.iload_n 1, 1) := by decide +kernel
theorem dM_multiply_72 : decode cM_multiply 72 = .ok (.iaload, 1) := by decide +kernel
theorem dM_multiply_73 : decode cM_multiply 73 = .ok (.iconst 1, 1) := by decide +kernel
theorem dM_multiply_74 : decode cM_multiply 74 = .ok (.isub, 1) := by decide +kernel
theorem dM_multiply_75 : decode cM_multiply 75 = .ok (.istore 5, 2) := by decide +kernel
theorem dM_multiply_77 : decode cM_multiply 77 = .ok (.iload 5, 2) := by decide +kernel
theorem dM_multiply_79 : decode cM_multiply 79 = .ok (.ifCond .lt 125, 3) := by decide +kernel
theorem dM_multiply_82 : decode cM_multiply 82 = .ok (.aload_n 0, 1) := by decide +kernel
theorem dM_multiply_83 : decode cM_multiply 83 = .ok (.getfield 26, 3) := by decide +kernel
theorem dM_multiply_86 : decode cM_multiply 86 = .ok (.iload_n 2, 1) := by decide +kernel
theorem dM_multiply_87 : decode cM_multiply 87 = .ok (.iaload, 1) := by decide +kernel
theorem dM_multiply_88 : decode cM_multiply 88 = .ok (.iconst 1, 1) := by decide +kernel
theorem dM_multiply_89 : decode cM_multiply 89 = .ok (.isub, 1) := by decide +kernel
theorem dM_multiply_90 : decode cM_multiply 90 = .ok (.istore 6, 2) := by decide +kernel
theorem dM_multiply_92 : decode cM_multiply 92 = .ok (.iload 6, 2) := by decide +kernel
theorem dM_multiply_94 : decode cM_multiply 94 = .ok (.ifCond .lt 104, 3) := by decide +kernel
theorem dM_multiply_97 : decode cM_multiply 97 = .ok (.aload_n 0, 1) := by decide +kernel
theorem dM_multiply_98 : decode cM_multiply 98 = .ok (.getfield 23, 3) := by decide +kernel
theorem dM_multiply_101 : decode cM_multiply 101 = .ok (.sipush 2600, 3) := by decide +kernel
theorem dM_multiply_104 : decode cM_multiply 104 = .ok (.iload_n 3, 1) := by decide +kernel
theorem dM_multiply_105 : decode cM_multiply 105 = .ok (.imul, 1) := by decide +kernel
theorem dM_multiply_106 : decode cM_multiply 106 = .ok (.iload 5, 2) := by decide +kernel
theorem dM_multiply_108 : decode cM_multiply 108 = .ok (.iadd, 1) := by decide +kernel
theorem dM_multiply_109 : decode cM_multiply 109 = .ok (.iload 6, 2) := by decide +kernel
theorem dM_multiply_111 : decode cM_multiply 111 = .ok (.iadd, 1) := by decide +kernel
theorem dM_multiply_112 : decode cM_multiply 112 = .ok (.iconst 1, 1) := by decide +kernel
theorem dM_multiply_113 : decode cM_multiply 113 = .ok (.iadd, 1) := by decide +kernel
theorem dM_multiply_114 : decode cM_multiply 114 = .ok (.iaload, 1) := by decide +kernel
theorem dM_multiply_115 : decode cM_multiply 115 = .ok (.aload_n 0, 1) := by decide +kernel
theorem dM_multiply_116 : decode cM_multiply 116 = .ok (.getfield 23, 3) := by decide +kernel
theorem dM_multiply_119 : decode cM_multiply 119 = .ok (.sipush 2600, 3) := by decide +kernel
theorem dM_multiply_122 : decode cM_multiply 122 = .ok (.iload_n 1, 1) := by decide +kernel
theorem dM_multiply_123 : decode cM_multiply 123 = .ok (.imul, 1) := by decide +kernel
theorem dM_multiply_124 : decode cM_multiply 124 = .ok (.iload 5, 2) := by decide +kernel
theorem dM_multiply_126 : decode cM_multiply 126 = .ok (.iadd, 1) := by decide +kernel
theorem dM_multiply_127 : decode cM_multiply 127 = .ok (.iaload, 1) := by decide +kernel
theorem dM_multiply_128 : decode cM_multiply 128 = .ok (.aload_n 0, 1) := by decide +kernel
theorem dM_multiply_129 : decode cM_multiply 129 = .ok (.getfield 23, 3) := by decide +kernel
theorem dM_multiply_132 : decode cM_multiply 132 = .ok (.sipush 2600, 3) := by decide +kernel
theorem dM_multiply_135 : decode cM_multiply 135 = .ok (.iload_n 2, 1) := by decide +kernel
theorem dM_multiply_136 : decode cM_multiply 136 = .ok (.imul, 1) := by decide +kernel
theorem dM_multiply_137 : decode cM_multiply 137 = .ok (.iload 6, 2) := by decide +kernel
theorem dM_multiply_139 : decode cM_multiply 139 = .ok (.iadd, 1) := by decide +kernel
theorem dM_multiply_140 : decode cM_multiply 140 = .ok (.iaload, 1) := by decide +kernel
theorem dM_multiply_141 : decode cM_multiply 141 = .ok (.imul, 1) := by decide +kernel
theorem dM_multiply_142 : decode cM_multiply 142 = .ok (.iadd, 1) := by decide +kernel
theorem dM_multiply_143 : decode cM_multiply 143 = .ok (.istore 7, 2) := by decide +kernel
theorem dM_multiply_145 : decode cM_multiply 145 = .ok (.aload_n 0, 1) := by decide +kernel
theorem dM_multiply_146 : decode cM_multiply 146 = .ok (.getfield 23, 3) := by decide +kernel
theorem dM_multiply_149 : decode cM_multiply 149 = .ok (.sipush 2600, 3) := by decide +kernel
theorem dM_multiply_152 : decode cM_multiply 152 = .ok (.iload_n 3, 1) := by decide +kernel
theorem dM_multiply_153 : decode cM_multiply 153 = .ok (.imul, 1) := by decide +kernel
theorem dM_multiply_154 : decode cM_multiply 154 = .ok (.iload 5, 2) := by decide +kernel
theorem dM_multiply_156 : decode cM_multiply 156 = .ok (.iadd, 1) := by decide +kernel
theorem dM_multiply_157 : decode cM_multiply 157 = .ok (.iload 6, 2) := by decide +kernel
theorem dM_multiply_159 : decode cM_multiply 159 = .ok (.iadd, 1) := by decide +kernel
theorem dM_multiply_160 : decode cM_multiply 160 = .ok (.iconst 1, 1) := by decide +kernel
theorem dM_multiply_161 : decode cM_multiply 161 = .ok (.iadd, 1) := by decide +kernel
theorem dM_multiply_162 : decode cM_multiply 162 = .ok (.iload 7, 2) := by decide +kernel
theorem dM_multiply_164 : decode cM_multiply 164 = .ok (.bipush 10, 2) := by decide +kernel
theorem dM_multiply_166 : decode cM_multiply 166 = .ok (.irem, 1) := by decide +kernel
theorem dM_multiply_167 : decode cM_multiply 167 = .ok (.iastore, 1) := by decide +kernel
theorem dM_multiply_168 : decode cM_multiply 168 = .ok (.aload_n 0, 1) := by decide +kernel
theorem dM_multiply_169 : decode cM_multiply 169 = .ok (.getfield 23, 3) := by decide +kernel
theorem dM_multiply_172 : decode cM_multiply 172 = .ok (.sipush 2600, 3) := by decide +kernel
theorem dM_multiply_175 : decode cM_multiply 175 = .ok (.iload_n 3, 1) := by decide +kernel
theorem dM_multiply_176 : decode cM_multiply 176 = .ok (.imul, 1) := by decide +kernel
theorem dM_multiply_177 : decode cM_multiply 177 = .ok (.iload 5, 2) := by decide +kernel
theorem dM_multiply_179 : decode cM_multiply 179 = .ok (.iadd, 1) := by decide +kernel
theorem dM_multiply_180 : decode cM_multiply 180 = .ok (.iload 6, 2) := by decide +kernel
theorem dM_multiply_182 : decode cM_multiply 182 = .ok (.iadd, 1) := by decide +kernel
theorem dM_multiply_183 : decode cM_multiply 183 = .ok (.dup2, 1) := by decide +kernel
theorem dM_multiply_184 : decode cM_multiply 184 = .ok (.iaload, 1) := by decide +kernel
theorem dM_multiply_185 : decode cM_multiply 185 = .ok (.iload 7, 2) := by decide +kernel
theorem dM_multiply_187 : decode cM_multiply 187 = .ok (.bipush 10, 2) := by decide +kernel
theorem dM_multiply_189 : decode cM_multiply 189 = .ok (.idiv, 1) := by decide +kernel
theorem dM_multiply_190 : decode cM_multiply 190 = .ok (.iadd, 1) := by decide +kernel
theorem dM_multiply_191 : decode cM_multiply 191 = .ok (.iastore, 1) := by decide +kernel
theorem dM_multiply_192 : decode cM_multiply 192 = .ok (.iinc 6 (-1), 3) := by decide +kernel
theorem dM_multiply_195 : decode cM_multiply 195 = .ok (.goto (-103), 3) := by decide +kernel
theorem dM_multiply_198 : decode cM_multiply 198 = .ok (.iinc 5 (-1), 3) := by decide +kernel
theorem dM_multiply_201 : decode cM_multiply 201 = .ok (.goto (-124), 3) := by decide +kernel
theorem dM_multiply_204 : decode cM_multiply 204 = .ok (.aload_n 0, 1) := by decide +kernel
theorem dM_multiply_205 : decode cM_multiply 205 = .ok (.getfield 32, 3) := by decide +kernel
theorem dM_multiply_208 : decode cM_multiply 208 = .ok (.iload_n 3, 1) := by decide +kernel
theorem dM_multiply_209 : decode cM_multiply 209 = .ok (.aload_n 0, 1) := by decide +kernel
theorem dM_multiply_210 : decode cM_multiply 210 = .ok (.getfield 32, 3) := by decide +kernel
theorem dM_multiply_213 : decode cM_multiply 213 = .ok (.iload_n 1, 1) := by decide +kernel
theorem dM_multiply_214 : decode cM_multiply 214 = .ok (.iaload, 1) := by decide +kernel
theorem dM_multiply_215 : decode cM_multiply 215 = .ok (.aload_n 0, 1) := by decide +kernel
theorem dM_multiply_216 : decode cM_multiply 216 = .ok (.getfield 32, 3) := by decide +kernel
theorem dM_multiply_219 : decode cM_multiply 219 = .ok (.iload_n 2, 1) := by decide +kernel
theorem dM_multiply_220 : decode cM_multiply 220 = .ok (.iaload, 1) := by decide +kernel
theorem dM_multiply_221 : decode cM_multiply 221 = .ok (.imul, 1) := by decide +kernel
theorem dM_multiply_222 : decode cM_multiply 222 = .ok (.iastore, 1) := by decide +kernel
theorem dM_multiply_223 : decode cM_multiply 223 = .ok (.aload_n 0, 1) := by decide +kernel
theorem dM_multiply_224 : decode cM_multiply 224 = .ok (.getfield 26, 3) := by decide +kernel
theorem dM_multiply_227 : decode cM_multiply 227 = .ok (.iload_n 3, 1) := by decide +kernel
theorem dM_multiply_228 : decode cM_multiply 228 = .ok (.iload 4, 2) := by decide +kernel
theorem dM_multiply_230 : decode cM_multiply 230 = .ok (.iastore, 1) := by decide +kernel
theorem dM_multiply_231 : decode cM_multiply 231 = .ok (.aload_n 0, 1) := by decide +kernel
theorem dM_multiply_232 : decode cM_multiply 232 = .ok (.getfield 29, 3) := by decide +kernel
theorem dM_multiply_235 : decode cM_multiply 235 = .ok (.iload_n 3, 1) := by decide +kernel
theorem dM_multiply_236 : decode cM_multiply 236 = .ok (.aload_n 0, 1) := by decide +kernel
theorem dM_multiply_237 : decode cM_multiply 237 = .ok (.getfield 29, 3) := by decide +kernel
theorem dM_multiply_240 : decode cM_multiply 240 = .ok (.iload_n 1, 1) := by decide +kernel
theorem dM_multiply_241 : decode cM_multiply 241 = .ok (.iaload, 1) := by decide +kernel
theorem dM_multiply_242 : decode cM_multiply 242 = .ok (.aload_n 0, 1) := by decide +kernel
theorem dM_multiply_243 : decode cM_multiply 243 = .ok (.getfield 29, 3) := by decide +kernel
theorem dM_multiply_246 : decode cM_multiply 246 = .ok (.iload_n 2, 1) := by decide +kernel
theorem dM_multiply_247 : decode cM_multiply 247 = .ok (.iaload, 1) := by decide +kernel
theorem dM_multiply_248 : decode cM_multiply 248 = .ok (.iadd, 1) := by decide +kernel
theorem dM_multiply_249 : decode cM_multiply 249 = .ok (.iastore, 1) := by decide +kernel
theorem dM_multiply_250 : decode cM_multiply 250 = .ok (.aload_n 0, 1) := by decide +kernel
theorem dM_multiply_251 : decode cM_multiply 251 = .ok (.iload_n 3, 1) := by decide +kernel
theorem dM_multiply_252 : decode cM_multiply 252 = .ok (.invokevirtual 64, 3) := by decide +kernel
theorem dM_multiply_255 : decode cM_multiply 255 = .ok (.return_, 1) := by decide +kernel
theorem dM_isEnough_0 : decode cM_isEnough 0 = .ok (.aload_n 0, 1) := by decide +kernel
theorem dM_isEnough_1 : decode cM_isEnough 1 = .ok (.getfield 35, 3) := by decide +kernel
theorem dM_isEnough_4 : decode cM_isEnough 4 = .ok (.iconst 0, 1) := by decide +kernel
theorem dM_isEnough_5 : decode cM_isEnough 5 = .ok (.iaload, 1) := by decide +kernel
theorem dM_isEnough_6 : decode cM_isEnough 6 = .ok (.ifCond .le 5, 3) := by decide +kernel
theorem dM_isEnough_9 : decode cM_isEnough 9 = .ok (.iconst 1, 1) := by decide +kernel
theorem dM_isEnough_10 : decode cM_isEnough 10 = .ok (.ireturn, 1) := by decide +kernel
theorem dM_isEnough_11 : decode cM_isEnough 11 = .ok (.iconst 0, 1) := by decide +kernel
theorem dM_isEnough_12 : decode cM_isEnough 12 = .ok (.istore_n 2, 1) := by decide +kernel
theorem dM_isEnough_13 : decode cM_isEnough 13 = .ok (.iload_n 2, 1) := by decide +kernel
theorem dM_isEnough_14 : decode cM_isEnough 14 = .ok (.aload_n 0, 1) := by decide +kernel
theorem dM_isEnough_15 : decode cM_isEnough 15 = .ok (.getfield 26, 3) := by decide +kernel
theorem dM_isEnough_18 : decode cM_isEnough 18 = .ok (.iload_n 1, 1) := by decide +kernel
theorem dM_isEnough_19 : decode cM_isEnough 19 = .ok (.iaload, 1) := by decide +kernel
theorem dM_isEnough_20 : decode cM_isEnough 20 = .ok (.if_icmp .ge 61, 3) := by decide +kernel
theorem dM_isEnough_23 : decode cM_isEnough 23 = .ok (.aload_n 0, 1) := by decide +kernel
theorem dM_isEnough_24 : decode cM_isEnough 24 = .ok (.getfield 35, 3) := by decide +kernel
theorem dM_isEnough_27 : decode cM_isEnough 27 = .ok (.iload_n 2, 1) := by decide +kernel
theorem dM_isEnough_28 : decode cM_isEnough 28 = .ok (.iconst 1, 1) := by decide +kernel
theorem dM_isEnough_29 : decode cM_isEnough 29 = .ok (.iadd, 1) := by decide +kernel
theorem dM_isEnough_30 : decode cM_isEnough 30 = .ok (.iaload, 1) := by decide +kernel
theorem dM_isEnough_31 : decode cM_isEnough 31 = .ok (.aload_n 0, 1) := by decide +kernel
theorem dM_isEnough_32 : decode cM_isEnough 32 = .ok (.getfield 23, 3) := by decide +kernel
theorem dM_isEnough_35 : decode cM_isEnough 35 = .ok (.sipush 2600, 3) := by decide +kernel
theorem dM_isEnough_38 : decode cM_isEnough 38 = .ok (.iload_n 1, 1) := by decide +kernel
theorem dM_isEnough_39 : decode cM_isEnough 39 = .ok (.imul, 1) := by decide +kernel
theorem dM_isEnough_40 : decode cM_isEnough 40 = .ok (.iload_n 2, 1) := by decide +kernel
theorem dM_isEnough_41 : decode cM_isEnough 41 = .ok (.iadd, 1) := by decide +kernel
theorem dM_isEnough_42 : decode cM_isEnough 42 = .ok (.iaload, 1) := by decide +kernel
theorem dM_isEnough_43 : decode cM_isEnough 43 = .ok (.if_icmp .eq 32, 3) := by decide +kernel
theorem dM_isEnough_46 : decode cM_isEnough 46 = .ok (.aload_n 0, 1) := by decide +kernel
theorem dM_isEnough_47 : decode cM_isEnough 47 = .ok (.getfield 35, 3) := by decide +kernel
theorem dM_isEnough_50 : decode cM_isEnough 50 = .ok (.iload_n 2, 1) := by decide +kernel
theorem dM_isEnough_51 : decode cM_isEnough 51 = .ok (.iconst 1, 1) := by decide +kernel
theorem dM_isEnough_52 : decode cM_isEnough 52 = .ok (.iadd, 1) := by decide +kernel
theorem dM_isEnough_53 : decode cM_isEnough 53 = .ok (.iaload, 1) := by decide +kernel
theorem dM_isEnough_54 : decode cM_isEnough 54 = .ok (.aload_n 0, 1) := by decide +kernel
theorem dM_isEnough_55 : decode cM_isEnough 55 = .ok (.getfield 23, 3) := by decide +kernel
theorem dM_isEnough_58 : decode cM_isEnough 58 = .ok (.sipush 2600, 3) := by decide +kernel
theorem dM_isEnough_61 : decode cM_isEnough 61 = .ok (.iload_n 1, 1) := by decide +kernel
theorem dM_isEnough_62 : decode cM_isEnough 62 = .ok (.imul, 1) := by decide +kernel
theorem dM_isEnough_63 : decode cM_isEnough 63 = .ok (.iload_n 2, 1) := by decide +kernel
theorem dM_isEnough_64 : decode cM_isEnough 64 = .ok (.iadd, 1) := by decide +kernel
theorem dM_isEnough_65 : decode cM_isEnough 65 = .ok (.iaload, 1) := by decide +kernel
theorem dM_isEnough_66 : decode cM_isEnough 66 = .ok (.if_icmp .le 7, 3) := by decide +kernel
theorem dM_isEnough_69 : decode cM_isEnough 69 = .ok (.iconst 1, 1) := by decide +kernel
theorem dM_isEnough_70 : decode cM_isEnough 70 = .ok (.goto 4, 3) := by decide +kernel
theorem dM_isEnough_73 : decode cM_isEnough 73 = .ok (.iconst 0, 1) := by decide +kernel
theorem dM_isEnough_74 : decode cM_isEnough 74 = .ok (.ireturn, 1) := by decide +kernel
theorem dM_isEnough_75 : decode cM_isEnough 75 = .ok (.iinc 2 1, 3) := by decide +kernel
theorem dM_isEnough_78 : decode cM_isEnough 78 = .ok (.goto (-65), 3) := by decide +kernel
theorem dM_isEnough_81 : decode cM_isEnough 81 = .ok (.iconst 1, 1) := by decide +kernel
theorem dM_isEnough_82 : decode cM_isEnough 82 = .ok (.ireturn, 1) := by decide +kernel
theorem dM_divide_0 : decode cM_divide 0 = .ok (.aload_n 0, 1) := by decide +kernel
theorem dM_divide_1 : decode cM_divide 1 = .ok (.getfield 32, 3) := by decide +kernel
theorem dM_divide_4 : decode cM_divide 4 = .ok (.iload_n 1, 1) := by decide +kernel
theorem dM_divide_5 : decode cM_divide 5 = .ok (.iaload, 1) := by decide +kernel
theorem dM_divide_6 : decode cM_divide 6 = .ok (.ifCond .ne 10, 3) := by decide +kernel
theorem dM_divide_9 : decode cM_divide 9 = .ok (.aload_n 0, 1) := by decide +kernel
theorem dM_divide_10 : decode cM_divide 10 = .ok (.iload 4, 2) := by decide +kernel
theorem dM_divide_12 : decode cM_divide 12 = .ok (.invokevirtual 58, 3) := by decide +kernel
theorem dM_divide_15 : decode cM_divide 15 = .ok (.return_, 1) := by decide +kernel
theorem dM_divide_16 : decode cM_divide 16 = .ok (.iconst 0, 1) := by decide +kernel
theorem dM_divide_17 : decode cM_divide 17 = .ok (.istore 5, 2) := by decide +kernel
theorem dM_divide_19 : decode cM_divide 19 = .ok (.iload 5, 2) := by decide +kernel
theorem dM_divide_21 : decode cM_divide 21 = .ok (.aload_n 0, 1) := by decide +kernel
theorem dM_divide_22 : decode cM_divide 22 = .ok (.getfield 26, 3) := by decide +kernel
theorem dM_divide_25 : decode cM_divide 25 = .ok (.iload_n 2, 1) := by decide +kernel
theorem dM_divide_26 : decode cM_divide 26 = .ok (.iaload, 1) := by decide +kernel
theorem dM_divide_27 : decode cM_divide 27 = .ok (.if_icmp .gt 17, 3) := by decide +kernel
theorem dM_divide_30 : decode cM_divide 30 = .ok (.aload_n 0, 1) := by decide +kernel
theorem dM_divide_31 : decode cM_divide 31 = .ok (.getfield 35, 3) := by decide +kernel
theorem dM_divide_34 : decode cM_divide 34 = .ok (.iload 5, 2) := by decide +kernel
theorem dM_divide_36 : decode cM_divide 36 = .ok (.iconst 0, 1) := by decide +kernel
theorem dM_divide_37 : decode cM_divide 37 = .ok (.iastore, 1) := by decide +kernel
theorem dM_divide_38 : decode cM_divide 38 = .ok (.iinc 5 1, 3) := by decide +kernel
theorem dM_divide_41 : decode cM_divide 41 = .ok (.goto (-22), 3) := by decide +kernel
theorem dM_divide_44 : decode cM_divide 44 = .ok (.iconst 0, 1) := by decide +kernel
theorem dM_divide_45 : decode cM_divide 45 = .ok (.istore 5, 2) := by decide +kernel
theorem dM_divide_47 : decode cM_divide 47 = .ok (.iconst 0, 1) := by decide +kernel
theorem dM_divide_48 : decode cM_divide 48 = .ok (.istore 6, 2) := by decide +kernel
theorem dM_divide_50 : decode cM_divide 50 = .ok (.iload 5, 2) := by decide +kernel
theorem dM_divide_52 : decode cM_divide 52 = .ok (.iload_n 3, 1) := by decide +kernel
theorem dM_divide_53 : decode cM_divide 53 = .ok (.if_icmp .gt 226, 3) := by decide +kernel
theorem dM_divide_56 : decode cM_divide 56 = .ok (.iconst 0, 1) := by decide +kernel
theorem dM_divide_57 : decode cM_divide 57 = .ok (.istore 7, 2) := by decide +kernel
theorem dM_divide_59 : decode cM_divide 59 = .ok (.iload 7, 2) := by decide +kernel
theorem dM_divide_61 : decode cM_divide 61 = .ok (.aload_n 0, 1) := by decide +kernel
theorem dM_divide_62 : decode cM_divide 62 = .ok (.getfield 26, 3) := by decide +kernel
theorem dM_divide_65 : decode cM_divide 65 = .ok (.iload_n 2, 1) := by decide +kernel
theorem dM_divide_66 : decode cM_divide 66 = .ok (.iaload, 1) := by decide +kernel
theorem dM_divide_67 : decode cM_divide 67 = .ok (.if_icmp .ge 25, 3) := by decide +kernel
theorem dM_divide_70 : decode cM_divide 70 = .ok (.aload_n 0, 1) := by decide +kernel
theorem dM_divide_71 : decode cM_divide 71 = .ok (.getfield 35, 3) := by decide +kernel
theorem dM_divide_74 : decode cM_divide 74 = .ok (.iload 7, 2) := by decide +kernel
theorem dM_divide_76 : decode cM_divide 76 = .ok (.aload_n 0, 1) := by decide +kernel
theorem dM_divide_77 : decode cM_divide 77 = .ok (.getfield 35, 3) := by decide +kernel
theorem dM_divide_80 : decode cM_divide 80 = .ok (.iload 7, 2) := by decide +kernel
theorem dM_divide_82 : decode cM_divide 82 = .ok (.iconst 1, 1) := by decide +kernel
theorem dM_divide_83 : decode cM_divide 83 = .ok (.iadd, 1) := by decide +kernel
theorem dM_divide_84 : decode cM_divide 84 = .ok (.iaload, 1) := by decide +kernel
theorem dM_divide_85 : decode cM_divide 85 = .ok (.iastore, 1) := by decide +kernel
theorem dM_divide_86 : decode cM_divide 86 = .ok (.iinc 7 1, 3) := by decide +kernel
theorem dM_divide_89 : decode cM_divide 89 = .ok (.goto (-30), 3) := by decide +kernel
theorem dM_divide_92 : decode cM_divide 92 = .ok (.aload_n 0, 1) := by decide +kernel
theorem dM_divide_93 : decode cM_divide 93 = .ok (.getfield 35, 3) := by decide +kernel
theorem dM_divide_96 : decode cM_divide 96 = .ok (.aload_n 0, 1) := by decide +kernel
theorem dM_divide_97 : decode cM_divide 97 = .ok (.getfield 26, 3) := by decide +kernel
theorem dM_divide_100 : decode cM_divide 100 = .ok (.iload_n 2, 1) := by decide +kernel
theorem dM_divide_101 : decode cM_divide 101 = .ok (.iaload, 1) := by decide +kernel
theorem dM_divide_102 : decode cM_divide 102 = .ok (.iload 6, 2) := by decide +kernel
theorem dM_divide_104 : decode cM_divide 104 = .ok (.aload_n 0, 1) := by decide +kernel
theorem dM_divide_105 : decode cM_divide 105 = .ok (.getfield 26, 3) := by decide +kernel
theorem dM_divide_108 : decode cM_divide 108 = .ok (.iload_n 1, 1) := by decide +kernel
theorem dM_divide_109 : decode cM_divide 109 = .ok (.iaload, 1) := by decide +kernel
theorem dM_divide_110 : decode cM_divide 110 = .ok (.if_icmp .ge 19, 3) := by decide +kernel
theorem dM_divide_113 : decode cM_divide 113 = .ok (.aload_n 0, 1) := by decide +kernel
theorem dM_divide_114 : decode cM_divide 114 = .ok (.getfield 23, 3) := by decide +kernel
theorem dM_divide_117 : decode cM_divide 117 = .ok (.sipush 2600, 3) := by decide +kernel
theorem dM_divide_120 : decode cM_divide 120 = .ok (.iload_n 1, 1) := by decide +kernel
theorem dM_divide_121 : decode cM_divide 121 = .ok (.imul, 1) := by decide +kernel
theorem dM_divide_122 : decode cM_divide 122 = .ok (.iload 6, 2) := by decide +kernel
theorem dM_divide_124 : decode cM_divide 124 = .ok (.iadd, 1) := by decide +kernel
theorem dM_divide_125 : decode cM_divide 125 = .ok (.iaload, 1) := by decide +kernel
theorem dM_divide_126 : decode cM_divide 126 = .ok (.goto 4, 3) := by decide +kernel
theorem dM_divide_129 : decode cM_divide 129 = .ok (.iconst 0, 1) := by decide +kernel
theorem dM_divide_130 : decode cM_divide 130 = .ok (.iastore, 1) := by decide +kernel
theorem dM_divide_131 : decode cM_divide 131 = .ok (.iinc 6 1, 3) := by decide +kernel
theorem dM_divide_134 : decode cM_divide 134 = .ok (.iconst 0, 1) := by decide +kernel
theorem dM_divide_135 : decode cM_divide 135 = .ok (.istore 7, 2) := by decide +kernel
theorem dM_divide_137 : decode cM_divide 137 = .ok (.aload_n 0, 1) := by decide +kernel
theorem dM_divide_138 : decode cM_divide 138 = .ok (.iload_n 2, 1) := by decide +kernel
theorem dM_divide_139 : decode cM_divide 139 = .ok (.invokevirtual 79, 3) := by decide +kernel
theorem dM_divide_142 : decode cM_divide 142 = .ok (.ifCond .eq 102, 3) := by decide +kernel
theorem dM_divide_145 : decode cM_divide 145 = .ok (.iconst 0, 1) := by decide +kernel
theorem dM_divide_146 : decode cM_divide 146 = .ok (.istore 8, 2) := by decide +kernel
theorem dM_divide_148 : decode cM_divide 148 = .ok (.aload_n 0, 1) := by decide +kernel
theorem dM_divide_149 : decode cM_divide 149 = .ok (.getfield 26, 3) := by decide +kernel
theorem dM_divide_152 : decode cM_divide 152 = .ok (.iload_n 2, 1) := by decide +kernel
theorem dM_divide_153 : decode cM_divide 153 = .ok (.iaload, 1) := by decide +kernel
theorem dM_divide_154 : decode cM_divide 154 = .ok (.istore 9, 2) := by decide +kernel
theorem dM_divide_156 : decode cM_divide 156 = .ok (.iload 9, 2) := by decide +kernel
theorem dM_divide_158 : decode cM_divide 158 = .ok (.ifCond .lt 80, 3) := by decide +kernel
theorem dM_divide_161 : decode cM_divide 161 = .ok (.aload_n 0, 1) := by decide +kernel
theorem dM_divide_162 : decode cM_divide 162 = .ok (.getfield 35, 3) := by decide +kernel
theorem dM_divide_165 : decode cM_divide 165 = .ok (.iload 9, 2) := by decide +kernel
theorem dM_divide_167 : decode cM_divide 167 = .ok (.iaload, 1) := by decide +kernel
theorem dM_divide_168 : decode cM_divide 168 = .ok (.iload 8, 2) := by decide +kernel
theorem dM_divide_170 : decode cM_divide 170 = .ok (.iadd, 1) := by decide +kernel
theorem dM_divide_171 : decode cM_divide 171 = .ok (.iload 9, 2) := by decide +kernel
theorem dM_divide_173 : decode cM_divide 173 = .ok (.ifCond .le 21, 3) := by decide +kernel
theorem dM_divide_176 : decode cM_divide 176 = .ok (.aload_n 0, 1) := by decide +kernel
theorem dM_divide_177 : decode cM_divide 177 = .ok (.getfield 23, 3) := by decide +kernel
theorem dM_divide_180 : decode cM_divide 180 = .ok (.sipush 2600, 3) := by decide +kernel
theorem dM_divide_183 : decode cM_divide 183 = .ok (.iload_n 2, 1) := by decide +kernel
theorem dM_divide_184 : decode cM_divide 184 = .ok (.imul, 1) := by decide +kernel
theorem dM_divide_185 : decode cM_divide 185 = .ok (.iload 9, 2) := by decide +kernel
theorem dM_divide_187 : decode cM_divide 187 = .ok (.iadd, 1) := by decide +kernel
theorem dM_divide_188 : decode cM_divide 188 = .ok (.iconst 1, 1) := by decide +kernel
theorem dM_divide_189 : decode cM_divide 189 = .ok (.isub, 1) := by decide +kernel
theorem dM_divide_190 : decode cM_divide 190 = .ok (.iaload, 1) := by decide +kernel
theorem dM_divide_191 : decode cM_divide 191 = .ok (.goto 4, 3) := by decide +kernel
theorem dM_divide_194 : decode cM_divide 194 = .ok (.iconst 0, 1) := by decide +kernel
theorem dM_divide_195 : decode cM_divide 195 = .ok (.isub, 1) := by decide +kernel
theorem dM_divide_196 : decode cM_divide 196 = .ok (.istore 10, 2) := by decide +kernel
theorem dM_divide_198 : decode cM_divide 198 = .ok (.iload 10, 2) := by decide +kernel
theorem dM_divide_200 : decode cM_divide 200 = .ok (.ifCond .ge 7, 3) := by decide +kernel
theorem dM_divide_203 : decode cM_divide 203 = .ok (.iconst (-1), 1) := by decide +kernel
theorem dM_divide_204 : decode cM_divide 204 = .ok (.goto 4, 3) := by decide +kernel
theorem dM_divide_207 : decode cM_divide 207 = .ok (.iconst 0, 1) := by decide +kernel
theorem dM_divide_208 : decode cM_divide 208 = .ok (.istore 8, 2) := by decide +kernel
theorem dM_divide_210 : decode cM_divide 210 = .ok (.aload_n 0, 1) := by decide +kernel
theorem dM_divide_211 : decode cM_divide 211 = .ok (.getfield 35, 3) := by decide +kernel
theorem dM_divide_214 : decode cM_divide 214 = .ok (.iload 9, 2) := by decide +kernel
theorem dM_divide_216 : decode cM_divide 216 = .ok (.iload 10, 2) := by decide +kernel
theorem dM_divide_218 : decode cM_divide 218 = .ok (.ifCond .ge 11, 3) := by decide +kernel
theorem dM_divide_221 : decode cM_divide 221 = .ok (.iload 10, 2) := by decide +kernel
theorem dM_divide_223 : decode cM_divide 223 = .ok (.bipush 10, 2) := by decide +kernel
theorem dM_divide_225 : decode cM_divide 225 = .ok (.iadd, 1) := by decide +kernel
theorem dM_divide_226 : decode cM_divide 226 = .ok (.goto 5, 3) := by decide +kernel
theorem dM_divide_229 : decode cM_divide 229 = .ok (.iload 10, 2) := by decide +kernel
theorem dM_divide_231 : decode cM_divide 231 = .ok (.iastore, 1) := by decide +kernel
theorem dM_divide_232 : decode cM_divide 232 = .ok (.iinc 9 (-1), 3) := by decide +kernel
theorem dM_divide_235 : decode cM_divide 235 = .ok (.goto (-79), 3) := by decide +kernel
theorem dM_divide_238 : decode cM_divide 238 = .ok (.iinc 7 1, 3) := by decide +kernel
theorem dM_divide_241 : decode cM_divide 241 = .ok (.goto (-104), 3) := by decide +kernel
theorem dM_divide_244 : decode cM_divide 244 = .ok (.iload 5, 2) := by decide +kernel
theorem dM_divide_246 : decode cM_divide 246 = .ok (.ifCond .ne 11, 3) := by decide +kernel
theorem dM_divide_249 : decode cM_divide 249 = .ok (.iload 7, 2) := by decide +kernel
theorem dM_divide_251 : decode cM_divide 251 = .ok (.ifCond .ne 6, 3) := by decide +kernel
theorem dM_divide_254 : decode cM_divide 254 = .ok (.goto (-204), 3) := by decide +kernel
theorem dM_divide_257 : decode cM_divide 257 = .ok (.aload_n 0, 1) := by decide +kernel
theorem dM_divide_258 : decode cM_divide 258 = .ok (.getfield 23, 3) := by decide +kernel
theorem dM_divide_261 : decode cM_divide 261 = .ok (.sipush 2600, 3) := by decide +kernel
theorem dM_divide_264 : decode cM_divide 264 = .ok (.iload 4, 2) := by decide +kernel
theorem dM_divide_266 : decode cM_divide 266 = .ok (.imul, 1) := by decide +kernel
theorem dM_divide_267 : decode cM_divide 267 = .ok (.iload 5, 2) := by decide +kernel
theorem dM_divide_269 : decode cM_divide 269 = .ok (.iadd, 1) := by decide +kernel
theorem dM_divide_270 : decode cM_divide 270 = .ok (.iload 7, 2) := by decide +kernel
theorem dM_divide_272 : decode cM_divide 272 = .ok (.iastore, 1) := by decide +kernel
theorem dM_divide_273 : decode cM_divide 273 = .ok (.iinc 5 1, 3) := by decide +kernel
theorem dM_divide_276 : decode cM_divide 276 = .ok (.goto (-226), 3) := by decide +kernel
theorem dM_divide_279 : decode cM_divide 279 = .ok (.aload_n 0, 1) := by decide +kernel
theorem dM_divide_280 : decode cM_divide 280 = .ok (.getfield 32, 3) := by decide +kernel
theorem dM_divide_283 : decode cM_divide 283 = .ok (.iload 4, 2) := by decide +kernel
theorem dM_divide_285 : decode cM_divide 285 = .ok (.aload_n 0, 1) := by decide +kernel
theorem dM_divide_286 : decode cM_divide 286 = .ok (.getfield 32, 3) := by decide +kernel
theorem dM_divide_289 : decode cM_divide 289 = .ok (.iload_n 1, 1) := by decide +kernel
theorem dM_divide_290 : decode cM_divide 290 = .ok (.iaload, 1) := by decide +kernel
theorem dM_divide_291 : decode cM_divide 291 = .ok (.aload_n 0, 1) := by decide +kernel
theorem dM_divide_292 : decode cM_divide 292 = .ok (.getfield 32, 3) := by decide +kernel
theorem dM_divide_295 : decode cM_divide 295 = .ok (.iload_n 2, 1) := by decide +kernel
theorem dM_divide_296 : decode cM_divide 296 = .ok (.iaload, 1) := by decide +kernel
theorem dM_divide_297 : decode cM_divide 297 = .ok (.imul, 1) := by decide +kernel
theorem dM_divide_298 : decode cM_divide 298 = .ok (.iastore, 1) := by decide +kernel
theorem dM_divide_299 : decode cM_divide 299 = .ok (.aload_n 0, 1) := by decide +kernel
theorem dM_divide_300 : decode cM_divide 300 = .ok (.getfield 26, 3) := by decide +kernel
theorem dM_divide_303 : decode cM_divide 303 = .ok (.iload 4, 2) := by decide +kernel
theorem dM_divide_305 : decode cM_divide 305 = .ok (.iload 5, 2) := by decide +kernel
theorem dM_divide_307 : decode cM_divide 307 = .ok (.iastore, 1) := by decide +kernel
theorem dM_divide_308 : decode cM_divide 308 = .ok (.aload_n 0, 1) := by decide +kernel
theorem dM_divide_309 : decode cM_divide 309 = .ok (.getfield 29, 3) := by decide +kernel
theorem dM_divide_312 : decode cM_divide 312 = .ok (.iload 4, 2) := by decide +kernel
theorem dM_divide_314 : decode cM_divide 314 = .ok (.aload_n 0, 1) := by decide +kernel
theorem dM_divide_315 : decode cM_divide 315 = .ok (.getfield 29, 3) := by decide +kernel
theorem dM_divide_318 : decode cM_divide 318 = .ok (.iload_n 1, 1) := by decide +kernel
theorem dM_divide_319 : decode cM_divide 319 = .ok (.iaload, 1) := by decide +kernel
theorem dM_divide_320 : decode cM_divide 320 = .ok (.aload_n 0, 1) := by decide +kernel
theorem dM_divide_321 : decode cM_divide 321 = .ok (.getfield 29, 3) := by decide +kernel
theorem dM_divide_324 : decode cM_divide 324 = .ok (.iload_n 2, 1) := by decide +kernel
theorem dM_divide_325 : decode cM_divide 325 = .ok (.iaload, 1) := by decide +kernel
theorem dM_divide_326 : decode cM_divide 326 = .ok (.isub, 1) := by decide +kernel
theorem dM_divide_327 : decode cM_divide 327 = .ok (.aload_n 0, 1) := by decide +kernel
theorem dM_divide_328 : decode cM_divide 328 = .ok (.getfield 26, 3) := by decide +kernel
theorem dM_divide_331 : decode cM_divide 331 = .ok (.iload_n 1, 1) := by decide +kernel
theorem dM_divide_332 : decode cM_divide 332 = .ok (.iaload, 1) := by decide +kernel
theorem dM_divide_333 : decode cM_divide 333 = .ok (.iadd, 1) := by decide +kernel
theorem dM_divide_334 : decode cM_divide 334 = .ok (.iload 6, 2) := by decide +kernel
theorem dM_divide_336 : decode cM_divide 336 = .ok (.isub, 1) := by decide +kernel
theorem dM_divide_337 : decode cM_divide 337 = .ok (.iastore, 1) := by decide +kernel
theorem dM_divide_338 : decode cM_divide 338 = .ok (.return_, 1) := by decide +kernel
theorem dM_part_0 : decode cM_part 0 = .ok (.iconst 0, 1) := by decide +kernel
theorem dM_part_1 : decode cM_part 1 = .ok (.istore 4, 2) := by decide +kernel
theorem dM_part_3 : decode cM_part 3 = .ok (.aload_n 0, 1) := by decide +kernel
theorem dM_part_4 : decode cM_part 4 = .ok (.iload_n 1, 1) := by decide +kernel
theorem dM_part_5 : decode cM_part 5 = .ok (.invokevirtual 67, 3) := by decide +kernel
theorem dM_part_8 : decode cM_part 8 = .ok (.aload_n 0, 1) := by decide +kernel
theorem dM_part_9 : decode cM_part 9 = .ok (.iload_n 2, 1) := by decide +kernel
theorem dM_part_10 : decode cM_part 10 = .ok (.invokevirtual 67, 3) := by decide +kernel
theorem dM_part_13 : decode cM_part 13 = .ok (.if_icmp .le 11, 3) := by decide +kernel
theorem dM_part_16 : decode cM_part 16 = .ok (.aload_n 0, 1) := by decide +kernel
theorem dM_part_17 : decode cM_part 17 = .ok (.iload_n 1, 1) := by decide +kernel
theorem dM_part_18 : decode cM_part 18 = .ok (.invokevirtual 67, 3) := by decide +kernel
theorem dM_part_21 : decode cM_part 21 = .ok (.goto 8, 3) := by decide +kernel
theorem dM_part_24 : decode cM_part 24 = .ok (.aload_n 0, 1) := by decide +kernel
theorem dM_part_25 : decode cM_part 25 = .ok (.iload_n 2, 1) := by decide +kernel
theorem dM_part_26 : decode cM_part 26 = .ok (.invokevirtual 67, 3) := by decide +kernel
theorem dM_part_29 : decode cM_part 29 = .ok (.istore 5, 2) := by decide +kernel
theorem dM_part_31 : decode cM_part 31 = .ok (.aload_n 0, 1) := by decide +kernel
theorem dM_part_32 : decode cM_part 32 = .ok (.getfield 29, 3) := by decide +kernel
theorem dM_part_35 : decode cM_part 35 = .ok (.iload_n 1, 1) := by decide +kernel
theorem dM_part_36 : decode cM_part 36 = .ok (.iaload, 1) := by decide +kernel
theorem dM_part_37 : decode cM_part 37 = .ok (.aload_n 0, 1) := by decide +kernel
theorem dM_part_38 : decode cM_part 38 = .ok (.getfield 29, 3) := by decide +kernel
theorem dM_part_41 : decode cM_part 41 = .ok (.iload_n 2, 1) := by decide +kernel
theorem dM_part_42 : decode cM_part 42 = .ok (.iaload, 1) := by decide +kernel
theorem dM_part_43 : decode cM_part 43 = .ok (.if_icmp .ge 12, 3) := by decide +kernel
theorem dM_part_46 : decode cM_part 46 = .ok (.aload_n 0, 1) := by decide +kernel
theorem dM_part_47 : decode cM_part 47 = .ok (.getfield 29, 3) := by decide +kernel
theorem dM_part_50 : decode cM_part 50 = .ok (.iload_n 1, 1) := by decide +kernel
theorem dM_part_51 : decode cM_part 51 = .ok (.iaload, 1) := by decide +kernel
theorem dM_part_52 : decode cM_part 52 = .ok (.goto 9, 3) := by decide +kernel
theorem dM_part_55 : decode cM_part 55 = .ok (.aload_n 0, 1) := by decide +kernel
theorem dM_part_56 : decode cM_part 56 = .ok (.getfield 29, 3) := by decide +kernel
theorem dM_part_59 : decode cM_part 59 = .ok (.iload_n 2, 1) := by decide +kernel
theorem dM_part_60 : decode cM_part 60 = .ok (.iaload, 1) := by decide +kernel
theorem dM_part_61 : decode cM_part 61 = .ok (.istore 6, 2) := by decide +kernel
theorem dM_part_63 : decode cM_part 63 = .ok (.iload 5, 2) := by decide +kernel
theorem dM_part_65 : decode cM_part 65 = .ok (.istore 7, 2) := by decide +kernel
theorem dM_part_67 : decode cM_part 67 = .ok (.iload 7, 2) := by decide +kernel
theorem dM_part_69 : decode cM_part 69 = .ok (.iload 6, 2) := by decide +kernel
theorem dM_part_71 : decode cM_part 71 = .ok (.if_icmp .lt 31, 3) := by decide +kernel
theorem dM_part_74 : decode cM_part 74 = .ok (.iload 4, 2) := by decide +kernel
theorem dM_part_76 : decode cM_part 76 = .ok (.ifCond .ne 26, 3) := by decide +kernel
theorem dM_part_79 : decode cM_part 79 = .ok (.aload_n 0, 1) := by decide +kernel
theorem dM_part_80 : decode cM_part 80 = .ok (.iload_n 1, 1) := by decide +kernel
theorem dM_part_81 : decode cM_part 81 = .ok (.iload 7, 2) := by decide +kernel
theorem dM_part_83 : decode cM_part 83 = .ok (.invokevirtual 75, 3) := by decide +kernel
theorem dM_part_86 : decode cM_part 86 = .ok (.aload_n 0, 1) := by decide +kernel
theorem dM_part_87 : decode cM_part 87 = .ok (.iload_n 2, 1) := by decide +kernel
theorem dM_part_88 : decode cM_part 88 = .ok (.iload 7, 2) := by decide +kernel
theorem dM_part_90 : decode cM_part 90 = .ok (.invokevirtual 75, 3) := by decide +kernel
theorem dM_part_93 : decode cM_part 93 = .ok (.isub, 1) := by decide +kernel
theorem dM_part_94 : decode cM_part 94 = .ok (.istore 4, 2) := by decide +kernel
theorem dM_part_96 : decode cM_part 96 = .ok (.iinc 7 (-1), 3) := by decide +kernel
theorem dM_part_99 : decode cM_part 99 = .ok (.goto (-32), 3) := by decide +kernel
theorem dM_part_102 : decode cM_part 102 = .ok (.aload_n 0, 1) := by decide +kernel
theorem dM_part_103 : decode cM_part 103 = .ok (.getfield 32, 3) := by decide +kernel
theorem dM_part_106 : decode cM_part 106 = .ok (.iload_n 1, 1) := by decide +kernel
theorem dM_part_107 : decode cM_part 107 = .ok (.iaload, 1) := by decide +kernel
theorem dM_part_108 : decode cM_part 108 = .ok (.ifCond .eq 8, 3) := by decide +kernel
theorem dM_part_111 : decode cM_part 111 = .ok (.iload 4, 2) := by decide +kernel
theorem dM_part_113 : decode cM_part 113 = .ok (.ifCond .ge 10, 3) := by decide +kernel
theorem dM_part_116 : decode cM_part 116 = .ok (.aload_n 0, 1) := by decide +kernel
theorem dM_part_117 : decode cM_part 117 = .ok (.iload_n 3, 1) := by decide +kernel
theorem dM_part_118 : decode cM_part 118 = .ok (.invokevirtual 58, 3) := by decide +kernel
theorem dM_part_121 : decode cM_part 121 = .ok (.iconst 1, 1) := by decide +kernel
theorem dM_part_122 : decode cM_part 122 = .ok (.ireturn, 1) := by decide +kernel
theorem dM_part_123 : decode cM_part 123 = .ok (.aload_n 0, 1) := by decide +kernel
theorem dM_part_124 : decode cM_part 124 = .ok (.iload_n 1, 1) := by decide +kernel
theorem dM_part_125 : decode cM_part 125 = .ok (.invokevirtual 67, 3) := by decide +kernel
theorem dM_part_128 : decode cM_part 128 = .ok (.aload_n 0, 1) := by decide +kernel
theorem dM_part_129 : decode cM_part 129 = .ok (.iload_n 2, 1) := by decide +kernel
theorem dM_part_130 : decode cM_part 130 = .ok (.invokevirtual 67, 3) := by decide +kernel
theorem dM_part_133 : decode cM_part 133 = .ok (.isub, 1) := by decide +kernel
theorem dM_part_134 : decode cM_part 134 = .ok (.iconst 1, 1) := by decide +kernel
theorem dM_part_135 : decode cM_part 135 = .ok (.iadd, 1) := by decide +kernel
theorem dM_part_136 : decode cM_part 136 = .ok (.istore 7, 2) := by decide +kernel
theorem dM_part_138 : decode cM_part 138 = .ok (.iload 7, 2) := by decide +kernel
theorem dM_part_140 : decode cM_part 140 = .ok (.aload_n 0, 1) := by decide +kernel
theorem dM_part_141 : decode cM_part 141 = .ok (.getfield 19, 3) := by decide +kernel
theorem dM_part_144 : decode cM_part 144 = .ok (.iconst 1, 1) := by decide +kernel
theorem dM_part_145 : decode cM_part 145 = .ok (.iadd, 1) := by decide +kernel
theorem dM_part_146 : decode cM_part 146 = .ok (.if_icmp .le 5, 3) := by decide +kernel
theorem dM_part_149 : decode cM_part 149 = .ok (.iconst 0, 1) := by decide +kernel
theorem dM_part_150 : decode cM_part 150 = .ok (.ireturn, 1) := by decide +kernel
theorem dM_part_151 : decode cM_part 151 = .ok (.aload_n 0, 1) := by decide +kernel
theorem dM_part_152 : decode cM_part 152 = .ok (.iload_n 1, 1) := by decide +kernel
theorem dM_part_153 : decode cM_part 153 = .ok (.iload_n 2, 1) := by decide +kernel
theorem dM_part_154 : decode cM_part 154 = .ok (.iload 7, 2) := by decide +kernel
theorem dM_part_156 : decode cM_part 156 = .ok (.iconst 1, 1) := by decide +kernel
theorem dM_part_157 : decode cM_part 157 = .ok (.iadd, 1) := by decide +kernel
theorem dM_part_158 : decode cM_part 158 = .ok (.iload_n 3, 1) := by decide +kernel
theorem dM_part_159 : decode cM_part 159 = .ok (.invokevirtual 82, 3) := by decide +kernel
theorem dM_part_162 : decode cM_part 162 = .ok (.aload_n 0, 1) := by decide +kernel
theorem dM_part_163 : decode cM_part 163 = .ok (.getfield 26, 3) := by decide +kernel
theorem dM_part_166 : decode cM_part 166 = .ok (.iload_n 3, 1) := by decide +kernel
theorem dM_part_167 : decode cM_part 167 = .ok (.iaload, 1) := by decide +kernel
theorem dM_part_168 : decode cM_part 168 = .ok (.aload_n 0, 1) := by decide +kernel
theorem dM_part_169 : decode cM_part 169 = .ok (.getfield 29, 3) := by decide +kernel
theorem dM_part_172 : decode cM_part 172 = .ok (.iload_n 3, 1) := by decide +kernel
theorem dM_part_173 : decode cM_part 173 = .ok (.iaload, 1) := by decide +kernel
theorem dM_part_174 : decode cM_part 174 = .ok (.iadd, 1) := by decide +kernel
theorem dM_part_175 : decode cM_part 175 = .ok (.istore 8, 2) := by decide +kernel
theorem dM_part_177 : decode cM_part 177 = .ok (.iload 8, 2) := by decide +kernel
theorem dM_part_179 : decode cM_part 179 = .ok (.aload_n 0, 1) := by decide +kernel
theorem dM_part_180 : decode cM_part 180 = .ok (.getfield 19, 3) := by decide +kernel
theorem dM_part_183 : decode cM_part 183 = .ok (.if_icmp .le 5, 3) := by decide +kernel
theorem dM_part_186 : decode cM_part 186 = .ok (.iconst 0, 1) := by decide +kernel
theorem dM_part_187 : decode cM_part 187 = .ok (.ireturn, 1) := by decide +kernel
theorem dM_part_188 : decode cM_part 188 = .ok (.aload_n 0, 1) := by decide +kernel
theorem dM_part_189 : decode cM_part 189 = .ok (.getfield 26, 3) := by decide +kernel
theorem dM_part_192 : decode cM_part 192 = .ok (.iload_n 3, 1) := by decide +kernel
theorem dM_part_193 : decode cM_part 193 = .ok (.iload 8, 2) := by decide +kernel
theorem dM_part_195 : decode cM_part 195 = .ok (.iastore, 1) := by decide +kernel
theorem dM_part_196 : decode cM_part 196 = .ok (.aload_n 0, 1) := by decide +kernel
theorem dM_part_197 : decode cM_part 197 = .ok (.getfield 29, 3) := by decide +kernel
theorem dM_part_200 : decode cM_part 200 = .ok (.iload_n 3, 1) := by decide +kernel
theorem dM_part_201 : decode cM_part 201 = .ok (.iconst 0, 1) := by decide +kernel
theorem dM_part_202 : decode cM_part 202 = .ok (.iastore, 1) := by decide +kernel
theorem dM_part_203 : decode cM_part 203 = .ok (.iload 8, 2) := by decide +kernel
theorem dM_part_205 : decode cM_part 205 = .ok (.ifCond .gt 8, 3) := by decide +kernel
theorem dM_part_208 : decode cM_part 208 = .ok (.aload_n 0, 1) := by decide +kernel
theorem dM_part_209 : decode cM_part 209 = .ok (.iload_n 3, 1) := by decide +kernel
theorem dM_part_210 : decode cM_part 210 = .ok (.invokevirtual 58, 3) := by decide +kernel
theorem dM_part_213 : decode cM_part 213 = .ok (.iconst 1, 1) := by decide +kernel
theorem dM_part_214 : decode cM_part 214 = .ok (.ireturn, 1) := by decide +kernel
theorem dM_letter_0 : decode cM_letter 0 = .ok (.aload_n 0, 1) := by decide +kernel
theorem dM_letter_1 : decode cM_letter 1 = .ok (.getfield 86, 3) := by decide +kernel
theorem dM_letter_4 : decode cM_letter 4 = .ok (.sipush 1600, 3) := by decide +kernel
theorem dM_letter_7 : decode cM_letter 7 = .ok (.if_icmp .ge 13, 3) := by decide +kernel
theorem dM_letter_10 : decode cM_letter 10 = .ok (.aload_n 0, 1) := by decide +kernel
theorem dM_letter_11 : decode cM_letter 11 = .ok (.getfield 38, 3) := by decide +kernel
theorem dM_letter_14 : decode cM_letter 14 = .ok (.aload_n 0, 1) := by decide +kernel
theorem dM_letter_15 : decode cM_letter 15 = .ok (.getfield 86, 3) := by decide +kernel
theorem dM_letter_18 : decode cM_letter 18 = .ok (.iload_n 1, 1) := by decide +kernel
theorem dM_letter_19 : decode cM_letter 19 = .ok (.iastore, 1) := by decide +kernel
theorem dM_letter_20 : decode cM_letter 20 = .ok (.aload_n 0, 1) := by decide +kernel
theorem dM_letter_21 : decode cM_letter 21 = .ok (.dup, 1) := by decide +kernel
theorem dM_letter_22 : decode cM_letter 22 = .ok (.getfield 86, 3) := by decide +kernel
theorem dM_letter_25 : decode cM_letter 25 = .ok (.iconst 1, 1) := by decide +kernel
theorem dM_letter_26 : decode cM_letter 26 = .ok (.iadd, 1) := by decide +kernel
theorem dM_letter_27 : decode cM_letter 27 = .ok (.putfield 86, 3) := by decide +kernel
theorem dM_letter_30 : decode cM_letter 30 = .ok (.return_, 1) := by decide +kernel
theorem dM_plain_0 : decode cM_plain 0 = .ok (.iload_n 2, 1) := by decide +kernel
theorem dM_plain_1 : decode cM_plain 1 = .ok (.istore 4, 2) := by decide +kernel
theorem dM_plain_3 : decode cM_plain 3 = .ok (.iload 4, 2) := by decide +kernel
theorem dM_plain_5 : decode cM_plain 5 = .ok (.iload_n 3, 1) := by decide +kernel
theorem dM_plain_6 : decode cM_plain 6 = .ok (.if_icmp .lt 45, 3) := by decide +kernel
theorem dM_plain_9 : decode cM_plain 9 = .ok (.aload_n 0, 1) := by decide +kernel
theorem dM_plain_10 : decode cM_plain 10 = .ok (.getfield 86, 3) := by decide +kernel
theorem dM_plain_13 : decode cM_plain 13 = .ok (.sipush 1600, 3) := by decide +kernel
theorem dM_plain_16 : decode cM_plain 16 = .ok (.if_icmp .ge 35, 3) := by decide +kernel
theorem dM_plain_19 : decode cM_plain 19 = .ok (.iload 4, 2) := by decide +kernel
theorem dM_plain_21 : decode cM_plain 21 = .ok (.iconst (-1), 1) := by decide +kernel
theorem dM_plain_22 : decode cM_plain 22 = .ok (.if_icmp .ne 9, 3) := by decide +kernel
theorem dM_plain_25 : decode cM_plain 25 = .ok (.aload_n 0, 1) := by decide +kernel
theorem dM_plain_26 : decode cM_plain 26 = .ok (.bipush 46, 2) := by decide +kernel
theorem dM_plain_28 : decode cM_plain 28 = .ok (.invokevirtual 89, 3) := by decide +kernel
theorem dM_plain_31 : decode cM_plain 31 = .ok (.aload_n 0, 1) := by decide +kernel
theorem dM_plain_32 : decode cM_plain 32 = .ok (.bipush 48, 2) := by decide +kernel
theorem dM_plain_34 : decode cM_plain 34 = .ok (.aload_n 0, 1) := by decide +kernel
theorem dM_plain_35 : decode cM_plain 35 = .ok (.iload_n 1, 1) := by decide +kernel
theorem dM_plain_36 : decode cM_plain 36 = .ok (.iload 4, 2) := by decide +kernel
theorem dM_plain_38 : decode cM_plain 38 = .ok (.invokevirtual 75, 3) := by decide +kernel
theorem dM_plain_41 : decode cM_plain 41 = .ok (.iadd, 1) := by decide +kernel
theorem dM_plain_42 : decode cM_plain 42 = .ok (.invokevirtual 89, 3) := by decide +kernel
theorem dM_plain_45 : decode cM_plain 45 = .ok (.iinc 4 (-1), 3) := by decide +kernel
theorem dM_plain_48 : decode cM_plain 48 = .ok (.goto (-45), 3) := by decide +kernel
theorem dM_plain_51 : decode cM_plain 51 = .ok (.return_, 1) := by decide +kernel
theorem dM_write_0 : decode cM_write 0 = .ok (.aload_n 0, 1) := by decide +kernel
theorem dM_write_1 : decode cM_write 1 = .ok (.iconst 0, 1) := by decide +kernel
theorem dM_write_2 : decode cM_write 2 = .ok (.putfield 86, 3) := by decide +kernel
theorem dM_write_5 : decode cM_write 5 = .ok (.aload_n 0, 1) := by decide +kernel
theorem dM_write_6 : decode cM_write 6 = .ok (.getfield 32, 3) := by decide +kernel
theorem dM_write_9 : decode cM_write 9 = .ok (.iload_n 1, 1) := by decide +kernel
theorem dM_write_10 : decode cM_write 10 = .ok (.iaload, 1) := by decide +kernel
theorem dM_write_11 : decode cM_write 11 = .ok (.ifCond .ge 9, 3) := by decide +kernel
theorem dM_write_14 : decode cM_write 14 = .ok (.aload_n 0, 1) := by decide +kernel
theorem dM_write_15 : decode cM_write 15 = .ok (.bipush 45, 2) := by decide +kernel
theorem dM_write_17 : decode cM_write 17 = .ok (.invokevirtual 89, 3) := by decide +kernel
theorem dM_write_20 : decode cM_write 20 = .ok (.aload_n 0, 1) := by decide +kernel
theorem dM_write_21 : decode cM_write 21 = .ok (.iload_n 1, 1) := by decide +kernel
theorem dM_write_22 : decode cM_write 22 = .ok (.invokevirtual 67, 3) := by decide +kernel
theorem dM_write_25 : decode cM_write 25 = .ok (.iconst 1, 1) := by decide +kernel
theorem dM_write_26 : decode cM_write 26 = .ok (.iadd, 1) := by decide +kernel
theorem dM_write_27 : decode cM_write 27 = .ok (.istore_n 2, 1) := by decide +kernel
theorem dM_write_28 : decode cM_write 28 = .ok (.iload_n 2, 1) := by decide +kernel
theorem dM_write_29 : decode cM_write 29 = .ok (.aload_n 0, 1) := by decide +kernel
theorem dM_write_30 : decode cM_write 30 = .ok (.getfield 19, 3) := by decide +kernel
theorem dM_write_33 : decode cM_write 33 = .ok (.if_icmp .gt 56, 3) := by decide +kernel
theorem dM_write_36 : decode cM_write 36 = .ok (.aload_n 0, 1) := by decide +kernel
theorem dM_write_37 : decode cM_write 37 = .ok (.getfield 29, 3) := by decide +kernel
theorem dM_write_40 : decode cM_write 40 = .ok (.iload_n 1, 1) := by decide +kernel
theorem dM_write_41 : decode cM_write 41 = .ok (.iaload, 1) := by decide +kernel
theorem dM_write_42 : decode cM_write 42 = .ok (.ineg, 1) := by decide +kernel
theorem dM_write_43 : decode cM_write 43 = .ok (.iconst 2, 1) := by decide +kernel
theorem dM_write_44 : decode cM_write 44 = .ok (.aload_n 0, 1) := by decide +kernel
theorem dM_write_45 : decode cM_write 45 = .ok (.getfield 19, 3) := by decide +kernel
theorem dM_write_48 : decode cM_write 48 = .ok (.imul, 1) := by decide +kernel
theorem dM_write_49 : decode cM_write 49 = .ok (.if_icmp .gt 40, 3) := by decide +kernel
theorem dM_write_52 : decode cM_write 52 = .ok (.aload_n 0, 1) := by decide +kernel
theorem dM_write_53 : decode cM_write 53 = .ok (.iload_n 1, 1) := by decide +kernel
theorem dM_write_54 : decode cM_write 54 = .ok (.iload_n 2, 1) := by decide +kernel
theorem dM_write_55 : decode cM_write 55 = .ok (.ifCond .le 9, 3) := by decide +kernel
theorem dM_write_58 : decode cM_write 58 = .ok (.iload_n 2, 1) := by decide +kernel
theorem dM_write_59 : decode cM_write 59 = .ok (.iconst 1, 1) := by decide +kernel
theorem dM_write_60 : decode cM_write 60 = .ok (.isub, 1) := by decide +kernel
theorem dM_write_61 : decode cM_write 61 = .ok (.goto 4, 3) := by decide +kernel
theorem dM_write_64 : decode cM_write 64 = .ok (.iconst 0, 1) := by decide +kernel
theorem dM_write_65 : decode cM_write 65 = .ok (.aload_n 0, 1) := by decide +kernel
theorem dM_write_66 : decode cM_write 66 = .ok (.getfield 29, 3) := by decide +kernel
theorem dM_write_69 : decode cM_write 69 = .ok (.iload_n 1, 1) := by decide +kernel
theorem dM_write_70 : decode cM_write 70 = .ok (.iaload, 1) := by decide +kernel
theorem dM_write_71 : decode cM_write 71 = .ok (.ifCond .ge 12, 3) := by decide +kernel
theorem dM_write_74 : decode cM_write 74 = .ok (.aload_n 0, 1) := by decide +kernel
theorem dM_write_75 : decode cM_write 75 = .ok (.getfield 29, 3) := by decide +kernel
theorem dM_write_78 : decode cM_write 78 = .ok (.iload_n 1, 1) := by decide +kernel
theorem dM_write_79 : decode cM_write 79 = .ok (.iaload, 1) := by decide +kernel
theorem dM_write_80 : decode cM_write 80 = .ok (.goto 4, 3) := by decide +kernel
theorem dM_write_83 : decode cM_write 83 = .ok (.iconst 0, 1) := by decide +kernel
theorem dM_write_84 : decode cM_write 84 = .ok (.invokevirtual 92, 3) := by decide +kernel
theorem dM_write_87 : decode cM_write 87 = .ok (.iconst 0, 1) := by decide +kernel
theorem dM_write_88 : decode cM_write 88 = .ok (.ireturn, 1) := by decide +kernel
theorem dM_write_89 : decode cM_write 89 = .ok (.aload_n 0, 1) := by decide +kernel
theorem dM_write_90 : decode cM_write 90 = .ok (.iload_n 1, 1) := by decide +kernel
theorem dM_write_91 : decode cM_write 91 = .ok (.invokevirtual 67, 3) := by decide +kernel
theorem dM_write_94 : decode cM_write 94 = .ok (.istore_n 3, 1) := by decide +kernel
theorem dM_write_95 : decode cM_write 95 = .ok (.iload_n 3, 1) := by decide +kernel
theorem dM_write_96 : decode cM_write 96 = .ok (.sipush 999, 3) := by decide +kernel
theorem dM_write_99 : decode cM_write 99 = .ok (.if_icmp .gt 10, 3) := by decide +kernel
theorem dM_write_102 : decode cM_write 102 = .ok (.iload_n 3, 1) := by decide +kernel
theorem dM_write_103 : decode cM_write 103 = .ok (.sipush (-999), 3) := by decide +kernel
theorem dM_write_106 : decode cM_write 106 = .ok (.if_icmp .ge 6, 3) := by decide +kernel
theorem dM_write_109 : decode cM_write 109 = .ok (.bipush 42, 2) := by decide +kernel
theorem dM_write_111 : decode cM_write 111 = .ok (.ireturn, 1) := by decide +kernel
theorem dM_write_112 : decode cM_write 112 = .ok (.aload_n 0, 1) := by decide +kernel
theorem dM_write_113 : decode cM_write 113 = .ok (.getfield 55, 3) := by decide +kernel
theorem dM_write_116 : decode cM_write 116 = .ok (.iconst 1, 1) := by decide +kernel
theorem dM_write_117 : decode cM_write 117 = .ok (.if_icmp .ne 13, 3) := by decide +kernel
theorem dM_write_120 : decode cM_write 120 = .ok (.iload_n 3, 1) := by decide +kernel
theorem dM_write_121 : decode cM_write 121 = .ok (.iconst 3, 1) := by decide +kernel
theorem dM_write_122 : decode cM_write 122 = .ok (.irem, 1) := by decide +kernel
theorem dM_write_123 : decode cM_write 123 = .ok (.iconst 3, 1) := by decide +kernel
theorem dM_write_124 : decode cM_write 124 = .ok (.iadd, 1) := by decide +kernel
theorem dM_write_125 : decode cM_write 125 = .ok (.iconst 3, 1) := by decide +kernel
theorem dM_write_126 : decode cM_write 126 = .ok (.irem, 1) := by decide +kernel
theorem dM_write_127 : decode cM_write 127 = .ok (.goto 4, 3) := by decide +kernel
theorem dM_write_130 : decode cM_write 130 = .ok (.iconst 0, 1) := by decide +kernel
theorem dM_write_131 : decode cM_write 131 = .ok (.istore 4, 2) := by decide +kernel
theorem dM_write_133 : decode cM_write 133 = .ok (.iconst 0, 1) := by decide +kernel
theorem dM_write_134 : decode cM_write 134 = .ok (.istore 5, 2) := by decide +kernel
theorem dM_write_136 : decode cM_write 136 = .ok (.iload 5, 2) := by decide +kernel
theorem dM_write_138 : decode cM_write 138 = .ok (.iload 4, 2) := by decide +kernel
theorem dM_write_140 : decode cM_write 140 = .ok (.if_icmp .gt 45, 3) := by decide +kernel
theorem dM_write_143 : decode cM_write 143 = .ok (.aload_n 0, 1) := by decide +kernel
theorem dM_write_144 : decode cM_write 144 = .ok (.iload 5, 2) := by decide +kernel
theorem dM_write_146 : decode cM_write 146 = .ok (.aload_n 0, 1) := by decide +kernel
theorem dM_write_147 : decode cM_write 147 = .ok (.getfield 26, 3) := by decide +kernel
theorem dM_write_150 : decode cM_write 150 = .ok (.iload_n 1, 1) := by decide +kernel
theorem dM_write_151 : decode cM_write 151 = .ok (.iaload, 1) := by decide +kernel
theorem dM_write_152 : decode cM_write 152 = .ok (.if_icmp .ge 22, 3) := by decide +kernel
theorem dM_write_155 : decode cM_write 155 = .ok (.bipush 48, 2) := by decide +kernel
theorem dM_write_157 : decode cM_write 157 = .ok (.aload_n 0, 1) := by decide +kernel
theorem dM_write_158 : decode cM_write 158 = .ok (.getfield 23, 3) := by decide +kernel
theorem dM_write_161 : decode cM_write 161 = .ok (.sipush 2600, 3) := by decide +kernel
theorem dM_write_164 : decode cM_write 164 = .ok (.iload_n 1, 1) := by decide +kernel
theorem dM_write_165 : decode cM_write 165 = .ok (.imul, 1) := by decide +kernel
theorem dM_write_166 : decode cM_write 166 = .ok (.iload 5, 2) := by decide +kernel
theorem dM_write_168 : decode cM_write 168 = .ok (.iadd, 1) := by decide +kernel
theorem dM_write_169 : decode cM_write 169 = .ok (.iaload, 1) := by decide +kernel
theorem dM_write_170 : decode cM_write 170 = .ok (.iadd, 1) := by decide +kernel
theorem dM_write_171 : decode cM_write 171 = .ok (.goto 5, 3) := by decide +kernel
theorem dM_write_174 : decode cM_write 174 = .ok (.bipush 48, 2) := by decide +kernel
theorem dM_write_176 : decode cM_write 176 = .ok (.invokevirtual 89, 3) := by decide +kernel
theorem dM_write_179 : decode cM_write 179 = .ok (.iinc 5 1, 3) := by decide +kernel
theorem dM_write_182 : decode cM_write 182 = .ok (.goto (-46), 3) := by decide +kernel
theorem dM_write_185 : decode cM_write 185 = .ok (.aload_n 0, 1) := by decide +kernel
theorem dM_write_186 : decode cM_write 186 = .ok (.getfield 26, 3) := by decide +kernel
theorem dM_write_189 : decode cM_write 189 = .ok (.iload_n 1, 1) := by decide +kernel
theorem dM_write_190 : decode cM_write 190 = .ok (.iaload, 1) := by decide +kernel
theorem dM_write_191 : decode cM_write 191 = .ok (.iload 4, 2) := by decide +kernel
theorem dM_write_193 : decode cM_write 193 = .ok (.iconst 1, 1) := by decide +kernel
theorem dM_write_194 : decode cM_write 194 = .ok (.iadd, 1) := by decide +kernel
theorem dM_write_195 : decode cM_write 195 = .ok (.if_icmp .le 9, 3) := by decide +kernel
theorem dM_write_198 : decode cM_write 198 = .ok (.aload_n 0, 1) := by decide +kernel
theorem dM_write_199 : decode cM_write 199 = .ok (.bipush 46, 2) := by decide +kernel
theorem dM_write_201 : decode cM_write 201 = .ok (.invokevirtual 89, 3) := by decide +kernel
theorem dM_write_204 : decode cM_write 204 = .ok (.iload 4, 2) := by decide +kernel
theorem dM_write_206 : decode cM_write 206 = .ok (.iconst 1, 1) := by decide +kernel
theorem dM_write_207 : decode cM_write 207 = .ok (.iadd, 1) := by decide +kernel
theorem dM_write_208 : decode cM_write 208 = .ok (.istore 5, 2) := by decide +kernel
theorem dM_write_210 : decode cM_write 210 = .ok (.iload 5, 2) := by decide +kernel
theorem dM_write_212 : decode cM_write 212 = .ok (.aload_n 0, 1) := by decide +kernel
theorem dM_write_213 : decode cM_write 213 = .ok (.getfield 26, 3) := by decide +kernel
theorem dM_write_216 : decode cM_write 216 = .ok (.iload_n 1, 1) := by decide +kernel
theorem dM_write_217 : decode cM_write 217 = .ok (.iaload, 1) := by decide +kernel
theorem dM_write_218 : decode cM_write 218 = .ok (.if_icmp .ge 29, 3) := by decide +kernel
theorem dM_write_221 : decode cM_write 221 = .ok (.aload_n 0, 1) := by decide +kernel
theorem dM_write_222 : decode cM_write 222 = .ok (.bipush 48, 2) := by decide +kernel
theorem dM_write_224 : decode cM_write 224 = .ok (.aload_n 0, 1) := by decide +kernel
theorem dM_write_225 : decode cM_write 225 = .ok (.getfield 23, 3) := by decide +kernel
theorem dM_write_228 : decode cM_write 228 = .ok (.sipush 2600, 3) := by decide +kernel
theorem dM_write_231 : decode cM_write 231 = .ok (.iload_n 1, 1) := by decide +kernel
theorem dM_write_232 : decode cM_write 232 = .ok (.imul, 1) := by decide +kernel
theorem dM_write_233 : decode cM_write 233 = .ok (.iload 5, 2) := by decide +kernel
theorem dM_write_235 : decode cM_write 235 = .ok (.iadd, 1) := by decide +kernel
theorem dM_write_236 : decode cM_write 236 = .ok (.iaload, 1) := by decide +kernel
theorem dM_write_237 : decode cM_write 237 = .ok (.iadd, 1) := by decide +kernel
theorem dM_write_238 : decode cM_write 238 = .ok (.invokevirtual 89, 3) := by decide +kernel
theorem dM_write_241 : decode cM_write 241 = .ok (.iinc 5 1, 3) := by decide +kernel
theorem dM_write_244 : decode cM_write 244 = .ok (.goto (-34), 3) := by decide +kernel
theorem dM_write_247 : decode cM_write 247 = .ok (.iload_n 3, 1) := by decide +kernel
theorem dM_write_248 : decode cM_write 248 = .ok (.iload 4, 2) := by decide +kernel
theorem dM_write_250 : decode cM_write 250 = .ok (.isub, 1) := by decide +kernel
theorem dM_write_251 : decode cM_write 251 = .ok (.istore 5, 2) := by decide +kernel
theorem dM_write_253 : decode cM_write 253 = .ok (.iload 5, 2) := by decide +kernel
theorem dM_write_255 : decode cM_write 255 = .ok (.ifCond .ne 5, 3) := by decide +kernel
theorem dM_write_258 : decode cM_write 258 = .ok (.iconst 0, 1) := by decide +kernel
theorem dM_write_259 : decode cM_write 259 = .ok (.ireturn, 1) := by decide +kernel
theorem dM_write_260 : decode cM_write 260 = .ok (.aload_n 0, 1) := by decide +kernel
theorem dM_write_261 : decode cM_write 261 = .ok (.bipush 69, 2) := by decide +kernel
theorem dM_write_263 : decode cM_write 263 = .ok (.invokevirtual 89, 3) := by decide +kernel
theorem dM_write_266 : decode cM_write 266 = .ok (.aload_n 0, 1) := by decide +kernel
theorem dM_write_267 : decode cM_write 267 = .ok (.iload 5, 2) := by decide +kernel
theorem dM_write_269 : decode cM_write 269 = .ok (.ifCond .ge 8, 3) := by decide +kernel
theorem dM_write_272 : decode cM_write 272 = .ok (.bipush 45, 2) := by decide +kernel
theorem dM_write_274 : decode cM_write 274 = .ok (.goto 5, 3) := by decide +kernel
theorem dM_write_277 : decode cM_write 277 = .ok (.bipush 43, 2) := by decide +kernel
theorem dM_write_279 : decode cM_write 279 = .ok (.invokevirtual 89, 3) := by decide +kernel
theorem dM_write_282 : decode cM_write 282 = .ok (.iload 5, 2) := by decide +kernel
theorem dM_write_284 : decode cM_write 284 = .ok (.ifCond .ge 9, 3) := by decide +kernel
theorem dM_write_287 : decode cM_write 287 = .ok (.iload 5, 2) := by decide +kernel
theorem dM_write_289 : decode cM_write 289 = .ok (.ineg, 1) := by decide +kernel
theorem dM_write_290 : decode cM_write 290 = .ok (.goto 5, 3) := by decide +kernel
theorem dM_write_293 : decode cM_write 293 = .ok (.iload 5, 2) := by decide +kernel
theorem dM_write_295 : decode cM_write 295 = .ok (.istore 5, 2) := by decide +kernel
theorem dM_write_297 : decode cM_write 297 = .ok (.iload 5, 2) := by decide +kernel
theorem dM_write_299 : decode cM_write 299 = .ok (.bipush 99, 2) := by decide +kernel
theorem dM_write_301 : decode cM_write 301 = .ok (.if_icmp .le 15, 3) := by decide +kernel
theorem dM_write_304 : decode cM_write 304 = .ok (.aload_n 0, 1) := by decide +kernel
theorem dM_write_305 : decode cM_write 305 = .ok (.bipush 48, 2) := by decide +kernel
theorem dM_write_307 : decode cM_write 307 = .ok (.iload 5, 2) := by decide +kernel
theorem dM_write_309 : decode cM_write 309 = .ok (.bipush 100, 2) := by decide +kernel
theorem dM_write_311 : decode cM_write 311 = .ok (.idiv, 1) := by decide +kernel
theorem dM_write_312 : decode cM_write 312 = .ok (.iadd, 1) := by decide +kernel
theorem dM_write_313 : decode cM_write 313 = .ok (.invokevirtual 89, 3) := by decide +kernel
theorem dM_write_316 : decode cM_write 316 = .ok (.iload 5, 2) := by decide +kernel
theorem dM_write_318 : decode cM_write 318 = .ok (.bipush 9, 2) := by decide +kernel
theorem dM_write_320 : decode cM_write 320 = .ok (.if_icmp .le 18, 3) := by decide +kernel
theorem dM_write_323 : decode cM_write 323 = .ok (.aload_n 0, 1) := by decide +kernel
theorem dM_write_324 : decode cM_write 324 = .ok (.bipush 48, 2) := by decide +kernel
theorem dM_write_326 : decode cM_write 326 = .ok (.iload 5, 2) := by decide +kernel
theorem dM_write_328 : decode cM_write 328 = .ok (.bipush 10, 2) := by decide +kernel
theorem dM_write_330 : decode cM_write 330 = .ok (.idiv, 1) := by decide +kernel
theorem dM_write_331 : decode cM_write 331 = .ok (.bipush 10, 2) := by decide +kernel
theorem dM_write_333 : decode cM_write 333 = .ok (.irem, 1) := by decide +kernel
theorem dM_write_334 : decode cM_write 334 = .ok (.iadd, 1) := by decide +kernel
theorem dM_write_335 : decode cM_write 335 = .ok (.invokevirtual 89, 3) := by decide +kernel
theorem dM_write_338 : decode cM_write 338 = .ok (.aload_n 0, 1) := by decide +kernel
theorem dM_write_339 : decode cM_write 339 = .ok (.bipush 48, 2) := by decide +kernel
theorem dM_write_341 : decode cM_write 341 = .ok (.iload 5, 2) := by decide +kernel
theorem dM_write_343 : decode cM_write 343 = .ok (.bipush 10, 2) := by decide +kernel
theorem dM_write_345 : decode cM_write 345 = .ok (.irem, 1) := by decide +kernel
theorem dM_write_346 : decode cM_write 346 = .ok (.iadd, 1) := by decide +kernel
theorem dM_write_347 : decode cM_write 347 = .ok (.invokevirtual 89, 3) := by decide +kernel
theorem dM_write_350 : decode cM_write 350 = .ok (.iconst 0, 1) := by decide +kernel
theorem dM_write_351 : decode cM_write 351 = .ok (.ireturn, 1) := by decide +kernel
set_option maxHeartbeats 4000000 in
set_option maxRecDepth 100000 in
theorem b_M_multiply_92 {X : wk_X} {G : cGt} (hI : wd_inj (vC G)) (C : wk_C X (vC G) cM_multiply RM 8 2 44) {k77 : Int32 → Int32 → Int32 → Int32 → Int32 → Hp → Option (Unit × Hp)} (hk77 : ∀ (v1 : Int32) (v2 : Int32) (v3 : Int32) (v4 : Int32) (v5 : Int32) (h : Hp) (q : Unit × Hp), k77 v1 v2 v3 v4 v5 h = some q → wk_Q X (vC G) none q.2 none → WW X (vC G) h 77 [(0, .ref (cad G 46)), (1, .int v1), (2, .int v2), (3, .int v3), (4, .int v4), (5, .int v5)] []) : ∀ (n : Nat) {v1 : Int32} {v2 : Int32} {v3 : Int32} {v4 : Int32} {v5 : Int32} {v6 : Int32} {h : Hp} {q : Unit × Hp}  (hf : f_M_multiply_92 k77 n v1 v2 v3 v4 v5 v6 h = some q) (hq : wk_Q X (vC G) none q.2 none), WW X (vC G) h 92 [(0, .ref (cad G 46)), (1, .int v1), (2, .int v2), (3, .int v3), (4, .int v4), (5, .int v5), (6, .int v6)] [] := by
  intro n
  induction n with
  | zero =>
    intros
    rename_i hf _
    cases hf
  | succ n ih =>
    intro v1 v2 v3 v4 v5 v6 h q hf hq
    rw [f_M_multiply_92] at hf
    refine wk_iload C dM_multiply_92 rfl ?_
    refine wk_if_lt (tgt := 198) C dM_multiply_94 rfl hf (fun c_94 hf => ?_) (fun c_94 hf => ?_)
    · refine wk_iinc C dM_multiply_198 rfl kiconst_m1 (by decide) ?_
      refine wk_goto (tgt := 77) C dM_multiply_201 rfl ?_
      exact wk_go (hk77 _ _ _ _ _ _ _ hf hq) (And.intro rfl (And.intro rfl (And.intro rfl (And.intro rfl (And.intro rfl (And.intro rfl trivial))))))
    · refine wk_aload_n C 0 dM_multiply_97 rfl rfl ?_
      refine gf_M_23 C dM_multiply_98 ?_
      refine wk_sipush C dM_multiply_101 ksipush_2600 ?_
      refine wk_iload_n C 3 dM_multiply_104 rfl rfl ?_
      refine wk_imul C dM_multiply_105 ?_
      refine wk_iload C dM_multiply_106 rfl ?_
      refine wk_iadd C dM_multiply_108 ?_
      refine wk_iload C dM_multiply_109 rfl ?_
      refine wk_iadd C dM_multiply_111 ?_
      refine wk_iconst C dM_multiply_112 kiconst_1 ?_
      refine wk_iadd C dM_multiply_113 ?_
      obtain ⟨c_114, hf⟩ := chk_some hf
      refine al_50 C c_114 dM_multiply_114 ?_
      refine wk_aload_n C 0 dM_multiply_115 rfl rfl ?_
      refine gf_M_23 C dM_multiply_116 ?_
      refine wk_sipush C dM_multiply_119 ksipush_2600 ?_
      refine wk_iload_n C 1 dM_multiply_122 rfl rfl ?_
      refine wk_imul C dM_multiply_123 ?_
      refine wk_iload C dM_multiply_124 rfl ?_
      refine wk_iadd C dM_multiply_126 ?_
      obtain ⟨c_127, hf⟩ := chk_some hf
      refine al_50 C c_127 dM_multiply_127 ?_
      refine wk_aload_n C 0 dM_multiply_128 rfl rfl ?_
      refine gf_M_23 C dM_multiply_129 ?_
      refine wk_sipush C dM_multiply_132 ksipush_2600 ?_
      refine wk_iload_n C 2 dM_multiply_135 rfl rfl ?_
      refine wk_imul C dM_multiply_136 ?_
      refine wk_iload C dM_multiply_137 rfl ?_
      refine wk_iadd C dM_multiply_139 ?_
      obtain ⟨c_140, hf⟩ := chk_some hf
      refine al_50 C c_140 dM_multiply_140 ?_
      refine wk_imul C dM_multiply_141 ?_
      refine wk_iadd C dM_multiply_142 ?_
      refine wk_istore C dM_multiply_143 (by decide) ?_
      refine wk_aload_n C 0 dM_multiply_145 rfl rfl ?_
      refine gf_M_23 C dM_multiply_146 ?_
      refine wk_sipush C dM_multiply_149 ksipush_2600 ?_
      refine wk_iload_n C 3 dM_multiply_152 rfl rfl ?_
      refine wk_imul C dM_multiply_153 ?_
      refine wk_iload C dM_multiply_154 rfl ?_
      refine wk_iadd C dM_multiply_156 ?_
      refine wk_iload C dM_multiply_157 rfl ?_
      refine wk_iadd C dM_multiply_159 ?_
      refine wk_iconst C dM_multiply_160 kiconst_1 ?_
      refine wk_iadd C dM_multiply_161 ?_
      refine wk_iload C dM_multiply_162 rfl ?_
      refine wk_bipush C dM_multiply_164 kbipush_10 ?_
      refine wk_irem C dM_multiply_166 (by decide) ?_
      obtain ⟨c_167, hf⟩ := chk_some hf
      refine as_50 C c_167 dM_multiply_167 ?_
      refine wk_aload_n C 0 dM_multiply_168 rfl rfl ?_
      refine gf_M_23 C dM_multiply_169 ?_
      refine wk_sipush C dM_multiply_172 ksipush_2600 ?_
      refine wk_iload_n C 3 dM_multiply_175 rfl rfl ?_
      refine wk_imul C dM_multiply_176 ?_
      refine wk_iload C dM_multiply_177 rfl ?_
      refine wk_iadd C dM_multiply_179 ?_
      refine wk_iload C dM_multiply_180 rfl ?_
      refine wk_iadd C dM_multiply_182 ?_
      refine wk_dup2 C dM_multiply_183 rfl rfl ?_
      obtain ⟨c_184, hf⟩ := chk_some hf
      refine al_50 C c_184 dM_multiply_184 ?_
      refine wk_iload C dM_multiply_185 rfl ?_
      refine wk_bipush C dM_multiply_187 kbipush_10 ?_
      refine wk_idiv C dM_multiply_189 (by decide) ?_
      refine wk_iadd C dM_multiply_190 ?_
      obtain ⟨c_191, hf⟩ := chk_some hf
      refine as_50 C c_191 dM_multiply_191 ?_
      refine wk_iinc C dM_multiply_192 rfl kiconst_m1 (by decide) ?_
      refine wk_goto (tgt := 92) C dM_multiply_195 rfl ?_
      exact wk_go (ih hf hq) (And.intro rfl (And.intro rfl (And.intro rfl (And.intro rfl (And.intro rfl (And.intro rfl (And.intro rfl trivial)))))))
set_option maxHeartbeats 4000000 in
set_option maxRecDepth 100000 in
theorem b_M_multiply_77 {X : wk_X} {G : cGt} (hI : wd_inj (vC G)) (C : wk_C X (vC G) cM_multiply RM 8 2 44) : ∀ (n : Nat) {v1 : Int32} {v2 : Int32} {v3 : Int32} {v4 : Int32} {v5 : Int32} {h : Hp} {q : Unit × Hp}  (hf : f_M_multiply_77 n v1 v2 v3 v4 v5 h = some q) (hq : wk_Q X (vC G) none q.2 none), WW X (vC G) h 77 [(0, .ref (cad G 46)), (1, .int v1), (2, .int v2), (3, .int v3), (4, .int v4), (5, .int v5)] [] := by
  intro n
  induction n with
  | zero =>
    intros
    rename_i hf _
    cases hf
  | succ n ih =>
    intro v1 v2 v3 v4 v5 h q hf hq
    rw [f_M_multiply_77] at hf
    refine wk_iload C dM_multiply_77 rfl ?_
    refine wk_if_lt (tgt := 204) C dM_multiply_79 rfl hf (fun c_79 hf => ?_) (fun c_79 hf => ?_)
    · refine wk_aload_n C 0 dM_multiply_204 rfl rfl ?_
      refine gf_M_32 C dM_multiply_205 ?_
      refine wk_iload_n C 3 dM_multiply_208 rfl rfl ?_
      refine wk_aload_n C 0 dM_multiply_209 rfl rfl ?_
      refine gf_M_32 C dM_multiply_210 ?_
      refine wk_iload_n C 1 dM_multiply_213 rfl rfl ?_
      obtain ⟨c_214, hf⟩ := chk_some hf
      refine al_53 C c_214 dM_multiply_214 ?_
      refine wk_aload_n C 0 dM_multiply_215 rfl rfl ?_
      refine gf_M_32 C dM_multiply_216 ?_
      refine wk_iload_n C 2 dM_multiply_219 rfl rfl ?_
      obtain ⟨c_220, hf⟩ := chk_some hf
      refine al_53 C c_220 dM_multiply_220 ?_
      refine wk_imul C dM_multiply_221 ?_
      obtain ⟨c_222, hf⟩ := chk_some hf
      refine as_53 C c_222 dM_multiply_222 ?_
      refine wk_aload_n C 0 dM_multiply_223 rfl rfl ?_
      refine gf_M_26 C dM_multiply_224 ?_
      refine wk_iload_n C 3 dM_multiply_227 rfl rfl ?_
      refine wk_iload C dM_multiply_228 rfl ?_
      obtain ⟨c_230, hf⟩ := chk_some hf
      refine as_51 C c_230 dM_multiply_230 ?_
      refine wk_aload_n C 0 dM_multiply_231 rfl rfl ?_
      refine gf_M_29 C dM_multiply_232 ?_
      refine wk_iload_n C 3 dM_multiply_235 rfl rfl ?_
      refine wk_aload_n C 0 dM_multiply_236 rfl rfl ?_
      refine gf_M_29 C dM_multiply_237 ?_
      refine wk_iload_n C 1 dM_multiply_240 rfl rfl ?_
      obtain ⟨c_241, hf⟩ := chk_some hf
      refine al_52 C c_241 dM_multiply_241 ?_
      refine wk_aload_n C 0 dM_multiply_242 rfl rfl ?_
      refine gf_M_29 C dM_multiply_243 ?_
      refine wk_iload_n C 2 dM_multiply_246 rfl rfl ?_
      obtain ⟨c_247, hf⟩ := chk_some hf
      refine al_52 C c_247 dM_multiply_247 ?_
      refine wk_iadd C dM_multiply_248 ?_
      obtain ⟨c_249, hf⟩ := chk_some hf
      refine as_52 C c_249 dM_multiply_249 ?_
      refine wk_aload_n C 0 dM_multiply_250 rfl rfl ?_
      refine wk_iload_n C 3 dM_multiply_251 rfl rfl ?_
      obtain ⟨r252, h252, e_252, hf⟩ := bd_some hf
      refine wk_callV (As := [.int v3]) (rest := []) C lw_good cw_M_64 wi_M_settle (m_M_settle hI e_252) lz_46 (he_46 G ((up2 (up2 (up2 h 53 (Int32.toNatClampNeg v3) ((h 53 (Int32.toNatClampNeg v1)) * (h 53 (Int32.toNatClampNeg v2)))) 51 (Int32.toNatClampNeg v3) v4) 52 (Int32.toNatClampNeg v3) (((up2 (up2 h 53 (Int32.toNatClampNeg v3) ((h 53 (Int32.toNatClampNeg v1)) * (h 53 (Int32.toNatClampNeg v2)))) 51 (Int32.toNatClampNeg v3) v4) 52 (Int32.toNatClampNeg v1)) + ((up2 (up2 h 53 (Int32.toNatClampNeg v3) ((h 53 (Int32.toNatClampNeg v1)) * (h 53 (Int32.toNatClampNeg v2)))) 51 (Int32.toNatClampNeg v3) v4) 52 (Int32.toNatClampNeg v2)))) 46)) rfl rfl rfl (Nat.le_of_ble_eq_true rfl) (by decide) dM_multiply_252 ?_
      cases hf
      exact wk_return C hq dM_multiply_255
    · refine wk_aload_n C 0 dM_multiply_82 rfl rfl ?_
      refine gf_M_26 C dM_multiply_83 ?_
      refine wk_iload_n C 2 dM_multiply_86 rfl rfl ?_
      obtain ⟨c_87, hf⟩ := chk_some hf
      refine al_51 C c_87 dM_multiply_87 ?_
      refine wk_iconst C dM_multiply_88 kiconst_1 ?_
      refine wk_isub C dM_multiply_89 ?_
      refine wk_istore C dM_multiply_90 (by decide) ?_
      exact wk_go (b_M_multiply_92 hI C (fun _ _ _ _ _ _ _ hf hq => ih hf hq) fuel hf hq) (And.intro rfl (And.intro rfl (And.intro rfl (And.intro rfl (And.intro rfl (And.intro rfl (And.intro rfl trivial)))))))
set_option maxHeartbeats 4000000 in
set_option maxRecDepth 100000 in
theorem b_M_multiply_40 {X : wk_X} {G : cGt} (hI : wd_inj (vC G)) (C : wk_C X (vC G) cM_multiply RM 8 2 44) : ∀ (n : Nat) {v1 : Int32} {v2 : Int32} {v3 : Int32} {v4 : Int32} {v5 : Int32} {h : Hp} {q : Unit × Hp}  (hf : f_M_multiply_40 n v1 v2 v3 v4 v5 h = some q) (hq : wk_Q X (vC G) none q.2 none), WW X (vC G) h 40 [(0, .ref (cad G 46)), (1, .int v1), (2, .int v2), (3, .int v3), (4, .int v4), (5, .int v5)] [] := by
  intro n
  induction n with
  | zero =>
    intros
    rename_i hf _
    cases hf
  | succ n ih =>
    intro v1 v2 v3 v4 v5 h q hf hq
    rw [f_M_multiply_40] at hf
    refine wk_iload C dM_multiply_40 rfl ?_
    refine wk_iload C dM_multiply_42 rfl ?_
    refine wk_icmp_ge (tgt := 67) C dM_multiply_44 rfl hf (fun c_44 hf => ?_) (fun c_44 hf => ?_)
    · refine wk_aload_n C 0 dM_multiply_67 rfl rfl ?_
      refine gf_M_26 C dM_multiply_68 ?_
      refine wk_iload_n C 1 dM_multiply_71 rfl rfl ?_
      obtain ⟨c_72, hf⟩ := chk_some hf
      refine al_51 C c_72 dM_multiply_72 ?_
      refine wk_iconst C dM_multiply_73 kiconst_1 ?_
      refine wk_isub C dM_multiply_74 ?_
      refine wk_istore C dM_multiply_75 (by decide) ?_
      exact wk_go (b_M_multiply_77 hI C fuel hf hq) (And.intro rfl (And.intro rfl (And.intro rfl (And.intro rfl (And.intro rfl (And.intro rfl trivial))))))
    · refine wk_aload_n C 0 dM_multiply_47 rfl rfl ?_
      refine gf_M_23 C dM_multiply_48 ?_
      refine wk_sipush C dM_multiply_51 ksipush_2600 ?_
      refine wk_iload_n C 3 dM_multiply_54 rfl rfl ?_
      refine wk_imul C dM_multiply_55 ?_
      refine wk_iload C dM_multiply_56 rfl ?_
      refine wk_iadd C dM_multiply_58 ?_
      refine wk_iconst C dM_multiply_59 kiconst_0 ?_
      obtain ⟨c_60, hf⟩ := chk_some hf
      refine as_50 C c_60 dM_multiply_60 ?_
      refine wk_iinc C dM_multiply_61 rfl kiconst_1 (by decide) ?_
      refine wk_goto (tgt := 40) C dM_multiply_64 rfl ?_
      exact wk_go (ih hf hq) (And.intro rfl (And.intro rfl (And.intro rfl (And.intro rfl (And.intro rfl (And.intro rfl trivial))))))
set_option maxHeartbeats 4000000 in
set_option maxRecDepth 100000 in
theorem b_M_multiply {X : wk_X} {G : cGt} (hI : wd_inj (vC G)) (C : wk_C X (vC G) cM_multiply RM 8 2 44) {v1 : Int32} {v2 : Int32} {v3 : Int32} {h : Hp} {q : Unit × Hp}  (hf : f_M_multiply v1 v2 v3 h = some q) (hq : wk_Q X (vC G) none q.2 none) : WW X (vC G) h 0 [(0, .ref (cad G 46)), (1, .int v1), (2, .int v2), (3, .int v3)] [] := by
  unfold f_M_multiply at hf
  refine wk_aload_n C 0 dM_multiply_0 rfl rfl ?_
  refine gf_M_32 C dM_multiply_1 ?_
  refine wk_iload_n C 1 dM_multiply_4 rfl rfl ?_
  obtain ⟨c_5, hf⟩ := chk_some hf
  refine al_53 C c_5 dM_multiply_5 ?_
  refine wk_aload_n C 0 dM_multiply_6 rfl rfl ?_
  refine gf_M_32 C dM_multiply_7 ?_
  refine wk_iload_n C 2 dM_multiply_10 rfl rfl ?_
  obtain ⟨c_11, hf⟩ := chk_some hf
  refine al_53 C c_11 dM_multiply_11 ?_
  refine wk_imul C dM_multiply_12 ?_
  refine wk_if_ne (tgt := 22) C dM_multiply_13 rfl hf (fun c_13 hf => ?_) (fun c_13 hf => ?_)
  · refine wk_aload_n C 0 dM_multiply_22 rfl rfl ?_
    refine gf_M_26 C dM_multiply_23 ?_
    refine wk_iload_n C 1 dM_multiply_26 rfl rfl ?_
    obtain ⟨c_27, hf⟩ := chk_some hf
    refine al_51 C c_27 dM_multiply_27 ?_
    refine wk_aload_n C 0 dM_multiply_28 rfl rfl ?_
    refine gf_M_26 C dM_multiply_29 ?_
    refine wk_iload_n C 2 dM_multiply_32 rfl rfl ?_
    obtain ⟨c_33, hf⟩ := chk_some hf
    refine al_51 C c_33 dM_multiply_33 ?_
    refine wk_iadd C dM_multiply_34 ?_
    refine wk_istore C dM_multiply_35 (by decide) ?_
    refine wk_iconst C dM_multiply_37 kiconst_0 ?_
    refine wk_istore C dM_multiply_38 (by decide) ?_
    exact wk_go (b_M_multiply_40 hI C fuel hf hq) (And.intro rfl (And.intro rfl (And.intro rfl (And.intro rfl (And.intro rfl (And.intro rfl trivial))))))
  · refine wk_aload_n C 0 dM_multiply_16 rfl rfl ?_
    refine wk_iload_n C 3 dM_multiply_17 rfl rfl ?_
    obtain ⟨r18, h18, e_18, hf⟩ := bd_some hf
    refine wk_callV (As := [.int v3]) (rest := []) C lw_good cw_M_58 wi_M_zero (m_M_zero hI e_18) lz_46 (he_46 G (h 46)) rfl rfl rfl (Nat.le_of_ble_eq_true rfl) (by decide) dM_multiply_18 ?_
    cases hf
    exact wk_return C hq dM_multiply_21
theorem m_M_multiply {l : Launch} {G : cGt} (hI : wd_inj (vC G)) {v1 : Int32} {v2 : Int32} {v3 : Int32} {h h' : Hp} {r : Unit}  (hf : f_M_multiply v1 v2 v3 h = some (r, h')) : wk_M l (vC G) yM_multiply cM_multiply 8 none 2 44 [.ref (cad G 46), .int v1, .int v2, .int v3] h none h' :=
  wk_met hI (by decide +kernel) rfl (Nat.le_of_ble_eq_true rfl) (wk_cat1 rfl) (fun X hX C hq => by subst hX; exact b_M_multiply hI C  hf hq)
set_option maxHeartbeats 4000000 in
set_option maxRecDepth 100000 in
theorem b_M_isEnough_13 {X : wk_X} {G : cGt} (hI : wd_inj (vC G)) (C : wk_C X (vC G) cM_isEnough RM 3 0 0) : ∀ (n : Nat) {v1 : Int32} {v2 : Int32} {h : Hp} {q : Int32 × Hp}  (hf : f_M_isEnough_13 n v1 v2 h = some q) (hq : wk_Q X (vC G) (some (.int q.1)) q.2 (some .boolean)), WW X (vC G) h 13 [(0, .ref (cad G 46)), (1, .int v1), (2, .int v2)] [] := by
  intro n
  induction n with
  | zero =>
    intros
    rename_i hf _
    cases hf
  | succ n ih =>
    intro v1 v2 h q hf hq
    rw [f_M_isEnough_13] at hf
    refine wk_iload_n C 2 dM_isEnough_13 rfl rfl ?_
    refine wk_aload_n C 0 dM_isEnough_14 rfl rfl ?_
    refine gf_M_26 C dM_isEnough_15 ?_
    refine wk_iload_n C 1 dM_isEnough_18 rfl rfl ?_
    obtain ⟨c_19, hf⟩ := chk_some hf
    refine al_51 C c_19 dM_isEnough_19 ?_
    refine wk_icmp_ge (tgt := 81) C dM_isEnough_20 rfl hf (fun c_20 hf => ?_) (fun c_20 hf => ?_)
    · refine wk_iconst C dM_isEnough_81 kiconst_1 ?_
      cases hf
      exact wk_zreturn C hq rfl dM_isEnough_82
    · refine wk_aload_n C 0 dM_isEnough_23 rfl rfl ?_
      refine gf_M_35 C dM_isEnough_24 ?_
      refine wk_iload_n C 2 dM_isEnough_27 rfl rfl ?_
      refine wk_iconst C dM_isEnough_28 kiconst_1 ?_
      refine wk_iadd C dM_isEnough_29 ?_
      obtain ⟨c_30, hf⟩ := chk_some hf
      refine al_54 C c_30 dM_isEnough_30 ?_
      refine wk_aload_n C 0 dM_isEnough_31 rfl rfl ?_
      refine gf_M_23 C dM_isEnough_32 ?_
      refine wk_sipush C dM_isEnough_35 ksipush_2600 ?_
      refine wk_iload_n C 1 dM_isEnough_38 rfl rfl ?_
      refine wk_imul C dM_isEnough_39 ?_
      refine wk_iload_n C 2 dM_isEnough_40 rfl rfl ?_
      refine wk_iadd C dM_isEnough_41 ?_
      obtain ⟨c_42, hf⟩ := chk_some hf
      refine al_50 C c_42 dM_isEnough_42 ?_
      refine wk_icmp_eq (tgt := 75) C dM_isEnough_43 rfl hf (fun c_43 hf => ?_) (fun c_43 hf => ?_)
      · refine wk_iinc C dM_isEnough_75 rfl kiconst_1 (by decide) ?_
        refine wk_goto (tgt := 13) C dM_isEnough_78 rfl ?_
        exact wk_go (ih hf hq) (And.intro rfl (And.intro rfl (And.intro rfl trivial)))
      · refine wk_aload_n C 0 dM_isEnough_46 rfl rfl ?_
        refine gf_M_35 C dM_isEnough_47 ?_
        refine wk_iload_n C 2 dM_isEnough_50 rfl rfl ?_
        refine wk_iconst C dM_isEnough_51 kiconst_1 ?_
        refine wk_iadd C dM_isEnough_52 ?_
        obtain ⟨c_53, hf⟩ := chk_some hf
        refine al_54 C c_53 dM_isEnough_53 ?_
        refine wk_aload_n C 0 dM_isEnough_54 rfl rfl ?_
        refine gf_M_23 C dM_isEnough_55 ?_
        refine wk_sipush C dM_isEnough_58 ksipush_2600 ?_
        refine wk_iload_n C 1 dM_isEnough_61 rfl rfl ?_
        refine wk_imul C dM_isEnough_62 ?_
        refine wk_iload_n C 2 dM_isEnough_63 rfl rfl ?_
        refine wk_iadd C dM_isEnough_64 ?_
        obtain ⟨c_65, hf⟩ := chk_some hf
        refine al_50 C c_65 dM_isEnough_65 ?_
        refine wk_icmp_le (tgt := 73) C dM_isEnough_66 rfl hf (fun c_66 hf => ?_) (fun c_66 hf => ?_)
        · refine wk_iconst C dM_isEnough_73 kiconst_0 ?_
          cases hf
          exact wk_zreturn C hq rfl dM_isEnough_74
        · refine wk_iconst C dM_isEnough_69 kiconst_1 ?_
          refine wk_goto (tgt := 74) C dM_isEnough_70 rfl ?_
          cases hf
          exact wk_zreturn C hq rfl dM_isEnough_74
set_option maxHeartbeats 4000000 in
set_option maxRecDepth 100000 in
theorem b_M_isEnough {X : wk_X} {G : cGt} (hI : wd_inj (vC G)) (C : wk_C X (vC G) cM_isEnough RM 3 0 0) {v1 : Int32} {h : Hp} {q : Int32 × Hp}  (hf : f_M_isEnough v1 h = some q) (hq : wk_Q X (vC G) (some (.int q.1)) q.2 (some .boolean)) : WW X (vC G) h 0 [(0, .ref (cad G 46)), (1, .int v1)] [] := by
  unfold f_M_isEnough at hf
  refine wk_aload_n C 0 dM_isEnough_0 rfl rfl ?_
  refine gf_M_35 C dM_isEnough_1 ?_
  refine wk_iconst C dM_isEnough_4 kiconst_0 ?_
  obtain ⟨c_5, hf⟩ := chk_some hf
  refine al_54 C c_5 dM_isEnough_5 ?_
  refine wk_if_le (tgt := 11) C dM_isEnough_6 rfl hf (fun c_6 hf => ?_) (fun c_6 hf => ?_)
  · refine wk_iconst C dM_isEnough_11 kiconst_0 ?_
    refine wk_istore_n C 2 dM_isEnough_12 rfl (by decide) ?_
    exact wk_go (b_M_isEnough_13 hI C fuel hf hq) (And.intro rfl (And.intro rfl (And.intro rfl trivial)))
  · refine wk_iconst C dM_isEnough_9 kiconst_1 ?_
    cases hf
    exact wk_zreturn C hq rfl dM_isEnough_10
theorem m_M_isEnough {l : Launch} {G : cGt} (hI : wd_inj (vC G)) {v1 : Int32} {h h' : Hp} {r : Int32}  (hf : f_M_isEnough v1 h = some (r, h')) : wk_M l (vC G) yM_isEnough cM_isEnough 3 (some .boolean) 0 0 [.ref (cad G 46), .int v1] h (some (.int r)) h' :=
  wk_met hI (by decide +kernel) rfl (Nat.le_of_ble_eq_true rfl) (wk_cat1 rfl) (fun X hX C hq => by subst hX; exact b_M_isEnough hI C  hf hq)
set_option maxHeartbeats 4000000 in
set_option maxRecDepth 100000 in
theorem b_M_divide_257 {X : wk_X} {G : cGt} (hI : wd_inj (vC G)) (C : wk_C X (vC G) cM_divide RM 11 1 22) {k50 : Int32 → Int32 → Int32 → Int32 → Int32 → Int32 → Hp → Option (Unit × Hp)} (hk50 : ∀ (v1 : Int32) (v2 : Int32) (v3 : Int32) (v4 : Int32) (v5 : Int32) (v6 : Int32) (h : Hp) (q : Unit × Hp), k50 v1 v2 v3 v4 v5 v6 h = some q → wk_Q X (vC G) none q.2 none → WW X (vC G) h 50 [(0, .ref (cad G 46)), (1, .int v1), (2, .int v2), (3, .int v3), (4, .int v4), (5, .int v5), (6, .int v6)] []) {v1 : Int32} {v2 : Int32} {v3 : Int32} {v4 : Int32} {v5 : Int32} {v6 : Int32} {v7 : Int32} {h : Hp} {q : Unit × Hp}  (hf : f_M_divide_257 k50 v1 v2 v3 v4 v5 v6 v7 h = some q) (hq : wk_Q X (vC G) none q.2 none) : WW X (vC G) h 257 [(0, .ref (cad G 46)), (1, .int v1), (2, .int v2), (3, .int v3), (4, .int v4), (5, .int v5), (6, .int v6), (7, .int v7)] [] := by
  unfold f_M_divide_257 at hf
  refine wk_aload_n C 0 dM_divide_257 rfl rfl ?_
  refine gf_M_23 C dM_divide_258 ?_
  refine wk_sipush C dM_divide_261 ksipush_2600 ?_
  refine wk_iload C dM_divide_264 rfl ?_
  refine wk_imul C dM_divide_266 ?_
  refine wk_iload C dM_divide_267 rfl ?_
  refine wk_iadd C dM_divide_269 ?_
  refine wk_iload C dM_divide_270 rfl ?_
  obtain ⟨c_272, hf⟩ := chk_some hf
  refine as_50 C c_272 dM_divide_272 ?_
  refine wk_iinc C dM_divide_273 rfl kiconst_1 (by decide) ?_
  refine wk_goto (tgt := 50) C dM_divide_276 rfl ?_
  exact wk_go (hk50 _ _ _ _ _ _ _ _ hf hq) (And.intro rfl (And.intro rfl (And.intro rfl (And.intro rfl (And.intro rfl (And.intro rfl (And.intro rfl trivial)))))))
set_option maxHeartbeats 4000000 in
set_option maxRecDepth 100000 in
theorem b_M_divide_208 {X : wk_X} {G : cGt} (hI : wd_inj (vC G)) (C : wk_C X (vC G) cM_divide RM 11 1 22) {k156 : Int32 → Int32 → Int32 → Int32 → Int32 → Int32 → Int32 → Int32 → Int32 → Hp → Option (Unit × Hp)} (hk156 : ∀ (v1 : Int32) (v2 : Int32) (v3 : Int32) (v4 : Int32) (v5 : Int32) (v6 : Int32) (v7 : Int32) (v8 : Int32) (v9 : Int32) (h : Hp) (q : Unit × Hp), k156 v1 v2 v3 v4 v5 v6 v7 v8 v9 h = some q → wk_Q X (vC G) none q.2 none → WW X (vC G) h 156 [(0, .ref (cad G 46)), (1, .int v1), (2, .int v2), (3, .int v3), (4, .int v4), (5, .int v5), (6, .int v6), (7, .int v7), (8, .int v8), (9, .int v9)] []) {v1 : Int32} {v2 : Int32} {v3 : Int32} {v4 : Int32} {v5 : Int32} {v6 : Int32} {v7 : Int32} {v9 : Int32} {v10 : Int32} {s0 : Int32} {h : Hp} {q : Unit × Hp}  (hf : f_M_divide_208 k156 v1 v2 v3 v4 v5 v6 v7 v9 v10 s0 h = some q) (hq : wk_Q X (vC G) none q.2 none) : WW X (vC G) h 208 [(0, .ref (cad G 46)), (1, .int v1), (2, .int v2), (3, .int v3), (4, .int v4), (5, .int v5), (6, .int v6), (7, .int v7), (9, .int v9), (10, .int v10)] [.int s0] := by
  unfold f_M_divide_208 at hf
  refine wk_istore C dM_divide_208 (by decide) ?_
  refine wk_aload_n C 0 dM_divide_210 rfl rfl ?_
  refine gf_M_35 C dM_divide_211 ?_
  refine wk_iload C dM_divide_214 rfl ?_
  refine wk_iload C dM_divide_216 rfl ?_
  refine wk_if_ge (tgt := 229) C dM_divide_218 rfl hf (fun c_218 hf => ?_) (fun c_218 hf => ?_)
  · refine wk_iload C dM_divide_229 rfl ?_
    obtain ⟨c_231, hf⟩ := chk_some hf
    refine as_54 C c_231 dM_divide_231 ?_
    refine wk_iinc C dM_divide_232 rfl kiconst_m1 (by decide) ?_
    refine wk_goto (tgt := 156) C dM_divide_235 rfl ?_
    exact wk_go (hk156 _ _ _ _ _ _ _ _ _ _ _ hf hq) (And.intro rfl (And.intro rfl (And.intro rfl (And.intro rfl (And.intro rfl (And.intro rfl (And.intro rfl (And.intro rfl (And.intro rfl (And.intro rfl trivial))))))))))
  · refine wk_iload C dM_divide_221 rfl ?_
    refine wk_bipush C dM_divide_223 kbipush_10 ?_
    refine wk_iadd C dM_divide_225 ?_
    refine wk_goto (tgt := 231) C dM_divide_226 rfl ?_
    obtain ⟨c_231, hf⟩ := chk_some hf
    refine as_54 C c_231 dM_divide_231 ?_
    refine wk_iinc C dM_divide_232 rfl kiconst_m1 (by decide) ?_
    refine wk_goto (tgt := 156) C dM_divide_235 rfl ?_
    exact wk_go (hk156 _ _ _ _ _ _ _ _ _ _ _ hf hq) (And.intro rfl (And.intro rfl (And.intro rfl (And.intro rfl (And.intro rfl (And.intro rfl (And.intro rfl (And.intro rfl (And.intro rfl (And.intro rfl trivial))))))))))
set_option maxHeartbeats 4000000 in
set_option maxRecDepth 100000 in
theorem b_M_divide_156 {X : wk_X} {G : cGt} (hI : wd_inj (vC G)) (C : wk_C X (vC G) cM_divide RM 11 1 22) {k137 : Int32 → Int32 → Int32 → Int32 → Int32 → Int32 → Int32 → Hp → Option (Unit × Hp)} (hk137 : ∀ (v1 : Int32) (v2 : Int32) (v3 : Int32) (v4 : Int32) (v5 : Int32) (v6 : Int32) (v7 : Int32) (h : Hp) (q : Unit × Hp), k137 v1 v2 v3 v4 v5 v6 v7 h = some q → wk_Q X (vC G) none q.2 none → WW X (vC G) h 137 [(0, .ref (cad G 46)), (1, .int v1), (2, .int v2), (3, .int v3), (4, .int v4), (5, .int v5), (6, .int v6), (7, .int v7)] []) : ∀ (n : Nat) {v1 : Int32} {v2 : Int32} {v3 : Int32} {v4 : Int32} {v5 : Int32} {v6 : Int32} {v7 : Int32} {v8 : Int32} {v9 : Int32} {h : Hp} {q : Unit × Hp}  (hf : f_M_divide_156 k137 n v1 v2 v3 v4 v5 v6 v7 v8 v9 h = some q) (hq : wk_Q X (vC G) none q.2 none), WW X (vC G) h 156 [(0, .ref (cad G 46)), (1, .int v1), (2, .int v2), (3, .int v3), (4, .int v4), (5, .int v5), (6, .int v6), (7, .int v7), (8, .int v8), (9, .int v9)] [] := by
  intro n
  induction n with
  | zero =>
    intros
    rename_i hf _
    cases hf
  | succ n ih =>
    intro v1 v2 v3 v4 v5 v6 v7 v8 v9 h q hf hq
    rw [f_M_divide_156] at hf
    refine wk_iload C dM_divide_156 rfl ?_
    refine wk_if_lt (tgt := 238) C dM_divide_158 rfl hf (fun c_158 hf => ?_) (fun c_158 hf => ?_)
    · refine wk_iinc C dM_divide_238 rfl kiconst_1 (by decide) ?_
      refine wk_goto (tgt := 137) C dM_divide_241 rfl ?_
      exact wk_go (hk137 _ _ _ _ _ _ _ _ _ hf hq) (And.intro rfl (And.intro rfl (And.intro rfl (And.intro rfl (And.intro rfl (And.intro rfl (And.intro rfl (And.intro rfl trivial))))))))
    · refine wk_aload_n C 0 dM_divide_161 rfl rfl ?_
      refine gf_M_35 C dM_divide_162 ?_
      refine wk_iload C dM_divide_165 rfl ?_
      obtain ⟨c_167, hf⟩ := chk_some hf
      refine al_54 C c_167 dM_divide_167 ?_
      refine wk_iload C dM_divide_168 rfl ?_
      refine wk_iadd C dM_divide_170 ?_
      refine wk_iload C dM_divide_171 rfl ?_
      refine wk_if_le (tgt := 194) C dM_divide_173 rfl hf (fun c_173 hf => ?_) (fun c_173 hf => ?_)
      · refine wk_iconst C dM_divide_194 kiconst_0 ?_
        refine wk_isub C dM_divide_195 ?_
        refine wk_istore C dM_divide_196 (by decide) ?_
        refine wk_iload C dM_divide_198 rfl ?_
        refine wk_if_ge (tgt := 207) C dM_divide_200 rfl hf (fun c_200 hf => ?_) (fun c_200 hf => ?_)
        · refine wk_iconst C dM_divide_207 kiconst_0 ?_
          exact wk_go (b_M_divide_208 hI C (fun _ _ _ _ _ _ _ _ _ _ _ hf hq => ih hf hq) hf hq) (And.intro rfl (And.intro rfl (And.intro rfl (And.intro rfl (And.intro rfl (And.intro rfl (And.intro rfl (And.intro rfl (And.intro rfl (And.intro rfl trivial))))))))))
        · refine wk_iconst C dM_divide_203 kiconst_m1 ?_
          refine wk_goto (tgt := 208) C dM_divide_204 rfl ?_
          exact wk_go (b_M_divide_208 hI C (fun _ _ _ _ _ _ _ _ _ _ _ hf hq => ih hf hq) hf hq) (And.intro rfl (And.intro rfl (And.intro rfl (And.intro rfl (And.intro rfl (And.intro rfl (And.intro rfl (And.intro rfl (And.intro rfl (And.intro rfl trivial))))))))))
      · refine wk_aload_n C 0 dM_divide_176 rfl rfl ?_
        refine gf_M_23 C dM_divide_177 ?_
        refine wk_sipush C dM_divide_180 ksipush_2600 ?_
        refine wk_iload_n C 2 dM_divide_183 rfl rfl ?_
        refine wk_imul C dM_divide_184 ?_
        refine wk_iload C dM_divide_185 rfl ?_
        refine wk_iadd C dM_divide_187 ?_
        refine wk_iconst C dM_divide_188 kiconst_1 ?_
        refine wk_isub C dM_divide_189 ?_
        obtain ⟨c_190, hf⟩ := chk_some hf
        refine al_50 C c_190 dM_divide_190 ?_
        refine wk_goto (tgt := 195) C dM_divide_191 rfl ?_
        refine wk_isub C dM_divide_195 ?_
        refine wk_istore C dM_divide_196 (by decide) ?_
        refine wk_iload C dM_divide_198 rfl ?_
        refine wk_if_ge (tgt := 207) C dM_divide_200 rfl hf (fun c_200 hf => ?_) (fun c_200 hf => ?_)
        · refine wk_iconst C dM_divide_207 kiconst_0 ?_
          exact wk_go (b_M_divide_208 hI C (fun _ _ _ _ _ _ _ _ _ _ _ hf hq => ih hf hq) hf hq) (And.intro rfl (And.intro rfl (And.intro rfl (And.intro rfl (And.intro rfl (And.intro rfl (And.intro rfl (And.intro rfl (And.intro rfl (And.intro rfl trivial))))))))))
        · refine wk_iconst C dM_divide_203 kiconst_m1 ?_
          refine wk_goto (tgt := 208) C dM_divide_204 rfl ?_
          exact wk_go (b_M_divide_208 hI C (fun _ _ _ _ _ _ _ _ _ _ _ hf hq => ih hf hq) hf hq) (And.intro rfl (And.intro rfl (And.intro rfl (And.intro rfl (And.intro rfl (And.intro rfl (And.intro rfl (And.intro rfl (And.intro rfl (And.intro rfl trivial))))))))))
set_option maxHeartbeats 4000000 in
set_option maxRecDepth 100000 in
theorem b_M_divide_137 {X : wk_X} {G : cGt} (hI : wd_inj (vC G)) (C : wk_C X (vC G) cM_divide RM 11 1 22) {k50 : Int32 → Int32 → Int32 → Int32 → Int32 → Int32 → Hp → Option (Unit × Hp)} (hk50 : ∀ (v1 : Int32) (v2 : Int32) (v3 : Int32) (v4 : Int32) (v5 : Int32) (v6 : Int32) (h : Hp) (q : Unit × Hp), k50 v1 v2 v3 v4 v5 v6 h = some q → wk_Q X (vC G) none q.2 none → WW X (vC G) h 50 [(0, .ref (cad G 46)), (1, .int v1), (2, .int v2), (3, .int v3), (4, .int v4), (5, .int v5), (6, .int v6)] []) : ∀ (n : Nat) {v1 : Int32} {v2 : Int32} {v3 : Int32} {v4 : Int32} {v5 : Int32} {v6 : Int32} {v7 : Int32} {h : Hp} {q : Unit × Hp}  (hf : f_M_divide_137 k50 n v1 v2 v3 v4 v5 v6 v7 h = some q) (hq : wk_Q X (vC G) none q.2 none), WW X (vC G) h 137 [(0, .ref (cad G 46)), (1, .int v1), (2, .int v2), (3, .int v3), (4, .int v4), (5, .int v5), (6, .int v6), (7, .int v7)] [] := by
  intro n
  induction n with
  | zero =>
    intros
    rename_i hf _
    cases hf
  | succ n ih =>
    intro v1 v2 v3 v4 v5 v6 v7 h q hf hq
    rw [f_M_divide_137] at hf
    refine wk_aload_n C 0 dM_divide_137 rfl rfl ?_
    refine wk_iload_n C 2 dM_divide_138 rfl rfl ?_
    obtain ⟨r139, h139, e_139, hf⟩ := bd_some hf
    refine wk_callV (As := [.int v2]) (rest := []) C lw_good cw_M_79 wi_M_isEnough (m_M_isEnough hI e_139) lz_46 (he_46 G (h 46)) rfl rfl rfl (Nat.le_of_ble_eq_true rfl) (by decide) dM_divide_139 ?_
    refine wk_if_eq (tgt := 244) C dM_divide_142 rfl hf (fun c_142 hf => ?_) (fun c_142 hf => ?_)
    · refine wk_iload C dM_divide_244 rfl ?_
      refine wk_if_ne (tgt := 257) C dM_divide_246 rfl hf (fun c_246 hf => ?_) (fun c_246 hf => ?_)
      · exact wk_go (b_M_divide_257 hI C hk50 hf hq) (And.intro rfl (And.intro rfl (And.intro rfl (And.intro rfl (And.intro rfl (And.intro rfl (And.intro rfl (And.intro rfl trivial))))))))
      · refine wk_iload C dM_divide_249 rfl ?_
        refine wk_if_ne (tgt := 257) C dM_divide_251 rfl hf (fun c_251 hf => ?_) (fun c_251 hf => ?_)
        · exact wk_go (b_M_divide_257 hI C hk50 hf hq) (And.intro rfl (And.intro rfl (And.intro rfl (And.intro rfl (And.intro rfl (And.intro rfl (And.intro rfl (And.intro rfl trivial))))))))
        · refine wk_goto (tgt := 50) C dM_divide_254 rfl ?_
          exact wk_go (hk50 _ _ _ _ _ _ _ _ hf hq) (And.intro rfl (And.intro rfl (And.intro rfl (And.intro rfl (And.intro rfl (And.intro rfl (And.intro rfl trivial)))))))
    · refine wk_iconst C dM_divide_145 kiconst_0 ?_
      refine wk_istore C dM_divide_146 (by decide) ?_
      refine wk_aload_n C 0 dM_divide_148 rfl rfl ?_
      refine gf_M_26 C dM_divide_149 ?_
      refine wk_iload_n C 2 dM_divide_152 rfl rfl ?_
      obtain ⟨c_153, hf⟩ := chk_some hf
      refine al_51 C c_153 dM_divide_153 ?_
      refine wk_istore C dM_divide_154 (by decide) ?_
      exact wk_go (b_M_divide_156 hI C (fun _ _ _ _ _ _ _ _ _ hf hq => ih hf hq) fuel hf hq) (And.intro rfl (And.intro rfl (And.intro rfl (And.intro rfl (And.intro rfl (And.intro rfl (And.intro rfl (And.intro rfl (And.intro rfl (And.intro rfl trivial))))))))))
set_option maxHeartbeats 4000000 in
set_option maxRecDepth 100000 in
theorem b_M_divide_59 {X : wk_X} {G : cGt} (hI : wd_inj (vC G)) (C : wk_C X (vC G) cM_divide RM 11 1 22) {k50 : Int32 → Int32 → Int32 → Int32 → Int32 → Int32 → Hp → Option (Unit × Hp)} (hk50 : ∀ (v1 : Int32) (v2 : Int32) (v3 : Int32) (v4 : Int32) (v5 : Int32) (v6 : Int32) (h : Hp) (q : Unit × Hp), k50 v1 v2 v3 v4 v5 v6 h = some q → wk_Q X (vC G) none q.2 none → WW X (vC G) h 50 [(0, .ref (cad G 46)), (1, .int v1), (2, .int v2), (3, .int v3), (4, .int v4), (5, .int v5), (6, .int v6)] []) : ∀ (n : Nat) {v1 : Int32} {v2 : Int32} {v3 : Int32} {v4 : Int32} {v5 : Int32} {v6 : Int32} {v7 : Int32} {h : Hp} {q : Unit × Hp}  (hf : f_M_divide_59 k50 n v1 v2 v3 v4 v5 v6 v7 h = some q) (hq : wk_Q X (vC G) none q.2 none), WW X (vC G) h 59 [(0, .ref (cad G 46)), (1, .int v1), (2, .int v2), (3, .int v3), (4, .int v4), (5, .int v5), (6, .int v6), (7, .int v7)] [] := by
  intro n
  induction n with
  | zero =>
    intros
    rename_i hf _
    cases hf
  | succ n ih =>
    intro v1 v2 v3 v4 v5 v6 v7 h q hf hq
    rw [f_M_divide_59] at hf
    refine wk_iload C dM_divide_59 rfl ?_
    refine wk_aload_n C 0 dM_divide_61 rfl rfl ?_
    refine gf_M_26 C dM_divide_62 ?_
    refine wk_iload_n C 2 dM_divide_65 rfl rfl ?_
    obtain ⟨c_66, hf⟩ := chk_some hf
    refine al_51 C c_66 dM_divide_66 ?_
    refine wk_icmp_ge (tgt := 92) C dM_divide_67 rfl hf (fun c_67 hf => ?_) (fun c_67 hf => ?_)
    · refine wk_aload_n C 0 dM_divide_92 rfl rfl ?_
      refine gf_M_35 C dM_divide_93 ?_
      refine wk_aload_n C 0 dM_divide_96 rfl rfl ?_
      refine gf_M_26 C dM_divide_97 ?_
      refine wk_iload_n C 2 dM_divide_100 rfl rfl ?_
      obtain ⟨c_101, hf⟩ := chk_some hf
      refine al_51 C c_101 dM_divide_101 ?_
      refine wk_iload C dM_divide_102 rfl ?_
      refine wk_aload_n C 0 dM_divide_104 rfl rfl ?_
      refine gf_M_26 C dM_divide_105 ?_
      refine wk_iload_n C 1 dM_divide_108 rfl rfl ?_
      obtain ⟨c_109, hf⟩ := chk_some hf
      refine al_51 C c_109 dM_divide_109 ?_
      refine wk_icmp_ge (tgt := 129) C dM_divide_110 rfl hf (fun c_110 hf => ?_) (fun c_110 hf => ?_)
      · refine wk_iconst C dM_divide_129 kiconst_0 ?_
        obtain ⟨c_130, hf⟩ := chk_some hf
        refine as_54 C c_130 dM_divide_130 ?_
        refine wk_iinc C dM_divide_131 rfl kiconst_1 (by decide) ?_
        refine wk_iconst C dM_divide_134 kiconst_0 ?_
        refine wk_istore C dM_divide_135 (by decide) ?_
        exact wk_go (b_M_divide_137 hI C hk50 fuel hf hq) (And.intro rfl (And.intro rfl (And.intro rfl (And.intro rfl (And.intro rfl (And.intro rfl (And.intro rfl (And.intro rfl trivial))))))))
      · refine wk_aload_n C 0 dM_divide_113 rfl rfl ?_
        refine gf_M_23 C dM_divide_114 ?_
        refine wk_sipush C dM_divide_117 ksipush_2600 ?_
        refine wk_iload_n C 1 dM_divide_120 rfl rfl ?_
        refine wk_imul C dM_divide_121 ?_
        refine wk_iload C dM_divide_122 rfl ?_
        refine wk_iadd C dM_divide_124 ?_
        obtain ⟨c_125, hf⟩ := chk_some hf
        refine al_50 C c_125 dM_divide_125 ?_
        refine wk_goto (tgt := 130) C dM_divide_126 rfl ?_
        obtain ⟨c_130, hf⟩ := chk_some hf
        refine as_54 C c_130 dM_divide_130 ?_
        refine wk_iinc C dM_divide_131 rfl kiconst_1 (by decide) ?_
        refine wk_iconst C dM_divide_134 kiconst_0 ?_
        refine wk_istore C dM_divide_135 (by decide) ?_
        exact wk_go (b_M_divide_137 hI C hk50 fuel hf hq) (And.intro rfl (And.intro rfl (And.intro rfl (And.intro rfl (And.intro rfl (And.intro rfl (And.intro rfl (And.intro rfl trivial))))))))
    · refine wk_aload_n C 0 dM_divide_70 rfl rfl ?_
      refine gf_M_35 C dM_divide_71 ?_
      refine wk_iload C dM_divide_74 rfl ?_
      refine wk_aload_n C 0 dM_divide_76 rfl rfl ?_
      refine gf_M_35 C dM_divide_77 ?_
      refine wk_iload C dM_divide_80 rfl ?_
      refine wk_iconst C dM_divide_82 kiconst_1 ?_
      refine wk_iadd C dM_divide_83 ?_
      obtain ⟨c_84, hf⟩ := chk_some hf
      refine al_54 C c_84 dM_divide_84 ?_
      obtain ⟨c_85, hf⟩ := chk_some hf
      refine as_54 C c_85 dM_divide_85 ?_
      refine wk_iinc C dM_divide_86 rfl kiconst_1 (by decide) ?_
      refine wk_goto (tgt := 59) C dM_divide_89 rfl ?_
      exact wk_go (ih hf hq) (And.intro rfl (And.intro rfl (And.intro rfl (And.intro rfl (And.intro rfl (And.intro rfl (And.intro rfl (And.intro rfl trivial))))))))
set_option maxHeartbeats 4000000 in
set_option maxRecDepth 100000 in
theorem b_M_divide_50 {X : wk_X} {G : cGt} (hI : wd_inj (vC G)) (C : wk_C X (vC G) cM_divide RM 11 1 22) : ∀ (n : Nat) {v1 : Int32} {v2 : Int32} {v3 : Int32} {v4 : Int32} {v5 : Int32} {v6 : Int32} {h : Hp} {q : Unit × Hp}  (hf : f_M_divide_50 n v1 v2 v3 v4 v5 v6 h = some q) (hq : wk_Q X (vC G) none q.2 none), WW X (vC G) h 50 [(0, .ref (cad G 46)), (1, .int v1), (2, .int v2), (3, .int v3), (4, .int v4), (5, .int v5), (6, .int v6)] [] := by
  intro n
  induction n with
  | zero =>
    intros
    rename_i hf _
    cases hf
  | succ n ih =>
    intro v1 v2 v3 v4 v5 v6 h q hf hq
    rw [f_M_divide_50] at hf
    refine wk_iload C dM_divide_50 rfl ?_
    refine wk_iload_n C 3 dM_divide_52 rfl rfl ?_
    refine wk_icmp_gt (tgt := 279) C dM_divide_53 rfl hf (fun c_53 hf => ?_) (fun c_53 hf => ?_)
    · refine wk_aload_n C 0 dM_divide_279 rfl rfl ?_
      refine gf_M_32 C dM_divide_280 ?_
      refine wk_iload C dM_divide_283 rfl ?_
      refine wk_aload_n C 0 dM_divide_285 rfl rfl ?_
      refine gf_M_32 C dM_divide_286 ?_
      refine wk_iload_n C 1 dM_divide_289 rfl rfl ?_
      obtain ⟨c_290, hf⟩ := chk_some hf
      refine al_53 C c_290 dM_divide_290 ?_
      refine wk_aload_n C 0 dM_divide_291 rfl rfl ?_
      refine gf_M_32 C dM_divide_292 ?_
      refine wk_iload_n C 2 dM_divide_295 rfl rfl ?_
      obtain ⟨c_296, hf⟩ := chk_some hf
      refine al_53 C c_296 dM_divide_296 ?_
      refine wk_imul C dM_divide_297 ?_
      obtain ⟨c_298, hf⟩ := chk_some hf
      refine as_53 C c_298 dM_divide_298 ?_
      refine wk_aload_n C 0 dM_divide_299 rfl rfl ?_
      refine gf_M_26 C dM_divide_300 ?_
      refine wk_iload C dM_divide_303 rfl ?_
      refine wk_iload C dM_divide_305 rfl ?_
      obtain ⟨c_307, hf⟩ := chk_some hf
      refine as_51 C c_307 dM_divide_307 ?_
      refine wk_aload_n C 0 dM_divide_308 rfl rfl ?_
      refine gf_M_29 C dM_divide_309 ?_
      refine wk_iload C dM_divide_312 rfl ?_
      refine wk_aload_n C 0 dM_divide_314 rfl rfl ?_
      refine gf_M_29 C dM_divide_315 ?_
      refine wk_iload_n C 1 dM_divide_318 rfl rfl ?_
      obtain ⟨c_319, hf⟩ := chk_some hf
      refine al_52 C c_319 dM_divide_319 ?_
      refine wk_aload_n C 0 dM_divide_320 rfl rfl ?_
      refine gf_M_29 C dM_divide_321 ?_
      refine wk_iload_n C 2 dM_divide_324 rfl rfl ?_
      obtain ⟨c_325, hf⟩ := chk_some hf
      refine al_52 C c_325 dM_divide_325 ?_
      refine wk_isub C dM_divide_326 ?_
      refine wk_aload_n C 0 dM_divide_327 rfl rfl ?_
      refine gf_M_26 C dM_divide_328 ?_
      refine wk_iload_n C 1 dM_divide_331 rfl rfl ?_
      obtain ⟨c_332, hf⟩ := chk_some hf
      refine al_51 C c_332 dM_divide_332 ?_
      refine wk_iadd C dM_divide_333 ?_
      refine wk_iload C dM_divide_334 rfl ?_
      refine wk_isub C dM_divide_336 ?_
      obtain ⟨c_337, hf⟩ := chk_some hf
      refine as_52 C c_337 dM_divide_337 ?_
      cases hf
      exact wk_return C hq dM_divide_338
    · refine wk_iconst C dM_divide_56 kiconst_0 ?_
      refine wk_istore C dM_divide_57 (by decide) ?_
      exact wk_go (b_M_divide_59 hI C (fun _ _ _ _ _ _ _ _ hf hq => ih hf hq) fuel hf hq) (And.intro rfl (And.intro rfl (And.intro rfl (And.intro rfl (And.intro rfl (And.intro rfl (And.intro rfl (And.intro rfl trivial))))))))
set_option maxHeartbeats 4000000 in
set_option maxRecDepth 100000 in
theorem b_M_divide_19 {X : wk_X} {G : cGt} (hI : wd_inj (vC G)) (C : wk_C X (vC G) cM_divide RM 11 1 22) : ∀ (n : Nat) {v1 : Int32} {v2 : Int32} {v3 : Int32} {v4 : Int32} {v5 : Int32} {h : Hp} {q : Unit × Hp}  (hf : f_M_divide_19 n v1 v2 v3 v4 v5 h = some q) (hq : wk_Q X (vC G) none q.2 none), WW X (vC G) h 19 [(0, .ref (cad G 46)), (1, .int v1), (2, .int v2), (3, .int v3), (4, .int v4), (5, .int v5)] [] := by
  intro n
  induction n with
  | zero =>
    intros
    rename_i hf _
    cases hf
  | succ n ih =>
    intro v1 v2 v3 v4 v5 h q hf hq
    rw [f_M_divide_19] at hf
    refine wk_iload C dM_divide_19 rfl ?_
    refine wk_aload_n C 0 dM_divide_21 rfl rfl ?_
    refine gf_M_26 C dM_divide_22 ?_
    refine wk_iload_n C 2 dM_divide_25 rfl rfl ?_
    obtain ⟨c_26, hf⟩ := chk_some hf
    refine al_51 C c_26 dM_divide_26 ?_
    refine wk_icmp_gt (tgt := 44) C dM_divide_27 rfl hf (fun c_27 hf => ?_) (fun c_27 hf => ?_)
    · refine wk_iconst C dM_divide_44 kiconst_0 ?_
      refine wk_istore C dM_divide_45 (by decide) ?_
      refine wk_iconst C dM_divide_47 kiconst_0 ?_
      refine wk_istore C dM_divide_48 (by decide) ?_
      exact wk_go (b_M_divide_50 hI C fuel hf hq) (And.intro rfl (And.intro rfl (And.intro rfl (And.intro rfl (And.intro rfl (And.intro rfl (And.intro rfl trivial)))))))
    · refine wk_aload_n C 0 dM_divide_30 rfl rfl ?_
      refine gf_M_35 C dM_divide_31 ?_
      refine wk_iload C dM_divide_34 rfl ?_
      refine wk_iconst C dM_divide_36 kiconst_0 ?_
      obtain ⟨c_37, hf⟩ := chk_some hf
      refine as_54 C c_37 dM_divide_37 ?_
      refine wk_iinc C dM_divide_38 rfl kiconst_1 (by decide) ?_
      refine wk_goto (tgt := 19) C dM_divide_41 rfl ?_
      exact wk_go (ih hf hq) (And.intro rfl (And.intro rfl (And.intro rfl (And.intro rfl (And.intro rfl (And.intro rfl trivial))))))
set_option maxHeartbeats 4000000 in
set_option maxRecDepth 100000 in
theorem b_M_divide {X : wk_X} {G : cGt} (hI : wd_inj (vC G)) (C : wk_C X (vC G) cM_divide RM 11 1 22) {v1 : Int32} {v2 : Int32} {v3 : Int32} {v4 : Int32} {h : Hp} {q : Unit × Hp}  (hf : f_M_divide v1 v2 v3 v4 h = some q) (hq : wk_Q X (vC G) none q.2 none) : WW X (vC G) h 0 [(0, .ref (cad G 46)), (1, .int v1), (2, .int v2), (3, .int v3), (4, .int v4)] [] := by
  unfold f_M_divide at hf
  refine wk_aload_n C 0 dM_divide_0 rfl rfl ?_
  refine gf_M_32 C dM_divide_1 ?_
  refine wk_iload_n C 1 dM_divide_4 rfl rfl ?_
  obtain ⟨c_5, hf⟩ := chk_some hf
  refine al_53 C c_5 dM_divide_5 ?_
  refine wk_if_ne (tgt := 16) C dM_divide_6 rfl hf (fun c_6 hf => ?_) (fun c_6 hf => ?_)
  · refine wk_iconst C dM_divide_16 kiconst_0 ?_
    refine wk_istore C dM_divide_17 (by decide) ?_
    exact wk_go (b_M_divide_19 hI C fuel hf hq) (And.intro rfl (And.intro rfl (And.intro rfl (And.intro rfl (And.intro rfl (And.intro rfl trivial))))))
  · refine wk_aload_n C 0 dM_divide_9 rfl rfl ?_
    refine wk_iload C dM_divide_10 rfl ?_
    obtain ⟨r12, h12, e_12, hf⟩ := bd_some hf
    refine wk_callV (As := [.int v4]) (rest := []) C lw_good cw_M_58 wi_M_zero (m_M_zero hI e_12) lz_46 (he_46 G (h 46)) rfl rfl rfl (Nat.le_of_ble_eq_true rfl) (by decide) dM_divide_12 ?_
    cases hf
    exact wk_return C hq dM_divide_15
theorem m_M_divide {l : Launch} {G : cGt} (hI : wd_inj (vC G)) {v1 : Int32} {v2 : Int32} {v3 : Int32} {v4 : Int32} {h h' : Hp} {r : Unit}  (hf : f_M_divide v1 v2 v3 v4 h = some (r, h')) : wk_M l (vC G) yM_divide cM_divide 11 none 1 22 [.ref (cad G 46), .int v1, .int v2, .int v3, .int v4] h none h' :=
  wk_met hI (by decide +kernel) rfl (Nat.le_of_ble_eq_true rfl) (wk_cat1 rfl) (fun X hX C hq => by subst hX; exact b_M_divide hI C  hf hq)
set_option maxHeartbeats 4000000 in
set_option maxRecDepth 100000 in
theorem b_M_part_102 {X : wk_X} {G : cGt} (hI : wd_inj (vC G)) (C : wk_C X (vC G) cM_part RM 9 2 52) {v1 : Int32} {v2 : Int32} {v3 : Int32} {v4 : Int32} {h : Hp} {q : Int32 × Hp}  (hf : f_M_part_102 v1 v2 v3 v4 h = some q) (hq : wk_Q X (vC G) (some (.int q.1)) q.2 (some .boolean)) : WW X (vC G) h 102 [(0, .ref (cad G 46)), (1, .int v1), (2, .int v2), (3, .int v3), (4, .int v4)] [] := by
  unfold f_M_part_102 at hf
  refine wk_aload_n C 0 dM_part_102 rfl rfl ?_
  refine gf_M_32 C dM_part_103 ?_
  refine wk_iload_n C 1 dM_part_106 rfl rfl ?_
  obtain ⟨c_107, hf⟩ := chk_some hf
  refine al_53 C c_107 dM_part_107 ?_
  refine wk_if_eq (tgt := 116) C dM_part_108 rfl hf (fun c_108 hf => ?_) (fun c_108 hf => ?_)
  · refine wk_aload_n C 0 dM_part_116 rfl rfl ?_
    refine wk_iload_n C 3 dM_part_117 rfl rfl ?_
    obtain ⟨r118, h118, e_118, hf⟩ := bd_some hf
    refine wk_callV (As := [.int v3]) (rest := []) C lw_good cw_M_58 wi_M_zero (m_M_zero hI e_118) lz_46 (he_46 G (h 46)) rfl rfl rfl (Nat.le_of_ble_eq_true rfl) (by decide) dM_part_118 ?_
    refine wk_iconst C dM_part_121 kiconst_1 ?_
    cases hf
    exact wk_zreturn C hq rfl dM_part_122
  · refine wk_iload C dM_part_111 rfl ?_
    refine wk_if_ge (tgt := 123) C dM_part_113 rfl hf (fun c_113 hf => ?_) (fun c_113 hf => ?_)
    · refine wk_aload_n C 0 dM_part_123 rfl rfl ?_
      refine wk_iload_n C 1 dM_part_124 rfl rfl ?_
      obtain ⟨r125, h125, e_125, hf⟩ := bd_some hf
      refine wk_callV (As := [.int v1]) (rest := []) C lw_good cw_M_67 wi_M_high (m_M_high hI e_125) lz_46 (he_46 G (h 46)) rfl rfl rfl (Nat.le_of_ble_eq_true rfl) (by decide) dM_part_125 ?_
      refine wk_aload_n C 0 dM_part_128 rfl rfl ?_
      refine wk_iload_n C 2 dM_part_129 rfl rfl ?_
      obtain ⟨r130, h130, e_130, hf⟩ := bd_some hf
      refine wk_callV (As := [.int v2]) (rest := [.int r125]) C lw_good cw_M_67 wi_M_high (m_M_high hI e_130) lz_46 (he_46 G (h125 46)) rfl rfl rfl (Nat.le_of_ble_eq_true rfl) (by decide) dM_part_130 ?_
      refine wk_isub C dM_part_133 ?_
      refine wk_iconst C dM_part_134 kiconst_1 ?_
      refine wk_iadd C dM_part_135 ?_
      refine wk_istore C dM_part_136 (by decide) ?_
      refine wk_iload C dM_part_138 rfl ?_
      refine wk_aload_n C 0 dM_part_140 rfl rfl ?_
      refine gf_M_19 C dM_part_141 ?_
      refine wk_iconst C dM_part_144 kiconst_1 ?_
      refine wk_iadd C dM_part_145 ?_
      refine wk_icmp_le (tgt := 151) C dM_part_146 rfl hf (fun c_146 hf => ?_) (fun c_146 hf => ?_)
      · refine wk_aload_n C 0 dM_part_151 rfl rfl ?_
        refine wk_iload_n C 1 dM_part_152 rfl rfl ?_
        refine wk_iload_n C 2 dM_part_153 rfl rfl ?_
        refine wk_iload C dM_part_154 rfl ?_
        refine wk_iconst C dM_part_156 kiconst_1 ?_
        refine wk_iadd C dM_part_157 ?_
        refine wk_iload_n C 3 dM_part_158 rfl rfl ?_
        obtain ⟨r159, h159, e_159, hf⟩ := bd_some hf
        refine wk_callV (As := [.int v1, .int v2, .int (((r125 - r130) + 1) + 1), .int v3]) (rest := []) C lw_good cw_M_82 wi_M_divide (m_M_divide hI e_159) lz_46 (he_46 G (h130 46)) rfl rfl rfl (Nat.le_of_ble_eq_true rfl) (by decide) dM_part_159 ?_
        refine wk_aload_n C 0 dM_part_162 rfl rfl ?_
        refine gf_M_26 C dM_part_163 ?_
        refine wk_iload_n C 3 dM_part_166 rfl rfl ?_
        obtain ⟨c_167, hf⟩ := chk_some hf
        refine al_51 C c_167 dM_part_167 ?_
        refine wk_aload_n C 0 dM_part_168 rfl rfl ?_
        refine gf_M_29 C dM_part_169 ?_
        refine wk_iload_n C 3 dM_part_172 rfl rfl ?_
        obtain ⟨c_173, hf⟩ := chk_some hf
        refine al_52 C c_173 dM_part_173 ?_
        refine wk_iadd C dM_part_174 ?_
        refine wk_istore C dM_part_175 (by decide) ?_
        refine wk_iload C dM_part_177 rfl ?_
        refine wk_aload_n C 0 dM_part_179 rfl rfl ?_
        refine gf_M_19 C dM_part_180 ?_
        refine wk_icmp_le (tgt := 188) C dM_part_183 rfl hf (fun c_183 hf => ?_) (fun c_183 hf => ?_)
        · refine wk_aload_n C 0 dM_part_188 rfl rfl ?_
          refine gf_M_26 C dM_part_189 ?_
          refine wk_iload_n C 3 dM_part_192 rfl rfl ?_
          refine wk_iload C dM_part_193 rfl ?_
          obtain ⟨c_195, hf⟩ := chk_some hf
          refine as_51 C c_195 dM_part_195 ?_
          refine wk_aload_n C 0 dM_part_196 rfl rfl ?_
          refine gf_M_29 C dM_part_197 ?_
          refine wk_iload_n C 3 dM_part_200 rfl rfl ?_
          refine wk_iconst C dM_part_201 kiconst_0 ?_
          obtain ⟨c_202, hf⟩ := chk_some hf
          refine as_52 C c_202 dM_part_202 ?_
          refine wk_iload C dM_part_203 rfl ?_
          refine wk_if_gt (tgt := 213) C dM_part_205 rfl hf (fun c_205 hf => ?_) (fun c_205 hf => ?_)
          · refine wk_iconst C dM_part_213 kiconst_1 ?_
            cases hf
            exact wk_zreturn C hq rfl dM_part_214
          · refine wk_aload_n C 0 dM_part_208 rfl rfl ?_
            refine wk_iload_n C 3 dM_part_209 rfl rfl ?_
            obtain ⟨r210, h210, e_210, hf⟩ := bd_some hf
            refine wk_callV (As := [.int v3]) (rest := []) C lw_good cw_M_58 wi_M_zero (m_M_zero hI e_210) lz_46 (he_46 G ((up2 (up2 h159 51 (Int32.toNatClampNeg v3) ((h159 51 (Int32.toNatClampNeg v3)) + (h159 52 (Int32.toNatClampNeg v3)))) 52 (Int32.toNatClampNeg v3) 0) 46)) rfl rfl rfl (Nat.le_of_ble_eq_true rfl) (by decide) dM_part_210 ?_
            refine wk_iconst C dM_part_213 kiconst_1 ?_
            cases hf
            exact wk_zreturn C hq rfl dM_part_214
        · refine wk_iconst C dM_part_186 kiconst_0 ?_
          cases hf
          exact wk_zreturn C hq rfl dM_part_187
      · refine wk_iconst C dM_part_149 kiconst_0 ?_
        cases hf
        exact wk_zreturn C hq rfl dM_part_150
    · refine wk_aload_n C 0 dM_part_116 rfl rfl ?_
      refine wk_iload_n C 3 dM_part_117 rfl rfl ?_
      obtain ⟨r118, h118, e_118, hf⟩ := bd_some hf
      refine wk_callV (As := [.int v3]) (rest := []) C lw_good cw_M_58 wi_M_zero (m_M_zero hI e_118) lz_46 (he_46 G (h 46)) rfl rfl rfl (Nat.le_of_ble_eq_true rfl) (by decide) dM_part_118 ?_
      refine wk_iconst C dM_part_121 kiconst_1 ?_
      cases hf
      exact wk_zreturn C hq rfl dM_part_122
set_option maxHeartbeats 4000000 in
set_option maxRecDepth 100000 in
theorem b_M_part_67 {X : wk_X} {G : cGt} (hI : wd_inj (vC G)) (C : wk_C X (vC G) cM_part RM 9 2 52) : ∀ (n : Nat) {v1 : Int32} {v2 : Int32} {v3 : Int32} {v4 : Int32} {v6 : Int32} {v7 : Int32} {h : Hp} {q : Int32 × Hp}  (hf : f_M_part_67 n v1 v2 v3 v4 v6 v7 h = some q) (hq : wk_Q X (vC G) (some (.int q.1)) q.2 (some .boolean)), WW X (vC G) h 67 [(0, .ref (cad G 46)), (1, .int v1), (2, .int v2), (3, .int v3), (4, .int v4), (6, .int v6), (7, .int v7)] [] := by
  intro n
  induction n with
  | zero =>
    intros
    rename_i hf _
    cases hf
  | succ n ih =>
    intro v1 v2 v3 v4 v6 v7 h q hf hq
    rw [f_M_part_67] at hf
    refine wk_iload C dM_part_67 rfl ?_
    refine wk_iload C dM_part_69 rfl ?_
    refine wk_icmp_lt (tgt := 102) C dM_part_71 rfl hf (fun c_71 hf => ?_) (fun c_71 hf => ?_)
    · exact wk_go (b_M_part_102 hI C hf hq) (And.intro rfl (And.intro rfl (And.intro rfl (And.intro rfl (And.intro rfl trivial)))))
    · refine wk_iload C dM_part_74 rfl ?_
      refine wk_if_ne (tgt := 102) C dM_part_76 rfl hf (fun c_76 hf => ?_) (fun c_76 hf => ?_)
      · exact wk_go (b_M_part_102 hI C hf hq) (And.intro rfl (And.intro rfl (And.intro rfl (And.intro rfl (And.intro rfl trivial)))))
      · refine wk_aload_n C 0 dM_part_79 rfl rfl ?_
        refine wk_iload_n C 1 dM_part_80 rfl rfl ?_
        refine wk_iload C dM_part_81 rfl ?_
        obtain ⟨r83, h83, e_83, hf⟩ := bd_some hf
        refine wk_callV (As := [.int v1, .int v7]) (rest := []) C lw_good cw_M_75 wi_M_digit (m_M_digit hI e_83) lz_46 (he_46 G (h 46)) rfl rfl rfl (Nat.le_of_ble_eq_true rfl) (by decide) dM_part_83 ?_
        refine wk_aload_n C 0 dM_part_86 rfl rfl ?_
        refine wk_iload_n C 2 dM_part_87 rfl rfl ?_
        refine wk_iload C dM_part_88 rfl ?_
        obtain ⟨r90, h90, e_90, hf⟩ := bd_some hf
        refine wk_callV (As := [.int v2, .int v7]) (rest := [.int r83]) C lw_good cw_M_75 wi_M_digit (m_M_digit hI e_90) lz_46 (he_46 G (h83 46)) rfl rfl rfl (Nat.le_of_ble_eq_true rfl) (by decide) dM_part_90 ?_
        refine wk_isub C dM_part_93 ?_
        refine wk_istore C dM_part_94 (by decide) ?_
        refine wk_iinc C dM_part_96 rfl kiconst_m1 (by decide) ?_
        refine wk_goto (tgt := 67) C dM_part_99 rfl ?_
        exact wk_go (ih hf hq) (And.intro rfl (And.intro rfl (And.intro rfl (And.intro rfl (And.intro rfl (And.intro rfl (And.intro rfl trivial)))))))
set_option maxHeartbeats 4000000 in
set_option maxRecDepth 100000 in
theorem b_M_part_29 {X : wk_X} {G : cGt} (hI : wd_inj (vC G)) (C : wk_C X (vC G) cM_part RM 9 2 52) {v1 : Int32} {v2 : Int32} {v3 : Int32} {v4 : Int32} {s0 : Int32} {h : Hp} {q : Int32 × Hp}  (hf : f_M_part_29 v1 v2 v3 v4 s0 h = some q) (hq : wk_Q X (vC G) (some (.int q.1)) q.2 (some .boolean)) : WW X (vC G) h 29 [(0, .ref (cad G 46)), (1, .int v1), (2, .int v2), (3, .int v3), (4, .int v4)] [.int s0] := by
  unfold f_M_part_29 at hf
  refine wk_istore C dM_part_29 (by decide) ?_
  refine wk_aload_n C 0 dM_part_31 rfl rfl ?_
  refine gf_M_29 C dM_part_32 ?_
  refine wk_iload_n C 1 dM_part_35 rfl rfl ?_
  obtain ⟨c_36, hf⟩ := chk_some hf
  refine al_52 C c_36 dM_part_36 ?_
  refine wk_aload_n C 0 dM_part_37 rfl rfl ?_
  refine gf_M_29 C dM_part_38 ?_
  refine wk_iload_n C 2 dM_part_41 rfl rfl ?_
  obtain ⟨c_42, hf⟩ := chk_some hf
  refine al_52 C c_42 dM_part_42 ?_
  refine wk_icmp_ge (tgt := 55) C dM_part_43 rfl hf (fun c_43 hf => ?_) (fun c_43 hf => ?_)
  · refine wk_aload_n C 0 dM_part_55 rfl rfl ?_
    refine gf_M_29 C dM_part_56 ?_
    refine wk_iload_n C 2 dM_part_59 rfl rfl ?_
    obtain ⟨c_60, hf⟩ := chk_some hf
    refine al_52 C c_60 dM_part_60 ?_
    refine wk_istore C dM_part_61 (by decide) ?_
    refine wk_iload C dM_part_63 rfl ?_
    refine wk_istore C dM_part_65 (by decide) ?_
    exact wk_go (b_M_part_67 hI C fuel hf hq) (And.intro rfl (And.intro rfl (And.intro rfl (And.intro rfl (And.intro rfl (And.intro rfl (And.intro rfl trivial)))))))
  · refine wk_aload_n C 0 dM_part_46 rfl rfl ?_
    refine gf_M_29 C dM_part_47 ?_
    refine wk_iload_n C 1 dM_part_50 rfl rfl ?_
    obtain ⟨c_51, hf⟩ := chk_some hf
    refine al_52 C c_51 dM_part_51 ?_
    refine wk_goto (tgt := 61) C dM_part_52 rfl ?_
    refine wk_istore C dM_part_61 (by decide) ?_
    refine wk_iload C dM_part_63 rfl ?_
    refine wk_istore C dM_part_65 (by decide) ?_
    exact wk_go (b_M_part_67 hI C fuel hf hq) (And.intro rfl (And.intro rfl (And.intro rfl (And.intro rfl (And.intro rfl (And.intro rfl (And.intro rfl trivial)))))))
set_option maxHeartbeats 4000000 in
set_option maxRecDepth 100000 in
theorem b_M_part {X : wk_X} {G : cGt} (hI : wd_inj (vC G)) (C : wk_C X (vC G) cM_part RM 9 2 52) {v1 : Int32} {v2 : Int32} {v3 : Int32} {h : Hp} {q : Int32 × Hp}  (hf : f_M_part v1 v2 v3 h = some q) (hq : wk_Q X (vC G) (some (.int q.1)) q.2 (some .boolean)) : WW X (vC G) h 0 [(0, .ref (cad G 46)), (1, .int v1), (2, .int v2), (3, .int v3)] [] := by
  unfold f_M_part at hf
  refine wk_iconst C dM_part_0 kiconst_0 ?_
  refine wk_istore C dM_part_1 (by decide) ?_
  refine wk_aload_n C 0 dM_part_3 rfl rfl ?_
  refine wk_iload_n C 1 dM_part_4 rfl rfl ?_
  obtain ⟨r5, h5, e_5, hf⟩ := bd_some hf
  refine wk_callV (As := [.int v1]) (rest := []) C lw_good cw_M_67 wi_M_high (m_M_high hI e_5) lz_46 (he_46 G (h 46)) rfl rfl rfl (Nat.le_of_ble_eq_true rfl) (by decide) dM_part_5 ?_
  refine wk_aload_n C 0 dM_part_8 rfl rfl ?_
  refine wk_iload_n C 2 dM_part_9 rfl rfl ?_
  obtain ⟨r10, h10, e_10, hf⟩ := bd_some hf
  refine wk_callV (As := [.int v2]) (rest := [.int r5]) C lw_good cw_M_67 wi_M_high (m_M_high hI e_10) lz_46 (he_46 G (h5 46)) rfl rfl rfl (Nat.le_of_ble_eq_true rfl) (by decide) dM_part_10 ?_
  refine wk_icmp_le (tgt := 24) C dM_part_13 rfl hf (fun c_13 hf => ?_) (fun c_13 hf => ?_)
  · refine wk_aload_n C 0 dM_part_24 rfl rfl ?_
    refine wk_iload_n C 2 dM_part_25 rfl rfl ?_
    obtain ⟨r26, h26, e_26, hf⟩ := bd_some hf
    refine wk_callV (As := [.int v2]) (rest := []) C lw_good cw_M_67 wi_M_high (m_M_high hI e_26) lz_46 (he_46 G (h10 46)) rfl rfl rfl (Nat.le_of_ble_eq_true rfl) (by decide) dM_part_26 ?_
    exact wk_go (b_M_part_29 hI C hf hq) (And.intro rfl (And.intro rfl (And.intro rfl (And.intro rfl (And.intro rfl trivial)))))
  · refine wk_aload_n C 0 dM_part_16 rfl rfl ?_
    refine wk_iload_n C 1 dM_part_17 rfl rfl ?_
    obtain ⟨r18, h18, e_18, hf⟩ := bd_some hf
    refine wk_callV (As := [.int v1]) (rest := []) C lw_good cw_M_67 wi_M_high (m_M_high hI e_18) lz_46 (he_46 G (h10 46)) rfl rfl rfl (Nat.le_of_ble_eq_true rfl) (by decide) dM_part_18 ?_
    refine wk_goto (tgt := 29) C dM_part_21 rfl ?_
    exact wk_go (b_M_part_29 hI C hf hq) (And.intro rfl (And.intro rfl (And.intro rfl (And.intro rfl (And.intro rfl trivial)))))
theorem m_M_part {l : Launch} {G : cGt} (hI : wd_inj (vC G)) {v1 : Int32} {v2 : Int32} {v3 : Int32} {h h' : Hp} {r : Int32}  (hf : f_M_part v1 v2 v3 h = some (r, h')) : wk_M l (vC G) yM_part cM_part 9 (some .boolean) 2 52 [.ref (cad G 46), .int v1, .int v2, .int v3] h (some (.int r)) h' :=
  wk_met hI (by decide +kernel) rfl (Nat.le_of_ble_eq_true rfl) (wk_cat1 rfl) (fun X hX C hq => by subst hX; exact b_M_part hI C  hf hq)
set_option maxHeartbeats 4000000 in
set_option maxRecDepth 100000 in
theorem b_M_letter {X : wk_X} {G : cGt} (hI : wd_inj (vC G)) (C : wk_C X (vC G) cM_letter RM 2 0 0) {v1 : Int32} {h : Hp} {q : Unit × Hp}  (hf : f_M_letter v1 h = some q) (hq : wk_Q X (vC G) none q.2 none) : WW X (vC G) h 0 [(0, .ref (cad G 46)), (1, .int v1)] [] := by
  unfold f_M_letter at hf
  refine wk_aload_n C 0 dM_letter_0 rfl rfl ?_
  refine gf_M_86 C dM_letter_1 ?_
  refine wk_sipush C dM_letter_4 ksipush_1600 ?_
  refine wk_icmp_ge (tgt := 20) C dM_letter_7 rfl hf (fun c_7 hf => ?_) (fun c_7 hf => ?_)
  · refine wk_aload_n C 0 dM_letter_20 rfl rfl ?_
    refine wk_dup C dM_letter_21 rfl ?_
    refine gf_M_86 C dM_letter_22 ?_
    refine wk_iconst C dM_letter_25 kiconst_1 ?_
    refine wk_iadd C dM_letter_26 ?_
    refine pf_M_86 C dM_letter_27 ?_
    cases hf
    exact wk_return C hq dM_letter_30
  · refine wk_aload_n C 0 dM_letter_10 rfl rfl ?_
    refine gf_M_38 C dM_letter_11 ?_
    refine wk_aload_n C 0 dM_letter_14 rfl rfl ?_
    refine gf_M_86 C dM_letter_15 ?_
    refine wk_iload_n C 1 dM_letter_18 rfl rfl ?_
    obtain ⟨c_19, hf⟩ := chk_some hf
    refine as_55 C c_19 dM_letter_19 ?_
    refine wk_aload_n C 0 dM_letter_20 rfl rfl ?_
    refine wk_dup C dM_letter_21 rfl ?_
    refine gf_M_86 C dM_letter_22 ?_
    refine wk_iconst C dM_letter_25 kiconst_1 ?_
    refine wk_iadd C dM_letter_26 ?_
    refine pf_M_86 C dM_letter_27 ?_
    cases hf
    exact wk_return C hq dM_letter_30
theorem m_M_letter {l : Launch} {G : cGt} (hI : wd_inj (vC G)) {v1 : Int32} {h h' : Hp} {r : Unit}  (hf : f_M_letter v1 h = some (r, h')) : wk_M l (vC G) yM_letter cM_letter 2 none 0 0 [.ref (cad G 46), .int v1] h none h' :=
  wk_met hI (by decide +kernel) rfl (Nat.le_of_ble_eq_true rfl) (wk_cat1 rfl) (fun X hX C hq => by subst hX; exact b_M_letter hI C  hf hq)
set_option maxHeartbeats 4000000 in
set_option maxRecDepth 100000 in
theorem b_M_plain_31 {X : wk_X} {G : cGt} (hI : wd_inj (vC G)) (C : wk_C X (vC G) cM_plain RM 5 2 44) {k3 : Int32 → Int32 → Int32 → Hp → Option (Unit × Hp)} (hk3 : ∀ (v1 : Int32) (v3 : Int32) (v4 : Int32) (h : Hp) (q : Unit × Hp), k3 v1 v3 v4 h = some q → wk_Q X (vC G) none q.2 none → WW X (vC G) h 3 [(0, .ref (cad G 46)), (1, .int v1), (3, .int v3), (4, .int v4)] []) {v1 : Int32} {v3 : Int32} {v4 : Int32} {h : Hp} {q : Unit × Hp}  (hf : f_M_plain_31 k3 v1 v3 v4 h = some q) (hq : wk_Q X (vC G) none q.2 none) : WW X (vC G) h 31 [(0, .ref (cad G 46)), (1, .int v1), (3, .int v3), (4, .int v4)] [] := by
  unfold f_M_plain_31 at hf
  refine wk_aload_n C 0 dM_plain_31 rfl rfl ?_
  refine wk_bipush C dM_plain_32 kbipush_48 ?_
  refine wk_aload_n C 0 dM_plain_34 rfl rfl ?_
  refine wk_iload_n C 1 dM_plain_35 rfl rfl ?_
  refine wk_iload C dM_plain_36 rfl ?_
  obtain ⟨r38, h38, e_38, hf⟩ := bd_some hf
  refine wk_callV (As := [.int v1, .int v4]) (rest := [.int 48, .ref (cad G 46)]) C lw_good cw_M_75 wi_M_digit (m_M_digit hI e_38) lz_46 (he_46 G (h 46)) rfl rfl rfl (Nat.le_of_ble_eq_true rfl) (by decide) dM_plain_38 ?_
  refine wk_iadd C dM_plain_41 ?_
  obtain ⟨r42, h42, e_42, hf⟩ := bd_some hf
  refine wk_callV (As := [.int (48 + r38)]) (rest := []) C lw_good cw_M_89 wi_M_letter (m_M_letter hI e_42) lz_46 (he_46 G (h38 46)) rfl rfl rfl (Nat.le_of_ble_eq_true rfl) (by decide) dM_plain_42 ?_
  refine wk_iinc C dM_plain_45 rfl kiconst_m1 (by decide) ?_
  refine wk_goto (tgt := 3) C dM_plain_48 rfl ?_
  exact wk_go (hk3 _ _ _ _ _ hf hq) (And.intro rfl (And.intro rfl (And.intro rfl (And.intro rfl trivial))))
set_option maxHeartbeats 4000000 in
set_option maxRecDepth 100000 in
theorem b_M_plain_3 {X : wk_X} {G : cGt} (hI : wd_inj (vC G)) (C : wk_C X (vC G) cM_plain RM 5 2 44) : ∀ (n : Nat) {v1 : Int32} {v3 : Int32} {v4 : Int32} {h : Hp} {q : Unit × Hp}  (hf : f_M_plain_3 n v1 v3 v4 h = some q) (hq : wk_Q X (vC G) none q.2 none), WW X (vC G) h 3 [(0, .ref (cad G 46)), (1, .int v1), (3, .int v3), (4, .int v4)] [] := by
  intro n
  induction n with
  | zero =>
    intros
    rename_i hf _
    cases hf
  | succ n ih =>
    intro v1 v3 v4 h q hf hq
    rw [f_M_plain_3] at hf
    refine wk_iload C dM_plain_3 rfl ?_
    refine wk_iload_n C 3 dM_plain_5 rfl rfl ?_
    refine wk_icmp_lt (tgt := 51) C dM_plain_6 rfl hf (fun c_6 hf => ?_) (fun c_6 hf => ?_)
    · cases hf
      exact wk_return C hq dM_plain_51
    · refine wk_aload_n C 0 dM_plain_9 rfl rfl ?_
      refine gf_M_86 C dM_plain_10 ?_
      refine wk_sipush C dM_plain_13 ksipush_1600 ?_
      refine wk_icmp_ge (tgt := 51) C dM_plain_16 rfl hf (fun c_16 hf => ?_) (fun c_16 hf => ?_)
      · cases hf
        exact wk_return C hq dM_plain_51
      · refine wk_iload C dM_plain_19 rfl ?_
        refine wk_iconst C dM_plain_21 kiconst_m1 ?_
        refine wk_icmp_ne (tgt := 31) C dM_plain_22 rfl hf (fun c_22 hf => ?_) (fun c_22 hf => ?_)
        · exact wk_go (b_M_plain_31 hI C (fun _ _ _ _ _ hf hq => ih hf hq) hf hq) (And.intro rfl (And.intro rfl (And.intro rfl (And.intro rfl trivial))))
        · refine wk_aload_n C 0 dM_plain_25 rfl rfl ?_
          refine wk_bipush C dM_plain_26 kbipush_46 ?_
          obtain ⟨r28, h28, e_28, hf⟩ := bd_some hf
          refine wk_callV (As := [.int 46]) (rest := []) C lw_good cw_M_89 wi_M_letter (m_M_letter hI e_28) lz_46 (he_46 G (h 46)) rfl rfl rfl (Nat.le_of_ble_eq_true rfl) (by decide) dM_plain_28 ?_
          exact wk_go (b_M_plain_31 hI C (fun _ _ _ _ _ hf hq => ih hf hq) hf hq) (And.intro rfl (And.intro rfl (And.intro rfl (And.intro rfl trivial))))
set_option maxHeartbeats 4000000 in
set_option maxRecDepth 100000 in
theorem b_M_plain {X : wk_X} {G : cGt} (hI : wd_inj (vC G)) (C : wk_C X (vC G) cM_plain RM 5 2 44) {v1 : Int32} {v2 : Int32} {v3 : Int32} {h : Hp} {q : Unit × Hp}  (hf : f_M_plain v1 v2 v3 h = some q) (hq : wk_Q X (vC G) none q.2 none) : WW X (vC G) h 0 [(0, .ref (cad G 46)), (1, .int v1), (2, .int v2), (3, .int v3)] [] := by
  unfold f_M_plain at hf
  refine wk_iload_n C 2 dM_plain_0 rfl rfl ?_
  refine wk_istore C dM_plain_1 (by decide) ?_
  exact wk_go (b_M_plain_3 hI C fuel hf hq) (And.intro rfl (And.intro rfl (And.intro rfl (And.intro rfl trivial))))
theorem m_M_plain {l : Launch} {G : cGt} (hI : wd_inj (vC G)) {v1 : Int32} {v2 : Int32} {v3 : Int32} {h h' : Hp} {r : Unit}  (hf : f_M_plain v1 v2 v3 h = some (r, h')) : wk_M l (vC G) yM_plain cM_plain 5 none 2 44 [.ref (cad G 46), .int v1, .int v2, .int v3] h none h' :=
  wk_met hI (by decide +kernel) rfl (Nat.le_of_ble_eq_true rfl) (wk_cat1 rfl) (fun X hX C hq => by subst hX; exact b_M_plain hI C  hf hq)
set_option maxHeartbeats 4000000 in
set_option maxRecDepth 100000 in
theorem b_M_write_338 {X : wk_X} {G : cGt} (hI : wd_inj (vC G)) (C : wk_C X (vC G) cM_write RM 6 3 68) {v5 : Int32} {h : Hp} {q : Int32 × Hp}  (hf : f_M_write_338 v5 h = some q) (hq : wk_Q X (vC G) (some (.int q.1)) q.2 (some .int)) : WW X (vC G) h 338 [(0, .ref (cad G 46)), (5, .int v5)] [] := by
  unfold f_M_write_338 at hf
  refine wk_aload_n C 0 dM_write_338 rfl rfl ?_
  refine wk_bipush C dM_write_339 kbipush_48 ?_
  refine wk_iload C dM_write_341 rfl ?_
  refine wk_bipush C dM_write_343 kbipush_10 ?_
  refine wk_irem C dM_write_345 (by decide) ?_
  refine wk_iadd C dM_write_346 ?_
  obtain ⟨r347, h347, e_347, hf⟩ := bd_some hf
  refine wk_callV (As := [.int (48 + (v5 - v5 / 10 * 10))]) (rest := []) C lw_good cw_M_89 wi_M_letter (m_M_letter hI e_347) lz_46 (he_46 G (h 46)) rfl rfl rfl (Nat.le_of_ble_eq_true rfl) (by decide) dM_write_347 ?_
  refine wk_iconst C dM_write_350 kiconst_0 ?_
  cases hf
  exact wk_ireturn C hq dM_write_351
set_option maxHeartbeats 4000000 in
set_option maxRecDepth 100000 in
theorem b_M_write_316 {X : wk_X} {G : cGt} (hI : wd_inj (vC G)) (C : wk_C X (vC G) cM_write RM 6 3 68) {v5 : Int32} {h : Hp} {q : Int32 × Hp}  (hf : f_M_write_316 v5 h = some q) (hq : wk_Q X (vC G) (some (.int q.1)) q.2 (some .int)) : WW X (vC G) h 316 [(0, .ref (cad G 46)), (5, .int v5)] [] := by
  unfold f_M_write_316 at hf
  refine wk_iload C dM_write_316 rfl ?_
  refine wk_bipush C dM_write_318 kbipush_9 ?_
  refine wk_icmp_le (tgt := 338) C dM_write_320 rfl hf (fun c_320 hf => ?_) (fun c_320 hf => ?_)
  · exact wk_go (b_M_write_338 hI C hf hq) (And.intro rfl (And.intro rfl trivial))
  · refine wk_aload_n C 0 dM_write_323 rfl rfl ?_
    refine wk_bipush C dM_write_324 kbipush_48 ?_
    refine wk_iload C dM_write_326 rfl ?_
    refine wk_bipush C dM_write_328 kbipush_10 ?_
    refine wk_idiv C dM_write_330 (by decide) ?_
    refine wk_bipush C dM_write_331 kbipush_10 ?_
    refine wk_irem C dM_write_333 (by decide) ?_
    refine wk_iadd C dM_write_334 ?_
    obtain ⟨r335, h335, e_335, hf⟩ := bd_some hf
    refine wk_callV (As := [.int (48 + ((v5 / 10) - (v5 / 10) / 10 * 10))]) (rest := []) C lw_good cw_M_89 wi_M_letter (m_M_letter hI e_335) lz_46 (he_46 G (h 46)) rfl rfl rfl (Nat.le_of_ble_eq_true rfl) (by decide) dM_write_335 ?_
    exact wk_go (b_M_write_338 hI C hf hq) (And.intro rfl (And.intro rfl trivial))
set_option maxHeartbeats 4000000 in
set_option maxRecDepth 100000 in
theorem b_M_write_295 {X : wk_X} {G : cGt} (hI : wd_inj (vC G)) (C : wk_C X (vC G) cM_write RM 6 3 68) {s0 : Int32} {h : Hp} {q : Int32 × Hp}  (hf : f_M_write_295 s0 h = some q) (hq : wk_Q X (vC G) (some (.int q.1)) q.2 (some .int)) : WW X (vC G) h 295 [(0, .ref (cad G 46))] [.int s0] := by
  unfold f_M_write_295 at hf
  refine wk_istore C dM_write_295 (by decide) ?_
  refine wk_iload C dM_write_297 rfl ?_
  refine wk_bipush C dM_write_299 kbipush_99 ?_
  refine wk_icmp_le (tgt := 316) C dM_write_301 rfl hf (fun c_301 hf => ?_) (fun c_301 hf => ?_)
  · exact wk_go (b_M_write_316 hI C hf hq) (And.intro rfl (And.intro rfl trivial))
  · refine wk_aload_n C 0 dM_write_304 rfl rfl ?_
    refine wk_bipush C dM_write_305 kbipush_48 ?_
    refine wk_iload C dM_write_307 rfl ?_
    refine wk_bipush C dM_write_309 kbipush_100 ?_
    refine wk_idiv C dM_write_311 (by decide) ?_
    refine wk_iadd C dM_write_312 ?_
    obtain ⟨r313, h313, e_313, hf⟩ := bd_some hf
    refine wk_callV (As := [.int (48 + (s0 / 100))]) (rest := []) C lw_good cw_M_89 wi_M_letter (m_M_letter hI e_313) lz_46 (he_46 G (h 46)) rfl rfl rfl (Nat.le_of_ble_eq_true rfl) (by decide) dM_write_313 ?_
    exact wk_go (b_M_write_316 hI C hf hq) (And.intro rfl (And.intro rfl trivial))
set_option maxHeartbeats 4000000 in
set_option maxRecDepth 100000 in
theorem b_M_write_210 {X : wk_X} {G : cGt} (hI : wd_inj (vC G)) (C : wk_C X (vC G) cM_write RM 6 3 68) : ∀ (n : Nat) {v1 : Int32} {v3 : Int32} {v4 : Int32} {v5 : Int32} {h : Hp} {q : Int32 × Hp}  (hf : f_M_write_210 n v1 v3 v4 v5 h = some q) (hq : wk_Q X (vC G) (some (.int q.1)) q.2 (some .int)), WW X (vC G) h 210 [(0, .ref (cad G 46)), (1, .int v1), (3, .int v3), (4, .int v4), (5, .int v5)] [] := by
  intro n
  induction n with
  | zero =>
    intros
    rename_i hf _
    cases hf
  | succ n ih =>
    intro v1 v3 v4 v5 h q hf hq
    rw [f_M_write_210] at hf
    refine wk_iload C dM_write_210 rfl ?_
    refine wk_aload_n C 0 dM_write_212 rfl rfl ?_
    refine gf_M_26 C dM_write_213 ?_
    refine wk_iload_n C 1 dM_write_216 rfl rfl ?_
    obtain ⟨c_217, hf⟩ := chk_some hf
    refine al_51 C c_217 dM_write_217 ?_
    refine wk_icmp_ge (tgt := 247) C dM_write_218 rfl hf (fun c_218 hf => ?_) (fun c_218 hf => ?_)
    · refine wk_iload_n C 3 dM_write_247 rfl rfl ?_
      refine wk_iload C dM_write_248 rfl ?_
      refine wk_isub C dM_write_250 ?_
      refine wk_istore C dM_write_251 (by decide) ?_
      refine wk_iload C dM_write_253 rfl ?_
      refine wk_if_ne (tgt := 260) C dM_write_255 rfl hf (fun c_255 hf => ?_) (fun c_255 hf => ?_)
      · refine wk_aload_n C 0 dM_write_260 rfl rfl ?_
        refine wk_bipush C dM_write_261 kbipush_69 ?_
        obtain ⟨r263, h263, e_263, hf⟩ := bd_some hf
        refine wk_callV (As := [.int 69]) (rest := []) C lw_good cw_M_89 wi_M_letter (m_M_letter hI e_263) lz_46 (he_46 G (h 46)) rfl rfl rfl (Nat.le_of_ble_eq_true rfl) (by decide) dM_write_263 ?_
        refine wk_aload_n C 0 dM_write_266 rfl rfl ?_
        refine wk_iload C dM_write_267 rfl ?_
        refine wk_if_ge (tgt := 277) C dM_write_269 rfl hf (fun c_269 hf => ?_) (fun c_269 hf => ?_)
        · refine wk_bipush C dM_write_277 kbipush_43 ?_
          obtain ⟨r279, h279, e_279, hf⟩ := bd_some hf
          refine wk_callV (As := [.int 43]) (rest := []) C lw_good cw_M_89 wi_M_letter (m_M_letter hI e_279) lz_46 (he_46 G (h263 46)) rfl rfl rfl (Nat.le_of_ble_eq_true rfl) (by decide) dM_write_279 ?_
          refine wk_iload C dM_write_282 rfl ?_
          refine wk_if_ge (tgt := 293) C dM_write_284 rfl hf (fun c_284 hf => ?_) (fun c_284 hf => ?_)
          · refine wk_iload C dM_write_293 rfl ?_
            exact wk_go (b_M_write_295 hI C hf hq) (And.intro rfl trivial)
          · refine wk_iload C dM_write_287 rfl ?_
            refine wk_ineg C dM_write_289 ?_
            refine wk_goto (tgt := 295) C dM_write_290 rfl ?_
            exact wk_go (b_M_write_295 hI C hf hq) (And.intro rfl trivial)
        · refine wk_bipush C dM_write_272 kbipush_45 ?_
          refine wk_goto (tgt := 279) C dM_write_274 rfl ?_
          obtain ⟨r279, h279, e_279, hf⟩ := bd_some hf
          refine wk_callV (As := [.int 45]) (rest := []) C lw_good cw_M_89 wi_M_letter (m_M_letter hI e_279) lz_46 (he_46 G (h263 46)) rfl rfl rfl (Nat.le_of_ble_eq_true rfl) (by decide) dM_write_279 ?_
          refine wk_iload C dM_write_282 rfl ?_
          refine wk_if_ge (tgt := 293) C dM_write_284 rfl hf (fun c_284 hf => ?_) (fun c_284 hf => ?_)
          · refine wk_iload C dM_write_293 rfl ?_
            exact wk_go (b_M_write_295 hI C hf hq) (And.intro rfl trivial)
          · refine wk_iload C dM_write_287 rfl ?_
            refine wk_ineg C dM_write_289 ?_
            refine wk_goto (tgt := 295) C dM_write_290 rfl ?_
            exact wk_go (b_M_write_295 hI C hf hq) (And.intro rfl trivial)
      · refine wk_iconst C dM_write_258 kiconst_0 ?_
        cases hf
        exact wk_ireturn C hq dM_write_259
    · refine wk_aload_n C 0 dM_write_221 rfl rfl ?_
      refine wk_bipush C dM_write_222 kbipush_48 ?_
      refine wk_aload_n C 0 dM_write_224 rfl rfl ?_
      refine gf_M_23 C dM_write_225 ?_
      refine wk_sipush C dM_write_228 ksipush_2600 ?_
      refine wk_iload_n C 1 dM_write_231 rfl rfl ?_
      refine wk_imul C dM_write_232 ?_
      refine wk_iload C dM_write_233 rfl ?_
      refine wk_iadd C dM_write_235 ?_
      obtain ⟨c_236, hf⟩ := chk_some hf
      refine al_50 C c_236 dM_write_236 ?_
      refine wk_iadd C dM_write_237 ?_
      obtain ⟨r238, h238, e_238, hf⟩ := bd_some hf
      refine wk_callV (As := [.int (48 + (h 50 (Int32.toNatClampNeg ((2600 * v1) + v5))))]) (rest := []) C lw_good cw_M_89 wi_M_letter (m_M_letter hI e_238) lz_46 (he_46 G (h 46)) rfl rfl rfl (Nat.le_of_ble_eq_true rfl) (by decide) dM_write_238 ?_
      refine wk_iinc C dM_write_241 rfl kiconst_1 (by decide) ?_
      refine wk_goto (tgt := 210) C dM_write_244 rfl ?_
      exact wk_go (ih hf hq) (And.intro rfl (And.intro rfl (And.intro rfl (And.intro rfl (And.intro rfl trivial)))))
set_option maxHeartbeats 4000000 in
set_option maxRecDepth 100000 in
theorem b_M_write_136 {X : wk_X} {G : cGt} (hI : wd_inj (vC G)) (C : wk_C X (vC G) cM_write RM 6 3 68) : ∀ (n : Nat) {v1 : Int32} {v3 : Int32} {v4 : Int32} {v5 : Int32} {h : Hp} {q : Int32 × Hp}  (hf : f_M_write_136 n v1 v3 v4 v5 h = some q) (hq : wk_Q X (vC G) (some (.int q.1)) q.2 (some .int)), WW X (vC G) h 136 [(0, .ref (cad G 46)), (1, .int v1), (3, .int v3), (4, .int v4), (5, .int v5)] [] := by
  intro n
  induction n with
  | zero =>
    intros
    rename_i hf _
    cases hf
  | succ n ih =>
    intro v1 v3 v4 v5 h q hf hq
    rw [f_M_write_136] at hf
    refine wk_iload C dM_write_136 rfl ?_
    refine wk_iload C dM_write_138 rfl ?_
    refine wk_icmp_gt (tgt := 185) C dM_write_140 rfl hf (fun c_140 hf => ?_) (fun c_140 hf => ?_)
    · refine wk_aload_n C 0 dM_write_185 rfl rfl ?_
      refine gf_M_26 C dM_write_186 ?_
      refine wk_iload_n C 1 dM_write_189 rfl rfl ?_
      obtain ⟨c_190, hf⟩ := chk_some hf
      refine al_51 C c_190 dM_write_190 ?_
      refine wk_iload C dM_write_191 rfl ?_
      refine wk_iconst C dM_write_193 kiconst_1 ?_
      refine wk_iadd C dM_write_194 ?_
      refine wk_icmp_le (tgt := 204) C dM_write_195 rfl hf (fun c_195 hf => ?_) (fun c_195 hf => ?_)
      · refine wk_iload C dM_write_204 rfl ?_
        refine wk_iconst C dM_write_206 kiconst_1 ?_
        refine wk_iadd C dM_write_207 ?_
        refine wk_istore C dM_write_208 (by decide) ?_
        exact wk_go (b_M_write_210 hI C fuel hf hq) (And.intro rfl (And.intro rfl (And.intro rfl (And.intro rfl (And.intro rfl trivial)))))
      · refine wk_aload_n C 0 dM_write_198 rfl rfl ?_
        refine wk_bipush C dM_write_199 kbipush_46 ?_
        obtain ⟨r201, h201, e_201, hf⟩ := bd_some hf
        refine wk_callV (As := [.int 46]) (rest := []) C lw_good cw_M_89 wi_M_letter (m_M_letter hI e_201) lz_46 (he_46 G (h 46)) rfl rfl rfl (Nat.le_of_ble_eq_true rfl) (by decide) dM_write_201 ?_
        refine wk_iload C dM_write_204 rfl ?_
        refine wk_iconst C dM_write_206 kiconst_1 ?_
        refine wk_iadd C dM_write_207 ?_
        refine wk_istore C dM_write_208 (by decide) ?_
        exact wk_go (b_M_write_210 hI C fuel hf hq) (And.intro rfl (And.intro rfl (And.intro rfl (And.intro rfl (And.intro rfl trivial)))))
    · refine wk_aload_n C 0 dM_write_143 rfl rfl ?_
      refine wk_iload C dM_write_144 rfl ?_
      refine wk_aload_n C 0 dM_write_146 rfl rfl ?_
      refine gf_M_26 C dM_write_147 ?_
      refine wk_iload_n C 1 dM_write_150 rfl rfl ?_
      obtain ⟨c_151, hf⟩ := chk_some hf
      refine al_51 C c_151 dM_write_151 ?_
      refine wk_icmp_ge (tgt := 174) C dM_write_152 rfl hf (fun c_152 hf => ?_) (fun c_152 hf => ?_)
      · refine wk_bipush C dM_write_174 kbipush_48 ?_
        obtain ⟨r176, h176, e_176, hf⟩ := bd_some hf
        refine wk_callV (As := [.int 48]) (rest := []) C lw_good cw_M_89 wi_M_letter (m_M_letter hI e_176) lz_46 (he_46 G (h 46)) rfl rfl rfl (Nat.le_of_ble_eq_true rfl) (by decide) dM_write_176 ?_
        refine wk_iinc C dM_write_179 rfl kiconst_1 (by decide) ?_
        refine wk_goto (tgt := 136) C dM_write_182 rfl ?_
        exact wk_go (ih hf hq) (And.intro rfl (And.intro rfl (And.intro rfl (And.intro rfl (And.intro rfl trivial)))))
      · refine wk_bipush C dM_write_155 kbipush_48 ?_
        refine wk_aload_n C 0 dM_write_157 rfl rfl ?_
        refine gf_M_23 C dM_write_158 ?_
        refine wk_sipush C dM_write_161 ksipush_2600 ?_
        refine wk_iload_n C 1 dM_write_164 rfl rfl ?_
        refine wk_imul C dM_write_165 ?_
        refine wk_iload C dM_write_166 rfl ?_
        refine wk_iadd C dM_write_168 ?_
        obtain ⟨c_169, hf⟩ := chk_some hf
        refine al_50 C c_169 dM_write_169 ?_
        refine wk_iadd C dM_write_170 ?_
        refine wk_goto (tgt := 176) C dM_write_171 rfl ?_
        obtain ⟨r176, h176, e_176, hf⟩ := bd_some hf
        refine wk_callV (As := [.int (48 + (h 50 (Int32.toNatClampNeg ((2600 * v1) + v5))))]) (rest := []) C lw_good cw_M_89 wi_M_letter (m_M_letter hI e_176) lz_46 (he_46 G (h 46)) rfl rfl rfl (Nat.le_of_ble_eq_true rfl) (by decide) dM_write_176 ?_
        refine wk_iinc C dM_write_179 rfl kiconst_1 (by decide) ?_
        refine wk_goto (tgt := 136) C dM_write_182 rfl ?_
        exact wk_go (ih hf hq) (And.intro rfl (And.intro rfl (And.intro rfl (And.intro rfl (And.intro rfl trivial)))))
set_option maxHeartbeats 4000000 in
set_option maxRecDepth 100000 in
theorem b_M_write_89 {X : wk_X} {G : cGt} (hI : wd_inj (vC G)) (C : wk_C X (vC G) cM_write RM 6 3 68) {v1 : Int32} {h : Hp} {q : Int32 × Hp}  (hf : f_M_write_89 v1 h = some q) (hq : wk_Q X (vC G) (some (.int q.1)) q.2 (some .int)) : WW X (vC G) h 89 [(0, .ref (cad G 46)), (1, .int v1)] [] := by
  unfold f_M_write_89 at hf
  refine wk_aload_n C 0 dM_write_89 rfl rfl ?_
  refine wk_iload_n C 1 dM_write_90 rfl rfl ?_
  obtain ⟨r91, h91, e_91, hf⟩ := bd_some hf
  refine wk_callV (As := [.int v1]) (rest := []) C lw_good cw_M_67 wi_M_high (m_M_high hI e_91) lz_46 (he_46 G (h 46)) rfl rfl rfl (Nat.le_of_ble_eq_true rfl) (by decide) dM_write_91 ?_
  refine wk_istore_n C 3 dM_write_94 rfl (by decide) ?_
  refine wk_iload_n C 3 dM_write_95 rfl rfl ?_
  refine wk_sipush C dM_write_96 ksipush_999 ?_
  refine wk_icmp_gt (tgt := 109) C dM_write_99 rfl hf (fun c_99 hf => ?_) (fun c_99 hf => ?_)
  · refine wk_bipush C dM_write_109 kbipush_42 ?_
    cases hf
    exact wk_ireturn C hq dM_write_111
  · refine wk_iload_n C 3 dM_write_102 rfl rfl ?_
    refine wk_sipush C dM_write_103 ksipush_m999 ?_
    refine wk_icmp_ge (tgt := 112) C dM_write_106 rfl hf (fun c_106 hf => ?_) (fun c_106 hf => ?_)
    · refine wk_aload_n C 0 dM_write_112 rfl rfl ?_
      refine gf_M_55 C dM_write_113 ?_
      refine wk_iconst C dM_write_116 kiconst_1 ?_
      refine wk_icmp_ne (tgt := 130) C dM_write_117 rfl hf (fun c_117 hf => ?_) (fun c_117 hf => ?_)
      · refine wk_iconst C dM_write_130 kiconst_0 ?_
        refine wk_istore C dM_write_131 (by decide) ?_
        refine wk_iconst C dM_write_133 kiconst_0 ?_
        refine wk_istore C dM_write_134 (by decide) ?_
        exact wk_go (b_M_write_136 hI C fuel hf hq) (And.intro rfl (And.intro rfl (And.intro rfl (And.intro rfl (And.intro rfl trivial)))))
      · refine wk_iload_n C 3 dM_write_120 rfl rfl ?_
        refine wk_iconst C dM_write_121 kiconst_3 ?_
        refine wk_irem C dM_write_122 (by decide) ?_
        refine wk_iconst C dM_write_123 kiconst_3 ?_
        refine wk_iadd C dM_write_124 ?_
        refine wk_iconst C dM_write_125 kiconst_3 ?_
        refine wk_irem C dM_write_126 (by decide) ?_
        refine wk_goto (tgt := 131) C dM_write_127 rfl ?_
        refine wk_istore C dM_write_131 (by decide) ?_
        refine wk_iconst C dM_write_133 kiconst_0 ?_
        refine wk_istore C dM_write_134 (by decide) ?_
        exact wk_go (b_M_write_136 hI C fuel hf hq) (And.intro rfl (And.intro rfl (And.intro rfl (And.intro rfl (And.intro rfl trivial)))))
    · refine wk_bipush C dM_write_109 kbipush_42 ?_
      cases hf
      exact wk_ireturn C hq dM_write_111
set_option maxHeartbeats 4000000 in
set_option maxRecDepth 100000 in
theorem b_M_write_65 {X : wk_X} {G : cGt} (hI : wd_inj (vC G)) (C : wk_C X (vC G) cM_write RM 6 3 68) {v1 : Int32} {s1 : Int32} {s2 : Int32} {h : Hp} {q : Int32 × Hp}  (hf : f_M_write_65 v1 s1 s2 h = some q) (hq : wk_Q X (vC G) (some (.int q.1)) q.2 (some .int)) : WW X (vC G) h 65 [(0, .ref (cad G 46)), (1, .int v1)] [.int s2, .int s1, .ref (cad G 46)] := by
  unfold f_M_write_65 at hf
  refine wk_aload_n C 0 dM_write_65 rfl rfl ?_
  refine gf_M_29 C dM_write_66 ?_
  refine wk_iload_n C 1 dM_write_69 rfl rfl ?_
  obtain ⟨c_70, hf⟩ := chk_some hf
  refine al_52 C c_70 dM_write_70 ?_
  refine wk_if_ge (tgt := 83) C dM_write_71 rfl hf (fun c_71 hf => ?_) (fun c_71 hf => ?_)
  · refine wk_iconst C dM_write_83 kiconst_0 ?_
    obtain ⟨r84, h84, e_84, hf⟩ := bd_some hf
    refine wk_callV (As := [.int s1, .int s2, .int 0]) (rest := []) C lw_good cw_M_92 wi_M_plain (m_M_plain hI e_84) lz_46 (he_46 G (h 46)) rfl rfl rfl (Nat.le_of_ble_eq_true rfl) (by decide) dM_write_84 ?_
    refine wk_iconst C dM_write_87 kiconst_0 ?_
    cases hf
    exact wk_ireturn C hq dM_write_88
  · refine wk_aload_n C 0 dM_write_74 rfl rfl ?_
    refine gf_M_29 C dM_write_75 ?_
    refine wk_iload_n C 1 dM_write_78 rfl rfl ?_
    obtain ⟨c_79, hf⟩ := chk_some hf
    refine al_52 C c_79 dM_write_79 ?_
    refine wk_goto (tgt := 84) C dM_write_80 rfl ?_
    obtain ⟨r84, h84, e_84, hf⟩ := bd_some hf
    refine wk_callV (As := [.int s1, .int s2, .int (h 52 (Int32.toNatClampNeg v1))]) (rest := []) C lw_good cw_M_92 wi_M_plain (m_M_plain hI e_84) lz_46 (he_46 G (h 46)) rfl rfl rfl (Nat.le_of_ble_eq_true rfl) (by decide) dM_write_84 ?_
    refine wk_iconst C dM_write_87 kiconst_0 ?_
    cases hf
    exact wk_ireturn C hq dM_write_88
set_option maxHeartbeats 4000000 in
set_option maxRecDepth 100000 in
theorem b_M_write_20 {X : wk_X} {G : cGt} (hI : wd_inj (vC G)) (C : wk_C X (vC G) cM_write RM 6 3 68) {v1 : Int32} {h : Hp} {q : Int32 × Hp}  (hf : f_M_write_20 v1 h = some q) (hq : wk_Q X (vC G) (some (.int q.1)) q.2 (some .int)) : WW X (vC G) h 20 [(0, .ref (cad G 46)), (1, .int v1)] [] := by
  unfold f_M_write_20 at hf
  refine wk_aload_n C 0 dM_write_20 rfl rfl ?_
  refine wk_iload_n C 1 dM_write_21 rfl rfl ?_
  obtain ⟨r22, h22, e_22, hf⟩ := bd_some hf
  refine wk_callV (As := [.int v1]) (rest := []) C lw_good cw_M_67 wi_M_high (m_M_high hI e_22) lz_46 (he_46 G (h 46)) rfl rfl rfl (Nat.le_of_ble_eq_true rfl) (by decide) dM_write_22 ?_
  refine wk_iconst C dM_write_25 kiconst_1 ?_
  refine wk_iadd C dM_write_26 ?_
  refine wk_istore_n C 2 dM_write_27 rfl (by decide) ?_
  refine wk_iload_n C 2 dM_write_28 rfl rfl ?_
  refine wk_aload_n C 0 dM_write_29 rfl rfl ?_
  refine gf_M_19 C dM_write_30 ?_
  refine wk_icmp_gt (tgt := 89) C dM_write_33 rfl hf (fun c_33 hf => ?_) (fun c_33 hf => ?_)
  · exact wk_go (b_M_write_89 hI C hf hq) (And.intro rfl (And.intro rfl trivial))
  · refine wk_aload_n C 0 dM_write_36 rfl rfl ?_
    refine gf_M_29 C dM_write_37 ?_
    refine wk_iload_n C 1 dM_write_40 rfl rfl ?_
    obtain ⟨c_41, hf⟩ := chk_some hf
    refine al_52 C c_41 dM_write_41 ?_
    refine wk_ineg C dM_write_42 ?_
    refine wk_iconst C dM_write_43 kiconst_2 ?_
    refine wk_aload_n C 0 dM_write_44 rfl rfl ?_
    refine gf_M_19 C dM_write_45 ?_
    refine wk_imul C dM_write_48 ?_
    refine wk_icmp_gt (tgt := 89) C dM_write_49 rfl hf (fun c_49 hf => ?_) (fun c_49 hf => ?_)
    · exact wk_go (b_M_write_89 hI C hf hq) (And.intro rfl (And.intro rfl trivial))
    · refine wk_aload_n C 0 dM_write_52 rfl rfl ?_
      refine wk_iload_n C 1 dM_write_53 rfl rfl ?_
      refine wk_iload_n C 2 dM_write_54 rfl rfl ?_
      refine wk_if_le (tgt := 64) C dM_write_55 rfl hf (fun c_55 hf => ?_) (fun c_55 hf => ?_)
      · refine wk_iconst C dM_write_64 kiconst_0 ?_
        exact wk_go (b_M_write_65 hI C hf hq) (And.intro rfl (And.intro rfl trivial))
      · refine wk_iload_n C 2 dM_write_58 rfl rfl ?_
        refine wk_iconst C dM_write_59 kiconst_1 ?_
        refine wk_isub C dM_write_60 ?_
        refine wk_goto (tgt := 65) C dM_write_61 rfl ?_
        exact wk_go (b_M_write_65 hI C hf hq) (And.intro rfl (And.intro rfl trivial))
set_option maxHeartbeats 4000000 in
set_option maxRecDepth 100000 in
theorem b_M_write {X : wk_X} {G : cGt} (hI : wd_inj (vC G)) (C : wk_C X (vC G) cM_write RM 6 3 68) {v1 : Int32} {h : Hp} {q : Int32 × Hp}  (hf : f_M_write v1 h = some q) (hq : wk_Q X (vC G) (some (.int q.1)) q.2 (some .int)) : WW X (vC G) h 0 [(0, .ref (cad G 46)), (1, .int v1)] [] := by
  unfold f_M_write at hf
  refine wk_aload_n C 0 dM_write_0 rfl rfl ?_
  refine wk_iconst C dM_write_1 kiconst_0 ?_
  refine pf_M_86 C dM_write_2 ?_
  refine wk_aload_n C 0 dM_write_5 rfl rfl ?_
  refine gf_M_32 C dM_write_6 ?_
  refine wk_iload_n C 1 dM_write_9 rfl rfl ?_
  obtain ⟨c_10, hf⟩ := chk_some hf
  refine al_53 C c_10 dM_write_10 ?_
  refine wk_if_ge (tgt := 20) C dM_write_11 rfl hf (fun c_11 hf => ?_) (fun c_11 hf => ?_)
  · exact wk_go (b_M_write_20 hI C hf hq) (And.intro rfl (And.intro rfl trivial))
  · refine wk_aload_n C 0 dM_write_14 rfl rfl ?_
    refine wk_bipush C dM_write_15 kbipush_45 ?_
    obtain ⟨r17, h17, e_17, hf⟩ := bd_some hf
    refine wk_callV (As := [.int 45]) (rest := []) C lw_good cw_M_89 wi_M_letter (m_M_letter hI e_17) lz_46 (he_46 G ((up2 h 46 13 0) 46)) rfl rfl rfl (Nat.le_of_ble_eq_true rfl) (by decide) dM_write_17 ?_
    exact wk_go (b_M_write_20 hI C hf hq) (And.intro rfl (And.intro rfl trivial))
theorem m_M_write {l : Launch} {G : cGt} (hI : wd_inj (vC G)) {v1 : Int32} {h h' : Hp} {r : Int32}  (hf : f_M_write v1 h = some (r, h')) : wk_M l (vC G) yM_write cM_write 6 (some .int) 3 68 [.ref (cad G 46), .int v1] h (some (.int r)) h' :=
  wk_met hI (by decide +kernel) rfl (Nat.le_of_ble_eq_true rfl) (wk_cat1 rfl) (fun X hX C hq => by subst hX; exact b_M_write hI C  hf hq)
