theorem dW_law_0 : decode cW_law 0 = .ok (.new 7, 3) := by decide +kernel
theorem dW_law_3 : decode cW_law 3 = .ok (.dup, 1) := by decide +kernel
theorem dW_law_4 : decode cW_law 4 = .ok (.invokespecial 9, 3) := by decide +kernel
theorem dW_law_7 : decode cW_law 7 = .ok (.astore_n 1, 1) := by decide +kernel
theorem dW_law_8 : decode cW_law 8 = .ok (.new 10, 3) := by decide +kernel
theorem dW_law_11 : decode cW_law 11 = .ok (.dup, 1) := by decide +kernel
theorem dW_law_12 : decode cW_law 12 = .ok (.invokespecial 12, 3) := by decide +kernel
theorem dW_law_15 : decode cW_law 15 = .ok (.astore_n 2, 1) := by decide +kernel
theorem dW_law_16 : decode cW_law 16 = .ok (.iconst 0, 1) := by decide +kernel
theorem dW_law_17 : decode cW_law 17 = .ok (.istore_n 3, 1) := by decide +kernel
theorem dW_law_18 : decode cW_law 18 = .ok (.iload_n 3, 1) := by decide +kernel
theorem dW_law_19 : decode cW_law 19 = .ok (.aload_n 0, 1) := by decide +kernel
theorem dW_law_20 : decode cW_law 20 = .ok (.arraylength, 1) := by decide +kernel
theorem dW_law_21 : decode cW_law 21 = .ok (.bipush 6, 2) := by decide +kernel
theorem dW_law_23 : decode cW_law 23 = .ok (.isub, 1) := by decide +kernel
theorem dW_law_24 : decode cW_law 24 = .ok (.if_icmp .gt 704, 3) := by decide +kernel
theorem dW_law_27 : decode cW_law 27 = .ok (.aload_n 0, 1) := by decide +kernel
theorem dW_law_28 : decode cW_law 28 = .ok (.iload_n 3, 1) := by decide +kernel
theorem dW_law_29 : decode cW_law 29 = .ok (.iaload, 1) := by decide +kernel
theorem dW_law_30 : decode cW_law 30 = .ok (.bipush 15, 2) := by decide +kernel
theorem dW_law_32 : decode cW_law 32 = .ok (.iand, 1) := by decide +kernel
theorem dW_law_33 : decode cW_law 33 = .ok (.tableswitch 689 0 15 #[79, 142, 165, 188, 211, 244, 267, 290, 313, 366, 409, 478, 521, 574, 633, 656], 79) := by decide +kernel
theorem dW_law_112 : decode cW_law 112 = .ok (.aload_n 1, 1) := by decide +kernel
theorem dW_law_113 : decode cW_law 113 = .ok (.aload_n 0, 1) := by decide +kernel
theorem dW_law_114 : decode cW_law 114 = .ok (.iload_n 3, 1) := by decide +kernel
theorem dW_law_115 : decode cW_law 115 = .ok (.iconst 1, 1) := by decide +kernel
theorem dW_law_116 : decode cW_law 116 = .ok (.iadd, 1) := by decide +kernel
theorem dW_law_117 : decode cW_law 117 = .ok (.iaload, 1) := by decide +kernel
theorem dW_law_118 : decode cW_law 118 = .ok (.aload_n 0, 1) := by decide +kernel
theorem dW_law_119 : decode cW_law 119 = .ok (.iload_n 3, 1) := by decide +kernel
theorem dW_law_120 : decode cW_law 120 = .ok (.iconst 2, 1) := by decide +kernel
theorem dW_law_121 : decode cW_law 121 = .ok (.iadd, 1) := by decide +kernel
theorem dW_law_122 : decode cW_law 122 = .ok (.iaload, 1) := by decide +kernel
theorem dW_law_123 : decode cW_law 123 = .ok (.aload_n 0, 1) := by decide +kernel
theorem dW_law_124 : decode cW_law 124 = .ok (.iload_n 3, 1) := by decide +kernel
theorem dW_law_125 : decode cW_law 125 = .ok (.iconst 3, 1) := by decide +kernel
theorem dW_law_126 : decode cW_law 126 = .ok (.iadd, 1) := by decide +kernel
theorem dW_law_127 : decode cW_law 127 = .ok (.iaload, 1) := by decide +kernel
theorem dW_law_128 : decode cW_law 128 = .ok (.aload_n 0, 1) := by decide +kernel
theorem dW_law_129 : decode cW_law 129 = .ok (.iload_n 3, 1) := by decide +kernel
theorem dW_law_130 : decode cW_law 130 = .ok (.iconst 4, 1) := by decide +kernel
theorem dW_law_131 : decode cW_law 131 = .ok (.iadd, 1) := by decide +kernel
theorem dW_law_132 : decode cW_law 132 = .ok (.iaload, 1) := by decide +kernel
theorem dW_law_133 : decode cW_law 133 = .ok (.aload_n 0, 1) := by decide +kernel
theorem dW_law_134 : decode cW_law 134 = .ok (.iload_n 3, 1) := by decide +kernel
theorem dW_law_135 : decode cW_law 135 = .ok (.iconst 5, 1) := by decide +kernel
theorem dW_law_136 : decode cW_law 136 = .ok (.iadd, 1) := by decide +kernel
theorem dW_law_137 : decode cW_law 137 = .ok (.iaload, 1) := by decide +kernel
theorem dW_law_138 : decode cW_law 138 = .ok (.invokevirtual 13, 3) := by decide +kernel
theorem dW_law_141 : decode cW_law 141 = .ok (.aload_n 2, 1) := by decide +kernel
theorem dW_law_142 : decode cW_law 142 = .ok (.aload_n 0, 1) := by decide +kernel
theorem dW_law_143 : decode cW_law 143 = .ok (.iload_n 3, 1) := by decide +kernel
theorem dW_law_144 : decode cW_law 144 = .ok (.iconst 1, 1) := by decide +kernel
theorem dW_law_145 : decode cW_law 145 = .ok (.iadd, 1) := by decide +kernel
theorem dW_law_146 : decode cW_law 146 = .ok (.iaload, 1) := by decide +kernel
theorem dW_law_147 : decode cW_law 147 = .ok (.aload_n 0, 1) := by decide +kernel
theorem dW_law_148 : decode cW_law 148 = .ok (.iload_n 3, 1) := by decide +kernel
theorem dW_law_149 : decode cW_law 149 = .ok (.iconst 2, 1) := by decide +kernel
theorem dW_law_150 : decode cW_law 150 = .ok (.iadd, 1) := by decide +kernel
theorem dW_law_151 : decode cW_law 151 = .ok (.iaload, 1) := by decide +kernel
theorem dW_law_152 : decode cW_law 152 = .ok (.aload_n 0, 1) := by decide +kernel
theorem dW_law_153 : decode cW_law 153 = .ok (.iload_n 3, 1) := by decide +kernel
theorem dW_law_154 : decode cW_law 154 = .ok (.iconst 3, 1) := by decide +kernel
theorem dW_law_155 : decode cW_law 155 = .ok (.iadd, 1) := by decide +kernel
theorem dW_law_156 : decode cW_law 156 = .ok (.iaload, 1) := by decide +kernel
theorem dW_law_157 : decode cW_law 157 = .ok (.aload_n 0, 1) := by decide +kernel
theorem dW_law_158 : decode cW_law 158 = .ok (.iload_n 3, 1) := by decide +kernel
theorem dW_law_159 : decode cW_law 159 = .ok (.iconst 4, 1) := by decide +kernel
theorem dW_law_160 : decode cW_law 160 = .ok (.iadd, 1) := by decide +kernel
theorem dW_law_161 : decode cW_law 161 = .ok (.iaload, 1) := by decide +kernel
theorem dW_law_162 : decode cW_law 162 = .ok (.aload_n 0, 1) := by decide +kernel
theorem dW_law_163 : decode cW_law 163 = .ok (.iload_n 3, 1) := by decide +kernel
theorem dW_law_164 : decode cW_law 164 = .ok (.iconst 5, 1) := by decide +kernel
theorem dW_law_165 : decode cW_law 165 = .ok (.iadd, 1) := by decide +kernel
theorem dW_law_166 : decode cW_law 166 = .ok (.iaload, 1) := by decide +kernel
theorem dW_law_167 : decode cW_law 167 = .ok (.invokevirtual 17, 3) := by decide +kernel
theorem dW_law_170 : decode cW_law 170 = .ok (.if_icmp .eq 552, 3) := by decide +kernel
theorem dW_law_173 : decode cW_law 173 = .ok (.iconst 0, 1) := by decide +kernel
theorem dW_law_174 : decode cW_law 174 = .ok (.ireturn, 1) := by decide +kernel
theorem dW_law_175 : decode cW_law 175 = .ok (.aload_n 1, 1) := by decide +kernel
theorem dW_law_176 : decode cW_law 176 = .ok (.aload_n 0, 1) := by decide +kernel
theorem dW_law_177 : decode cW_law 177 = .ok (.iload_n 3, 1) := by decide +kernel
theorem dW_law_178 : decode cW_law 178 = .ok (.iconst 1, 1) := by decide +kernel
theorem dW_law_179 : decode cW_law 179 = .ok (.iadd, 1) := by decide +kernel
theorem dW_law_180 : decode cW_law 180 = .ok (.iaload, 1) := by decide +kernel
theorem dW_law_181 : decode cW_law 181 = .ok (.invokevirtual 18, 3) := by decide +kernel
theorem dW_law_184 : decode cW_law 184 = .ok (.aload_n 2, 1) := by decide +kernel
theorem dW_law_185 : decode cW_law 185 = .ok (.aload_n 0, 1) := by decide +kernel
theorem dW_law_186 : decode cW_law 186 = .ok (.iload_n 3, 1) := by decide +kernel
theorem dW_law_187 : decode cW_law 187 = .ok (.iconst 1, 1) := by decide +kernel
theorem dW_law_188 : decode cW_law 188 = .ok (.iadd, 1) := by decide +kernel
theorem dW_law_189 : decode cW_law 189 = .ok (.iaload, 1) := by decide +kernel
theorem dW_law_190 : decode cW_law 190 = .ok (.invokevirtual 22, 3) := by decide +kernel
theorem dW_law_193 : decode cW_law 193 = .ok (.if_icmp .eq 529, 3) := by decide +kernel
theorem dW_law_196 : decode cW_law 196 = .ok (.iconst 0, 1) := by decide +kernel
theorem dW_law_197 : decode cW_law 197 = .ok (.ireturn, 1) := by decide +kernel
theorem dW_law_198 : decode cW_law 198 = .ok (.aload_n 1, 1) := by decide +kernel
theorem dW_law_199 : decode cW_law 199 = .ok (.aload_n 0, 1) := by decide +kernel
theorem dW_law_200 : decode cW_law 200 = .ok (.iload_n 3, 1) := by decide +kernel
theorem dW_law_201 : decode cW_law 201 = .ok (.iconst 1, 1) := by decide +kernel
theorem dW_law_202 : decode cW_law 202 = .ok (.iadd, 1) := by decide +kernel
theorem dW_law_203 : decode cW_law 203 = .ok (.iaload, 1) := by decide +kernel
theorem dW_law_204 : decode cW_law 204 = .ok (.invokevirtual 23, 3) := by decide +kernel
theorem dW_law_207 : decode cW_law 207 = .ok (.aload_n 2, 1) := by decide +kernel
theorem dW_law_208 : decode cW_law 208 = .ok (.aload_n 0, 1) := by decide +kernel
theorem dW_law_209 : decode cW_law 209 = .ok (.iload_n 3, 1) := by decide +kernel
theorem dW_law_210 : decode cW_law 210 = .ok (.iconst 1, 1) := by decide +kernel
theorem dW_law_211 : decode cW_law 211 = .ok (.iadd, 1) := by decide +kernel
theorem dW_law_212 : decode cW_law 212 = .ok (.iaload, 1) := by decide +kernel
theorem dW_law_213 : decode cW_law 213 = .ok (.invokevirtual 26, 3) := by decide +kernel
theorem dW_law_216 : decode cW_law 216 = .ok (.if_icmp .eq 506, 3) := by decide +kernel
theorem dW_law_219 : decode cW_law 219 = .ok (.iconst 0, 1) := by decide +kernel
theorem dW_law_220 : decode cW_law 220 = .ok (.ireturn, 1) := by decide +kernel
theorem dW_law_221 : decode cW_law 221 = .ok (.aload_n 1, 1) := by decide +kernel
theorem dW_law_222 : decode cW_law 222 = .ok (.aload_n 0, 1) := by decide +kernel
theorem dW_law_223 : decode cW_law 223 = .ok (.iload_n 3, 1) := by decide +kernel
theorem dW_law_224 : decode cW_law 224 = .ok (.iconst 1, 1) := by decide +kernel
theorem dW_law_225 : decode cW_law 225 = .ok (.iadd, 1) := by decide +kernel
theorem dW_law_226 : decode cW_law 226 = .ok (.iaload, 1) := by decide +kernel
theorem dW_law_227 : decode cW_law 227 = .ok (.invokevirtual 27, 3) := by decide +kernel
theorem dW_law_230 : decode cW_law 230 = .ok (.aload_n 2, 1) := by decide +kernel
theorem dW_law_231 : decode cW_law 231 = .ok (.aload_n 0, 1) := by decide +kernel
theorem dW_law_232 : decode cW_law 232 = .ok (.iload_n 3, 1) := by decide +kernel
theorem dW_law_233 : decode cW_law 233 = .ok (.iconst 1, 1) := by decide +kernel
theorem dW_law_234 : decode cW_law 234 = .ok (.iadd, 1) := by decide +kernel
theorem dW_law_235 : decode cW_law 235 = .ok (.iaload, 1) := by decide +kernel
theorem dW_law_236 : decode cW_law 236 = .ok (.invokevirtual 30, 3) := by decide +kernel
theorem dW_law_239 : decode cW_law 239 = .ok (.if_icmp .eq 483, 3) := by decide +kernel
theorem dW_law_242 : decode cW_law 242 = .ok (.iconst 0, 1) := by decide +kernel
theorem dW_law_243 : decode cW_law 243 = .ok (.ireturn, 1) := by decide +kernel
theorem dW_law_244 : decode cW_law 244 = .ok (.aload_n 1, 1) := by decide +kernel
theorem dW_law_245 : decode cW_law 245 = .ok (.aload_n 0, 1) := by decide +kernel
theorem dW_law_246 : decode cW_law 246 = .ok (.iload_n 3, 1) := by decide +kernel
theorem dW_law_247 : decode cW_law 247 = .ok (.iconst 1, 1) := by decide +kernel
theorem dW_law_248 : decode cW_law 248 = .ok (.iadd, 1) := by decide +kernel
theorem dW_law_249 : decode cW_law 249 = .ok (.iaload, 1) := by decide +kernel
theorem dW_law_250 : decode cW_law 250 = .ok (.aload_n 0, 1) := by decide +kernel
theorem dW_law_251 : decode cW_law 251 = .ok (.iload_n 3, 1) := by decide +kernel
theorem dW_law_252 : decode cW_law 252 = .ok (.iconst 2, 1) := by decide +kernel
theorem dW_law_253 : decode cW_law 253 = .ok (.iadd, 1) := by decide +kernel
theorem dW_law_254 : decode cW_law 254 = .ok (.iaload, 1) := by decide +kernel
theorem dW_law_255 : decode cW_law 255 = .ok (.invokevirtual 31, 3) := by decide +kernel
theorem dW_law_258 : decode cW_law 258 = .ok (.aload_n 2, 1) := by decide +kernel
theorem dW_law_259 : decode cW_law 259 = .ok (.aload_n 0, 1) := by decide +kernel
theorem dW_law_260 : decode cW_law 260 = .ok (.iload_n 3, 1) := by decide +kernel
theorem dW_law_261 : decode cW_law 261 = .ok (.iconst 1, 1) := by decide +kernel
theorem dW_law_262 : decode cW_law 262 = .ok (.iadd, 1) := by decide +kernel
theorem dW_law_263 : decode cW_law 263 = .ok (.iaload, 1) := by decide +kernel
theorem dW_law_264 : decode cW_law 264 = .ok (.aload_n 0, 1) := by decide +kernel
theorem dW_law_265 : decode cW_law 265 = .ok (.iload_n 3, 1) := by decide +kernel
theorem dW_law_266 : decode cW_law 266 = .ok (.iconst 2, 1) := by decide +kernel
theorem dW_law_267 : decode cW_law 267 = .ok (.iadd, 1) := by decide +kernel
theorem dW_law_268 : decode cW_law 268 = .ok (.iaload, 1) := by decide +kernel
theorem dW_law_269 : decode cW_law 269 = .ok (.invokevirtual 35, 3) := by decide +kernel
theorem dW_law_272 : decode cW_law 272 = .ok (.if_icmp .eq 450, 3) := by decide +kernel
theorem dW_law_275 : decode cW_law 275 = .ok (.iconst 0, 1) := by decide +kernel
theorem dW_law_276 : decode cW_law 276 = .ok (.ireturn, 1) := by decide +kernel
theorem dW_law_277 : decode cW_law 277 = .ok (.aload_n 1, 1) := by decide +kernel
theorem dW_law_278 : decode cW_law 278 = .ok (.aload_n 0, 1) := by decide +kernel
theorem dW_law_279 : decode cW_law 279 = .ok (.iload_n 3, 1) := by decide +kernel
theorem dW_law_280 : decode cW_law 280 = .ok (.iconst 1, 1) := by decide +kernel
theorem dW_law_281 : decode cW_law 281 = .ok (.iadd, 1) := by decide +kernel
theorem dW_law_282 : decode cW_law 282 = .ok (.iaload, 1) := by decide +kernel
theorem dW_law_283 : decode cW_law 283 = .ok (.invokevirtual 36, 3) := by decide +kernel
theorem dW_law_286 : decode cW_law 286 = .ok (.aload_n 2, 1) := by decide +kernel
theorem dW_law_287 : decode cW_law 287 = .ok (.aload_n 0, 1) := by decide +kernel
theorem dW_law_288 : decode cW_law 288 = .ok (.iload_n 3, 1) := by decide +kernel
theorem dW_law_289 : decode cW_law 289 = .ok (.iconst 1, 1) := by decide +kernel
theorem dW_law_290 : decode cW_law 290 = .ok (.iadd, 1) := by decide +kernel
theorem dW_law_291 : decode cW_law 291 = .ok (.iaload, 1) := by decide +kernel
theorem dW_law_292 : decode cW_law 292 = .ok (.invokevirtual 39, 3) := by decide +kernel
theorem dW_law_295 : decode cW_law 295 = .ok (.if_icmp .eq 427, 3) := by decide +kernel
theorem dW_law_298 : decode cW_law 298 = .ok (.iconst 0, 1) := by decide +kernel
theorem dW_law_299 : decode cW_law 299 = .ok (.ireturn, 1) := by decide +kernel
theorem dW_law_300 : decode cW_law 300 = .ok (.aload_n 1, 1) := by decide +kernel
theorem dW_law_301 : decode cW_law 301 = .ok (.aload_n 0, 1) := by decide +kernel
theorem dW_law_302 : decode cW_law 302 = .ok (.iload_n 3, 1) := by decide +kernel
theorem dW_law_303 : decode cW_law 303 = .ok (.iconst 1, 1) := by decide +kernel
theorem dW_law_304 : decode cW_law 304 = .ok (.iadd, 1) := by decide +kernel
theorem dW_law_305 : decode cW_law 305 = .ok (.iaload, 1) := by decide +kernel
theorem dW_law_306 : decode cW_law 306 = .ok (.invokevirtual 40, 3) := by decide +kernel
theorem dW_law_309 : decode cW_law 309 = .ok (.aload_n 2, 1) := by decide +kernel
theorem dW_law_310 : decode cW_law 310 = .ok (.aload_n 0, 1) := by decide +kernel
theorem dW_law_311 : decode cW_law 311 = .ok (.iload_n 3, 1) := by decide +kernel
theorem dW_law_312 : decode cW_law 312 = .ok (.iconst 1, 1) := by decide +kernel
theorem dW_law_313 : decode cW_law 313 = .ok (.iadd, 1) := by decide +kernel
theorem dW_law_314 : decode cW_law 314 = .ok (.iaload, 1) := by decide +kernel
theorem dW_law_315 : decode cW_law 315 = .ok (.invokevirtual 43, 3) := by decide +kernel
theorem dW_law_318 : decode cW_law 318 = .ok (.if_icmp .eq 404, 3) := by decide +kernel
theorem dW_law_321 : decode cW_law 321 = .ok (.iconst 0, 1) := by decide +kernel
theorem dW_law_322 : decode cW_law 322 = .ok (.ireturn, 1) := by decide +kernel
theorem dW_law_323 : decode cW_law 323 = .ok (.aload_n 1, 1) := by decide +kernel
theorem dW_law_324 : decode cW_law 324 = .ok (.aload_n 0, 1) := by decide +kernel
theorem dW_law_325 : decode cW_law 325 = .ok (.iload_n 3, 1) := by decide +kernel
theorem dW_law_326 : decode cW_law 326 = .ok (.iconst 1, 1) := by decide +kernel
theorem dW_law_327 : decode cW_law 327 = .ok (.iadd, 1) := by decide +kernel
theorem dW_law_328 : decode cW_law 328 = .ok (.iaload, 1) := by decide +kernel
theorem dW_law_329 : decode cW_law 329 = .ok (.invokevirtual 44, 3) := by decide +kernel
theorem dW_law_332 : decode cW_law 332 = .ok (.aload_n 2, 1) := by decide +kernel
theorem dW_law_333 : decode cW_law 333 = .ok (.aload_n 0, 1) := by decide +kernel
theorem dW_law_334 : decode cW_law 334 = .ok (.iload_n 3, 1) := by decide +kernel
theorem dW_law_335 : decode cW_law 335 = .ok (.iconst 1, 1) := by decide +kernel
theorem dW_law_336 : decode cW_law 336 = .ok (.iadd, 1) := by decide +kernel
theorem dW_law_337 : decode cW_law 337 = .ok (.iaload, 1) := by decide +kernel
theorem dW_law_338 : decode cW_law 338 = .ok (.invokevirtual 47, 3) := by decide +kernel
theorem dW_law_341 : decode cW_law 341 = .ok (.if_icmp .eq 381, 3) := by decide +kernel
theorem dW_law_344 : decode cW_law 344 = .ok (.iconst 0, 1) := by decide +kernel
theorem dW_law_345 : decode cW_law 345 = .ok (.ireturn, 1) := by decide +kernel
theorem dW_law_346 : decode cW_law 346 = .ok (.aload_n 1, 1) := by decide +kernel
theorem dW_law_347 : decode cW_law 347 = .ok (.aload_n 0, 1) := by decide +kernel
theorem dW_law_348 : decode cW_law 348 = .ok (.iload_n 3, 1) := by decide +kernel
theorem dW_law_349 : decode cW_law 349 = .ok (.iconst 1, 1) := by decide +kernel
theorem dW_law_350 : decode cW_law 350 = .ok (.iadd, 1) := by decide +kernel
theorem dW_law_351 : decode cW_law 351 = .ok (.iaload, 1) := by decide +kernel
theorem dW_law_352 : decode cW_law 352 = .ok (.aload_n 0, 1) := by decide +kernel
theorem dW_law_353 : decode cW_law 353 = .ok (.iload_n 3, 1) := by decide +kernel
theorem dW_law_354 : decode cW_law 354 = .ok (.iconst 2, 1) := by decide +kernel
theorem dW_law_355 : decode cW_law 355 = .ok (.iadd, 1) := by decide +kernel
theorem dW_law_356 : decode cW_law 356 = .ok (.iaload, 1) := by decide +kernel
theorem dW_law_357 : decode cW_law 357 = .ok (.aload_n 0, 1) := by decide +kernel
theorem dW_law_358 : decode cW_law 358 = .ok (.iload_n 3, 1) := by decide +kernel
theorem dW_law_359 : decode cW_law 359 = .ok (.iconst 3, 1) := by decide +kernel
theorem dW_law_360 : decode cW_law 360 = .ok (.iadd, 1) := by decide +kernel
theorem dW_law_361 : decode cW_law 361 = .ok (.iaload, 1) := by decide +kernel
theorem dW_law_362 : decode cW_law 362 = .ok (.aload_n 0, 1) := by decide +kernel
theorem dW_law_363 : decode cW_law 363 = .ok (.iload_n 3, 1) := by decide +kernel
theorem dW_law_364 : decode cW_law 364 = .ok (.iconst 4, 1) := by decide +kernel
theorem dW_law_365 : decode cW_law 365 = .ok (.iadd, 1) := by decide +kernel
theorem dW_law_366 : decode cW_law 366 = .ok (.iaload, 1) := by decide +kernel
theorem dW_law_367 : decode cW_law 367 = .ok (.invokevirtual 48, 3) := by decide +kernel
theorem dW_law_370 : decode cW_law 370 = .ok (.aload_n 2, 1) := by decide +kernel
theorem dW_law_371 : decode cW_law 371 = .ok (.aload_n 0, 1) := by decide +kernel
theorem dW_law_372 : decode cW_law 372 = .ok (.iload_n 3, 1) := by decide +kernel
theorem dW_law_373 : decode cW_law 373 = .ok (.iconst 1, 1) := by decide +kernel
theorem dW_law_374 : decode cW_law 374 = .ok (.iadd, 1) := by decide +kernel
theorem dW_law_375 : decode cW_law 375 = .ok (.iaload, 1) := by decide +kernel
theorem dW_law_376 : decode cW_law 376 = .ok (.aload_n 0, 1) := by decide +kernel
theorem dW_law_377 : decode cW_law 377 = .ok (.iload_n 3, 1) := by decide +kernel
theorem dW_law_378 : decode cW_law 378 = .ok (.iconst 2, 1) := by decide +kernel
theorem dW_law_379 : decode cW_law 379 = .ok (.iadd, 1) := by decide +kernel
theorem dW_law_380 : decode cW_law 380 = .ok (.iaload, 1) := by decide +kernel
theorem dW_law_381 : decode cW_law 381 = .ok (.aload_n 0, 1) := by decide +kernel
theorem dW_law_382 : decode cW_law 382 = .ok (.iload_n 3, 1) := by decide +kernel
theorem dW_law_383 : decode cW_law 383 = .ok (.iconst 3, 1) := by decide +kernel
theorem dW_law_384 : decode cW_law 384 = .ok (.iadd, 1) := by decide +kernel
theorem dW_law_385 : decode cW_law 385 = .ok (.iaload, 1) := by decide +kernel
theorem dW_law_386 : decode cW_law 386 = .ok (.aload_n 0, 1) := by decide +kernel
theorem dW_law_387 : decode cW_law 387 = .ok (.iload_n 3, 1) := by decide +kernel
theorem dW_law_388 : decode cW_law 388 = .ok (.iconst 4, 1) := by decide +kernel
theorem dW_law_389 : decode cW_law 389 = .ok (.iadd, 1) := by decide +kernel
theorem dW_law_390 : decode cW_law 390 = .ok (.iaload, 1) := by decide +kernel
theorem dW_law_391 : decode cW_law 391 = .ok (.invokevirtual 52, 3) := by decide +kernel
theorem dW_law_394 : decode cW_law 394 = .ok (.if_icmp .eq 328, 3) := by decide +kernel
theorem dW_law_397 : decode cW_law 397 = .ok (.iconst 0, 1) := by decide +kernel
theorem dW_law_398 : decode cW_law 398 = .ok (.ireturn, 1) := by decide +kernel
theorem dW_law_399 : decode cW_law 399 = .ok (.aload_n 1, 1) := by decide +kernel
theorem dW_law_400 : decode cW_law 400 = .ok (.aload_n 0, 1) := by decide +kernel
theorem dW_law_401 : decode cW_law 401 = .ok (.iload_n 3, 1) := by decide +kernel
theorem dW_law_402 : decode cW_law 402 = .ok (.iconst 1, 1) := by decide +kernel
theorem dW_law_403 : decode cW_law 403 = .ok (.iadd, 1) := by decide +kernel
theorem dW_law_404 : decode cW_law 404 = .ok (.iaload, 1) := by decide +kernel
theorem dW_law_405 : decode cW_law 405 = .ok (.aload_n 0, 1) := by decide +kernel
theorem dW_law_406 : decode cW_law 406 = .ok (.iload_n 3, 1) := by decide +kernel
theorem dW_law_407 : decode cW_law 407 = .ok (.iconst 2, 1) := by decide +kernel
theorem dW_law_408 : decode cW_law 408 = .ok (.iadd, 1) := by decide +kernel
theorem dW_law_409 : decode cW_law 409 = .ok (.iaload, 1) := by decide +kernel
theorem dW_law_410 : decode cW_law 410 = .ok (.aload_n 0, 1) := by decide +kernel
theorem dW_law_411 : decode cW_law 411 = .ok (.iload_n 3, 1) := by decide +kernel
theorem dW_law_412 : decode cW_law 412 = .ok (.iconst 3, 1) := by decide +kernel
theorem dW_law_413 : decode cW_law 413 = .ok (.iadd, 1) := by decide +kernel
theorem dW_law_414 : decode cW_law 414 = .ok (.iaload, 1) := by decide +kernel
theorem dW_law_415 : decode cW_law 415 = .ok (.invokevirtual 53, 3) := by decide +kernel
theorem dW_law_418 : decode cW_law 418 = .ok (.aload_n 2, 1) := by decide +kernel
theorem dW_law_419 : decode cW_law 419 = .ok (.aload_n 0, 1) := by decide +kernel
theorem dW_law_420 : decode cW_law 420 = .ok (.iload_n 3, 1) := by decide +kernel
theorem dW_law_421 : decode cW_law 421 = .ok (.iconst 1, 1) := by decide +kernel
theorem dW_law_422 : decode cW_law 422 = .ok (.iadd, 1) := by decide +kernel
theorem dW_law_423 : decode cW_law 423 = .ok (.iaload, 1) := by decide +kernel
theorem dW_law_424 : decode cW_law 424 = .ok (.aload_n 0, 1) := by decide +kernel
theorem dW_law_425 : decode cW_law 425 = .ok (.iload_n 3, 1) := by decide +kernel
theorem dW_law_426 : decode cW_law 426 = .ok (.iconst 2, 1) := by decide +kernel
theorem dW_law_427 : decode cW_law 427 = .ok (.iadd, 1) := by decide +kernel
theorem dW_law_428 : decode cW_law 428 = .ok (.iaload, 1) := by decide +kernel
theorem dW_law_429 : decode cW_law 429 = .ok (.aload_n 0, 1) := by decide +kernel
theorem dW_law_430 : decode cW_law 430 = .ok (.iload_n 3, 1) := by decide +kernel
theorem dW_law_431 : decode cW_law 431 = .ok (.iconst 3, 1) := by decide +kernel
theorem dW_law_432 : decode cW_law 432 = .ok (.iadd, 1) := by decide +kernel
theorem dW_law_433 : decode cW_law 433 = .ok (.iaload, 1) := by decide +kernel
theorem dW_law_434 : decode cW_law 434 = .ok (.invokevirtual 57, 3) := by decide +kernel
theorem dW_law_437 : decode cW_law 437 = .ok (.if_icmp .eq 285, 3) := by decide +kernel
theorem dW_law_440 : decode cW_law 440 = .ok (.iconst 0, 1) := by decide +kernel
theorem dW_law_441 : decode cW_law 441 = .ok (.ireturn, 1) := by decide +kernel
theorem dW_law_442 : decode cW_law 442 = .ok (.aload_n 1, 1) := by decide +kernel
theorem dW_law_443 : decode cW_law 443 = .ok (.aload_n 0, 1) := by decide +kernel
theorem dW_law_444 : decode cW_law 444 = .ok (.iload_n 3, 1) := by decide +kernel
theorem dW_law_445 : decode cW_law 445 = .ok (.iconst 1, 1) := by decide +kernel
theorem dW_law_446 : decode cW_law 446 = .ok (.iadd, 1) := by decide +kernel
theorem dW_law_447 : decode cW_law 447 = .ok (.iaload, 1) := by decide +kernel
theorem dW_law_448 : decode cW_law 448 = .ok (.aload_n 0, 1) := by decide +kernel
theorem dW_law_449 : decode cW_law 449 = .ok (.iload_n 3, 1) := by decide +kernel
theorem dW_law_450 : decode cW_law 450 = .ok (.iconst 2, 1) := by decide +kernel
theorem dW_law_451 : decode cW_law 451 = .ok (.iadd, 1) := by decide +kernel
theorem dW_law_452 : decode cW_law 452 = .ok (.iaload, 1) := by decide +kernel
theorem dW_law_453 : decode cW_law 453 = .ok (.aload_n 0, 1) := by decide +kernel
theorem dW_law_454 : decode cW_law 454 = .ok (.iload_n 3, 1) := by decide +kernel
theorem dW_law_455 : decode cW_law 455 = .ok (.iconst 3, 1) := by decide +kernel
theorem dW_law_456 : decode cW_law 456 = .ok (.iadd, 1) := by decide +kernel
theorem dW_law_457 : decode cW_law 457 = .ok (.iaload, 1) := by decide +kernel
theorem dW_law_458 : decode cW_law 458 = .ok (.aload_n 0, 1) := by decide +kernel
theorem dW_law_459 : decode cW_law 459 = .ok (.iload_n 3, 1) := by decide +kernel
theorem dW_law_460 : decode cW_law 460 = .ok (.iconst 4, 1) := by decide +kernel
theorem dW_law_461 : decode cW_law 461 = .ok (.iadd, 1) := by decide +kernel
theorem dW_law_462 : decode cW_law 462 = .ok (.iaload, 1) := by decide +kernel
theorem dW_law_463 : decode cW_law 463 = .ok (.ifCond .eq 7, 3) := by decide +kernel
theorem dW_law_466 : decode cW_law 466 = .ok (.iconst 1, 1) := by decide +kernel
theorem dW_law_467 : decode cW_law 467 = .ok (.goto 4, 3) := by decide +kernel
theorem dW_law_470 : decode cW_law 470 = .ok (.iconst 0, 1) := by decide +kernel
theorem dW_law_471 : decode cW_law 471 = .ok (.invokevirtual 58, 3) := by decide +kernel
theorem dW_law_474 : decode cW_law 474 = .ok (.aload_n 2, 1) := by decide +kernel
theorem dW_law_475 : decode cW_law 475 = .ok (.aload_n 0, 1) := by decide +kernel
theorem dW_law_476 : decode cW_law 476 = .ok (.iload_n 3, 1) := by decide +kernel
theorem dW_law_477 : decode cW_law 477 = .ok (.iconst 1, 1) := by decide +kernel
theorem dW_law_478 : decode cW_law 478 = .ok (.iadd, 1) := by decide +kernel
theorem dW_law_479 : decode cW_law 479 = .ok (.iaload, 1) := by decide +kernel
theorem dW_law_480 : decode cW_law 480 = .ok (.aload_n 0, 1) := by decide +kernel
theorem dW_law_481 : decode cW_law 481 = .ok (.iload_n 3, 1) := by decide +kernel
theorem dW_law_482 : decode cW_law 482 = .ok (.iconst 2, 1) := by decide +kernel
theorem dW_law_483 : decode cW_law 483 = .ok (.iadd, 1) := by decide +kernel
theorem dW_law_484 : decode cW_law 484 = .ok (.iaload, 1) := by decide +kernel
theorem dW_law_485 : decode cW_law 485 = .ok (.aload_n 0, 1) := by decide +kernel
theorem dW_law_486 : decode cW_law 486 = .ok (.iload_n 3, 1) := by decide +kernel
theorem dW_law_487 : decode cW_law 487 = .ok (.iconst 3, 1) := by decide +kernel
theorem dW_law_488 : decode cW_law 488 = .ok (.iadd, 1) := by decide +kernel
theorem dW_law_489 : decode cW_law 489 = .ok (.iaload, 1) := by decide +kernel
theorem dW_law_490 : decode cW_law 490 = .ok (.aload_n 0, 1) := by decide +kernel
theorem dW_law_491 : decode cW_law 491 = .ok (.iload_n 3, 1) := by decide +kernel
theorem dW_law_492 : decode cW_law 492 = .ok (.iconst 4, 1) := by decide +kernel
theorem dW_law_493 : decode cW_law 493 = .ok (.iadd, 1) := by decide +kernel
theorem dW_law_494 : decode cW_law 494 = .ok (.iaload, 1) := by decide +kernel
theorem dW_law_495 : decode cW_law 495 = .ok (.ifCond .eq 7, 3) := by decide +kernel
theorem dW_law_498 : decode cW_law 498 = .ok (.iconst 1, 1) := by decide +kernel
theorem dW_law_499 : decode cW_law 499 = .ok (.goto 4, 3) := by decide +kernel
theorem dW_law_502 : decode cW_law 502 = .ok (.iconst 0, 1) := by decide +kernel
theorem dW_law_503 : decode cW_law 503 = .ok (.invokevirtual 62, 3) := by decide +kernel
theorem dW_law_506 : decode cW_law 506 = .ok (.if_icmp .eq 216, 3) := by decide +kernel
theorem dW_law_509 : decode cW_law 509 = .ok (.iconst 0, 1) := by decide +kernel
theorem dW_law_510 : decode cW_law 510 = .ok (.ireturn, 1) := by decide +kernel
theorem dW_law_511 : decode cW_law 511 = .ok (.aload_n 1, 1) := by decide +kernel
theorem dW_law_512 : decode cW_law 512 = .ok (.aload_n 0, 1) := by decide +kernel
theorem dW_law_513 : decode cW_law 513 = .ok (.iload_n 3, 1) := by decide +kernel
theorem dW_law_514 : decode cW_law 514 = .ok (.iconst 1, 1) := by decide +kernel
theorem dW_law_515 : decode cW_law 515 = .ok (.iadd, 1) := by decide +kernel
theorem dW_law_516 : decode cW_law 516 = .ok (.iaload, 1) := by decide +kernel
theorem dW_law_517 : decode cW_law 517 = .ok (.aload_n 0, 1) := by decide +kernel
theorem dW_law_518 : decode cW_law 518 = .ok (.iload_n 3, 1) := by decide +kernel
theorem dW_law_519 : decode cW_law 519 = .ok (.iconst 2, 1) := by decide +kernel
theorem dW_law_520 : decode cW_law 520 = .ok (.iadd, 1) := by decide +kernel
theorem dW_law_521 : decode cW_law 521 = .ok (.iaload, 1) := by decide +kernel
theorem dW_law_522 : decode cW_law 522 = .ok (.aload_n 0, 1) := by decide +kernel
theorem dW_law_523 : decode cW_law 523 = .ok (.iload_n 3, 1) := by decide +kernel
theorem dW_law_524 : decode cW_law 524 = .ok (.iconst 3, 1) := by decide +kernel
theorem dW_law_525 : decode cW_law 525 = .ok (.iadd, 1) := by decide +kernel
theorem dW_law_526 : decode cW_law 526 = .ok (.iaload, 1) := by decide +kernel
theorem dW_law_527 : decode cW_law 527 = .ok (.invokevirtual 63, 3) := by decide +kernel
theorem dW_law_530 : decode cW_law 530 = .ok (.aload_n 2, 1) := by decide +kernel
theorem dW_law_531 : decode cW_law 531 = .ok (.aload_n 0, 1) := by decide +kernel
theorem dW_law_532 : decode cW_law 532 = .ok (.iload_n 3, 1) := by decide +kernel
theorem dW_law_533 : decode cW_law 533 = .ok (.iconst 1, 1) := by decide +kernel
theorem dW_law_534 : decode cW_law 534 = .ok (.iadd, 1) := by decide +kernel
theorem dW_law_535 : decode cW_law 535 = .ok (.iaload, 1) := by decide +kernel
theorem dW_law_536 : decode cW_law 536 = .ok (.aload_n 0, 1) := by decide +kernel
theorem dW_law_537 : decode cW_law 537 = .ok (.iload_n 3, 1) := by decide +kernel
theorem dW_law_538 : decode cW_law 538 = .ok (.iconst 2, 1) := by decide +kernel
theorem dW_law_539 : decode cW_law 539 = .ok (.iadd, 1) := by decide +kernel
theorem dW_law_540 : decode cW_law 540 = .ok (.iaload, 1) := by decide +kernel
theorem dW_law_541 : decode cW_law 541 = .ok (.aload_n 0, 1) := by decide +kernel
theorem dW_law_542 : decode cW_law 542 = .ok (.iload_n 3, 1) := by decide +kernel
theorem dW_law_543 : decode cW_law 543 = .ok (.iconst 3, 1) := by decide +kernel
theorem dW_law_544 : decode cW_law 544 = .ok (.iadd, 1) := by decide +kernel
theorem dW_law_545 : decode cW_law 545 = .ok (.iaload, 1) := by decide +kernel
theorem dW_law_546 : decode cW_law 546 = .ok (.invokevirtual 66, 3) := by decide +kernel
theorem dW_law_549 : decode cW_law 549 = .ok (.if_icmp .eq 173, 3) := by decide +kernel
theorem dW_law_552 : decode cW_law 552 = .ok (.iconst 0, 1) := by decide +kernel
theorem dW_law_553 : decode cW_law 553 = .ok (.ireturn, 1) := by decide +kernel
theorem dW_law_554 : decode cW_law 554 = .ok (.aload_n 1, 1) := by decide +kernel
theorem dW_law_555 : decode cW_law 555 = .ok (.aload_n 0, 1) := by decide +kernel
theorem dW_law_556 : decode cW_law 556 = .ok (.iload_n 3, 1) := by decide +kernel
theorem dW_law_557 : decode cW_law 557 = .ok (.iconst 1, 1) := by decide +kernel
theorem dW_law_558 : decode cW_law 558 = .ok (.iadd, 1) := by decide +kernel
theorem dW_law_559 : decode cW_law 559 = .ok (.iaload, 1) := by decide +kernel
theorem dW_law_560 : decode cW_law 560 = .ok (.aload_n 0, 1) := by decide +kernel
theorem dW_law_561 : decode cW_law 561 = .ok (.iload_n 3, 1) := by decide +kernel
theorem dW_law_562 : decode cW_law 562 = .ok (.iconst 2, 1) := by decide +kernel
theorem dW_law_563 : decode cW_law 563 = .ok (.iadd, 1) := by decide +kernel
theorem dW_law_564 : decode cW_law 564 = .ok (.iaload, 1) := by decide +kernel
theorem dW_law_565 : decode cW_law 565 = .ok (.aload_n 0, 1) := by decide +kernel
theorem dW_law_566 : decode cW_law 566 = .ok (.iload_n 3, 1) := by decide +kernel
theorem dW_law_567 : decode cW_law 567 = .ok (.iconst 3, 1) := by decide +kernel
theorem dW_law_568 : decode cW_law 568 = .ok (.iadd, 1) := by decide +kernel
theorem dW_law_569 : decode cW_law 569 = .ok (.iaload, 1) := by decide +kernel
theorem dW_law_570 : decode cW_law 570 = .ok (.aload_n 0, 1) := by decide +kernel
theorem dW_law_571 : decode cW_law 571 = .ok (.iload_n 3, 1) := by decide +kernel
theorem dW_law_572 : decode cW_law 572 = .ok (.iconst 4, 1) := by decide +kernel
theorem dW_law_573 : decode cW_law 573 = .ok (.iadd, 1) := by decide +kernel
theorem dW_law_574 : decode cW_law 574 = .ok (.iaload, 1) := by decide +kernel
theorem dW_law_575 : decode cW_law 575 = .ok (.invokevirtual 67, 3) := by decide +kernel
theorem dW_law_578 : decode cW_law 578 = .ok (.aload_n 2, 1) := by decide +kernel
theorem dW_law_579 : decode cW_law 579 = .ok (.aload_n 0, 1) := by decide +kernel
theorem dW_law_580 : decode cW_law 580 = .ok (.iload_n 3, 1) := by decide +kernel
theorem dW_law_581 : decode cW_law 581 = .ok (.iconst 1, 1) := by decide +kernel
theorem dW_law_582 : decode cW_law 582 = .ok (.iadd, 1) := by decide +kernel
theorem dW_law_583 : decode cW_law 583 = .ok (.iaload, 1) := by decide +kernel
theorem dW_law_584 : decode cW_law 584 = .ok (.aload_n 0, 1) := by decide +kernel
theorem dW_law_585 : decode cW_law 585 = .ok (.iload_n 3, 1) := by decide +kernel
theorem dW_law_586 : decode cW_law 586 = .ok (.iconst 2, 1) := by decide +kernel
theorem dW_law_587 : decode cW_law 587 = .ok (.iadd, 1) := by decide +kernel
theorem dW_law_588 : decode cW_law 588 = .ok (.iaload, 1) := by decide +kernel
theorem dW_law_589 : decode cW_law 589 = .ok (.aload_n 0, 1) := by decide +kernel
theorem dW_law_590 : decode cW_law 590 = .ok (.iload_n 3, 1) := by decide +kernel
theorem dW_law_591 : decode cW_law 591 = .ok (.iconst 3, 1) := by decide +kernel
theorem dW_law_592 : decode cW_law 592 = .ok (.iadd, 1) := by decide +kernel
theorem dW_law_593 : decode cW_law 593 = .ok (.iaload, 1) := by decide +kernel
theorem dW_law_594 : decode cW_law 594 = .ok (.aload_n 0, 1) := by decide +kernel
theorem dW_law_595 : decode cW_law 595 = .ok (.iload_n 3, 1) := by decide +kernel
theorem dW_law_596 : decode cW_law 596 = .ok (.iconst 4, 1) := by decide +kernel
theorem dW_law_597 : decode cW_law 597 = .ok (.iadd, 1) := by decide +kernel
theorem dW_law_598 : decode cW_law 598 = .ok (.iaload, 1) := by decide +kernel
theorem dW_law_599 : decode cW_law 599 = .ok (.invokevirtual 70, 3) := by decide +kernel
theorem dW_law_602 : decode cW_law 602 = .ok (.if_icmp .eq 120, 3) := by decide +kernel
theorem dW_law_605 : decode cW_law 605 = .ok (.iconst 0, 1) := by decide +kernel
theorem dW_law_606 : decode cW_law 606 = .ok (.ireturn, 1) := by decide +kernel
theorem dW_law_607 : decode cW_law 607 = .ok (.aload_n 1, 1) := by decide +kernel
theorem dW_law_608 : decode cW_law 608 = .ok (.aload_n 0, 1) := by decide +kernel
theorem dW_law_609 : decode cW_law 609 = .ok (.iload_n 3, 1) := by decide +kernel
theorem dW_law_610 : decode cW_law 610 = .ok (.iconst 1, 1) := by decide +kernel
theorem dW_law_611 : decode cW_law 611 = .ok (.iadd, 1) := by decide +kernel
theorem dW_law_612 : decode cW_law 612 = .ok (.iaload, 1) := by decide +kernel
theorem dW_law_613 : decode cW_law 613 = .ok (.aload_n 0, 1) := by decide +kernel
theorem dW_law_614 : decode cW_law 614 = .ok (.iload_n 3, 1) := by decide +kernel
theorem dW_law_615 : decode cW_law 615 = .ok (.iconst 2, 1) := by decide +kernel
theorem dW_law_616 : decode cW_law 616 = .ok (.iadd, 1) := by decide +kernel
theorem dW_law_617 : decode cW_law 617 = .ok (.iaload, 1) := by decide +kernel
theorem dW_law_618 : decode cW_law 618 = .ok (.aload_n 0, 1) := by decide +kernel
theorem dW_law_619 : decode cW_law 619 = .ok (.iload_n 3, 1) := by decide +kernel
theorem dW_law_620 : decode cW_law 620 = .ok (.iconst 3, 1) := by decide +kernel
theorem dW_law_621 : decode cW_law 621 = .ok (.iadd, 1) := by decide +kernel
theorem dW_law_622 : decode cW_law 622 = .ok (.iaload, 1) := by decide +kernel
theorem dW_law_623 : decode cW_law 623 = .ok (.ifCond .eq 7, 3) := by decide +kernel
theorem dW_law_626 : decode cW_law 626 = .ok (.iconst 1, 1) := by decide +kernel
theorem dW_law_627 : decode cW_law 627 = .ok (.goto 4, 3) := by decide +kernel
theorem dW_law_630 : decode cW_law 630 = .ok (.iconst 0, 1) := by decide +kernel
theorem dW_law_631 : decode cW_law 631 = .ok (.invokevirtual 71, 3) := by decide +kernel
theorem dW_law_634 : decode cW_law 634 = .ok (.aload_n 2, 1) := by decide +kernel
theorem dW_law_635 : decode cW_law 635 = .ok (.aload_n 0, 1) := by decide +kernel
theorem dW_law_636 : decode cW_law 636 = .ok (.iload_n 3, 1) := by decide +kernel
theorem dW_law_637 : decode cW_law 637 = .ok (.iconst 1, 1) := by decide +kernel
theorem dW_law_638 : decode cW_law 638 = .ok (.iadd, 1) := by decide +kernel
theorem dW_law_639 : decode cW_law 639 = .ok (.iaload, 1) := by decide +kernel
theorem dW_law_640 : decode cW_law 640 = .ok (.aload_n 0, 1) := by decide +kernel
theorem dW_law_641 : decode cW_law 641 = .ok (.iload_n 3, 1) := by decide +kernel
theorem dW_law_642 : decode cW_law 642 = .ok (.iconst 2, 1) := by decide +kernel
theorem dW_law_643 : decode cW_law 643 = .ok (.iadd, 1) := by decide +kernel
theorem dW_law_644 : decode cW_law 644 = .ok (.iaload, 1) := by decide +kernel
theorem dW_law_645 : decode cW_law 645 = .ok (.aload_n 0, 1) := by decide +kernel
theorem dW_law_646 : decode cW_law 646 = .ok (.iload_n 3, 1) := by decide +kernel
theorem dW_law_647 : decode cW_law 647 = .ok (.iconst 3, 1) := by decide +kernel
theorem dW_law_648 : decode cW_law 648 = .ok (.iadd, 1) := by decide +kernel
theorem dW_law_649 : decode cW_law 649 = .ok (.iaload, 1) := by decide +kernel
theorem dW_law_650 : decode cW_law 650 = .ok (.ifCond .eq 7, 3) := by decide +kernel
theorem dW_law_653 : decode cW_law 653 = .ok (.iconst 1, 1) := by decide +kernel
theorem dW_law_654 : decode cW_law 654 = .ok (.goto 4, 3) := by decide +kernel
theorem dW_law_657 : decode cW_law 657 = .ok (.iconst 0, 1) := by decide +kernel
theorem dW_law_658 : decode cW_law 658 = .ok (.invokevirtual 75, 3) := by decide +kernel
theorem dW_law_661 : decode cW_law 661 = .ok (.if_icmp .eq 61, 3) := by decide +kernel
theorem dW_law_664 : decode cW_law 664 = .ok (.iconst 0, 1) := by decide +kernel
theorem dW_law_665 : decode cW_law 665 = .ok (.ireturn, 1) := by decide +kernel
theorem dW_law_666 : decode cW_law 666 = .ok (.aload_n 1, 1) := by decide +kernel
theorem dW_law_667 : decode cW_law 667 = .ok (.aload_n 0, 1) := by decide +kernel
theorem dW_law_668 : decode cW_law 668 = .ok (.iload_n 3, 1) := by decide +kernel
theorem dW_law_669 : decode cW_law 669 = .ok (.iconst 1, 1) := by decide +kernel
theorem dW_law_670 : decode cW_law 670 = .ok (.iadd, 1) := by decide +kernel
theorem dW_law_671 : decode cW_law 671 = .ok (.iaload, 1) := by decide +kernel
theorem dW_law_672 : decode cW_law 672 = .ok (.invokevirtual 76, 3) := by decide +kernel
theorem dW_law_675 : decode cW_law 675 = .ok (.aload_n 2, 1) := by decide +kernel
theorem dW_law_676 : decode cW_law 676 = .ok (.aload_n 0, 1) := by decide +kernel
theorem dW_law_677 : decode cW_law 677 = .ok (.iload_n 3, 1) := by decide +kernel
theorem dW_law_678 : decode cW_law 678 = .ok (.iconst 1, 1) := by decide +kernel
theorem dW_law_679 : decode cW_law 679 = .ok (.iadd, 1) := by decide +kernel
theorem dW_law_680 : decode cW_law 680 = .ok (.iaload, 1) := by decide +kernel
theorem dW_law_681 : decode cW_law 681 = .ok (.invokevirtual 79, 3) := by decide +kernel
theorem dW_law_684 : decode cW_law 684 = .ok (.if_icmp .eq 38, 3) := by decide +kernel
theorem dW_law_687 : decode cW_law 687 = .ok (.iconst 0, 1) := by decide +kernel
theorem dW_law_688 : decode cW_law 688 = .ok (.ireturn, 1) := by decide +kernel
theorem dW_law_689 : decode cW_law 689 = .ok (.aload_n 1, 1) := by decide +kernel
theorem dW_law_690 : decode cW_law 690 = .ok (.aload_n 0, 1) := by decide +kernel
theorem dW_law_691 : decode cW_law 691 = .ok (.iload_n 3, 1) := by decide +kernel
theorem dW_law_692 : decode cW_law 692 = .ok (.iconst 1, 1) := by decide +kernel
theorem dW_law_693 : decode cW_law 693 = .ok (.iadd, 1) := by decide +kernel
theorem dW_law_694 : decode cW_law 694 = .ok (.iaload, 1) := by decide +kernel
theorem dW_law_695 : decode cW_law 695 = .ok (.aload_n 0, 1) := by decide +kernel
theorem dW_law_696 : decode cW_law 696 = .ok (.iload_n 3, 1) := by decide +kernel
theorem dW_law_697 : decode cW_law 697 = .ok (.iconst 2, 1) := by decide +kernel
theorem dW_law_698 : decode cW_law 698 = .ok (.iadd, 1) := by decide +kernel
theorem dW_law_699 : decode cW_law 699 = .ok (.iaload, 1) := by decide +kernel
theorem dW_law_700 : decode cW_law 700 = .ok (.invokevirtual 80, 3) := by decide +kernel
theorem dW_law_703 : decode cW_law 703 = .ok (.aload_n 2, 1) := by decide +kernel
theorem dW_law_704 : decode cW_law 704 = .ok (.aload_n 0, 1) := by decide +kernel
theorem dW_law_705 : decode cW_law 705 = .ok (.iload_n 3, 1) := by decide +kernel
theorem dW_law_706 : decode cW_law 706 = .ok (.iconst 1, 1) := by decide +kernel
theorem dW_law_707 : decode cW_law 707 = .ok (.iadd, 1) := by decide +kernel
theorem dW_law_708 : decode cW_law 708 = .ok (.iaload, 1) := by decide +kernel
theorem dW_law_709 : decode cW_law 709 = .ok (.aload_n 0, 1) := by decide +kernel
theorem dW_law_710 : decode cW_law 710 = .ok (.iload_n 3, 1) := by decide +kernel
theorem dW_law_711 : decode cW_law 711 = .ok (.iconst 2, 1) := by decide +kernel
theorem dW_law_712 : decode cW_law 712 = .ok (.iadd, 1) := by decide +kernel
theorem dW_law_713 : decode cW_law 713 = .ok (.iaload, 1) := by decide +kernel
theorem dW_law_714 : decode cW_law 714 = .ok (.invokevirtual 83, 3) := by decide +kernel
theorem dW_law_717 : decode cW_law 717 = .ok (.if_icmp .eq 5, 3) := by decide +kernel
theorem dW_law_720 : decode cW_law 720 = .ok (.iconst 0, 1) := by decide +kernel
theorem dW_law_721 : decode cW_law 721 = .ok (.ireturn, 1) := by decide +kernel
theorem dW_law_722 : decode cW_law 722 = .ok (.iinc 3 6, 3) := by decide +kernel
theorem dW_law_725 : decode cW_law 725 = .ok (.goto (-707), 3) := by decide +kernel
theorem dW_law_728 : decode cW_law 728 = .ok (.iconst 1, 1) := by decide +kernel
theorem dW_law_729 : decode cW_law 729 = .ok (.ireturn, 1) := by decide +kernel
set_option maxHeartbeats 4000000 in
set_option maxRecDepth 100000 in
theorem b_W_law_471 {X : wk_X} {G : cGt} (hI : wd_inj (vC G)) (C : wk_C X (vC G) cW_law RW 4 7 180) {sb L : Nat} {xs : Nat → Int32} (hs : wk_S X (vC G) sb L xs) {k18 : Int32 → Hp → Option (Int32 × Hp)} (hk18 : ∀ (v3 : Int32) (h : Hp) (q : Int32 × Hp), k18 v3 h = some q → q.1 = 1 ∧ wk_QL X (vC G) sb → WW X (vC G) h 18 [(0, .ref sb), (1, .ref (cad G 0)), (2, .ref (cad G 46)), (3, .int v3)] []) {v3 : Int32} {s1 : Int32} {s2 : Int32} {s3 : Int32} {s4 : Int32} {h : Hp} {q : Int32 × Hp}  (hf : f_W_law_471 L xs k18 v3 s1 s2 s3 s4 h = some q) (hq : q.1 = 1 ∧ wk_QL X (vC G) sb) : WW X (vC G) h 471 [(0, .ref sb), (1, .ref (cad G 0)), (2, .ref (cad G 46)), (3, .int v3)] [.int s4, .int s3, .int s2, .int s1, .ref (cad G 0)] := by
  unfold f_W_law_471 at hf
  obtain ⟨r471, h471, e_471, hf⟩ := bd_some hf
  refine wk_callV (As := [.int s1, .int s2, .int s3, .int s4]) (rest := []) C lw_good cw_W_58 wi_D_most (m_D_most hI e_471) lz_0 (he_0 G (h 0)) rfl rfl rfl (Nat.le_of_ble_eq_true rfl) (by decide) dW_law_471 ?_
  refine wk_aload_n C 2 dW_law_474 rfl rfl ?_
  refine wk_aload_n C 0 dW_law_475 rfl rfl ?_
  refine wk_iload_n C 3 dW_law_476 rfl rfl ?_
  refine wk_iconst C dW_law_477 kiconst_1 ?_
  refine wk_iadd C dW_law_478 ?_
  obtain ⟨c_479, hf⟩ := chk_some hf
  refine wk_sld C hs c_479 dW_law_479 ?_
  refine wk_aload_n C 0 dW_law_480 rfl rfl ?_
  refine wk_iload_n C 3 dW_law_481 rfl rfl ?_
  refine wk_iconst C dW_law_482 kiconst_2 ?_
  refine wk_iadd C dW_law_483 ?_
  obtain ⟨c_484, hf⟩ := chk_some hf
  refine wk_sld C hs c_484 dW_law_484 ?_
  refine wk_aload_n C 0 dW_law_485 rfl rfl ?_
  refine wk_iload_n C 3 dW_law_486 rfl rfl ?_
  refine wk_iconst C dW_law_487 kiconst_3 ?_
  refine wk_iadd C dW_law_488 ?_
  obtain ⟨c_489, hf⟩ := chk_some hf
  refine wk_sld C hs c_489 dW_law_489 ?_
  refine wk_aload_n C 0 dW_law_490 rfl rfl ?_
  refine wk_iload_n C 3 dW_law_491 rfl rfl ?_
  refine wk_iconst C dW_law_492 kiconst_4 ?_
  refine wk_iadd C dW_law_493 ?_
  obtain ⟨c_494, hf⟩ := chk_some hf
  refine wk_sld C hs c_494 dW_law_494 ?_
  refine wk_if_eq (tgt := 502) C dW_law_495 rfl hf (fun c_495 hf => ?_) (fun c_495 hf => ?_)
  · refine wk_iconst C dW_law_502 kiconst_0 ?_
    obtain ⟨r503, h503, e_503, hf⟩ := bd_some hf
    refine wk_callV (As := [.int (xs (Int32.toNatClampNeg (v3 + 1))), .int (xs (Int32.toNatClampNeg (v3 + 2))), .int (xs (Int32.toNatClampNeg (v3 + 3))), .int 0]) (rest := [.int r471]) C lw_good cw_W_62 wi_M_most (m_M_most hI e_503) lz_46 (he_46 G (h471 46)) rfl rfl rfl (Nat.le_of_ble_eq_true rfl) (by decide) dW_law_503 ?_
    refine wk_icmp_eq (tgt := 722) C dW_law_506 rfl hf (fun c_506 hf => ?_) (fun c_506 hf => ?_)
    · refine wk_iinc C dW_law_722 rfl kiconst_6 (by decide) ?_
      refine wk_goto (tgt := 18) C dW_law_725 rfl ?_
      exact wk_go (hk18 _ _ _ hf hq) (And.intro rfl (And.intro rfl (And.intro rfl (And.intro rfl trivial))))
    · refine wk_iconst C dW_law_509 kiconst_0 ?_
      cases hf
      exact absurd (show (0 : Int32) = 1 from hq.1) (by decide)
  · refine wk_iconst C dW_law_498 kiconst_1 ?_
    refine wk_goto (tgt := 503) C dW_law_499 rfl ?_
    obtain ⟨r503, h503, e_503, hf⟩ := bd_some hf
    refine wk_callV (As := [.int (xs (Int32.toNatClampNeg (v3 + 1))), .int (xs (Int32.toNatClampNeg (v3 + 2))), .int (xs (Int32.toNatClampNeg (v3 + 3))), .int 1]) (rest := [.int r471]) C lw_good cw_W_62 wi_M_most (m_M_most hI e_503) lz_46 (he_46 G (h471 46)) rfl rfl rfl (Nat.le_of_ble_eq_true rfl) (by decide) dW_law_503 ?_
    refine wk_icmp_eq (tgt := 722) C dW_law_506 rfl hf (fun c_506 hf => ?_) (fun c_506 hf => ?_)
    · refine wk_iinc C dW_law_722 rfl kiconst_6 (by decide) ?_
      refine wk_goto (tgt := 18) C dW_law_725 rfl ?_
      exact wk_go (hk18 _ _ _ hf hq) (And.intro rfl (And.intro rfl (And.intro rfl (And.intro rfl trivial))))
    · refine wk_iconst C dW_law_509 kiconst_0 ?_
      cases hf
      exact absurd (show (0 : Int32) = 1 from hq.1) (by decide)
set_option maxHeartbeats 4000000 in
set_option maxRecDepth 100000 in
theorem b_W_law_631 {X : wk_X} {G : cGt} (hI : wd_inj (vC G)) (C : wk_C X (vC G) cW_law RW 4 7 180) {sb L : Nat} {xs : Nat → Int32} (hs : wk_S X (vC G) sb L xs) {k18 : Int32 → Hp → Option (Int32 × Hp)} (hk18 : ∀ (v3 : Int32) (h : Hp) (q : Int32 × Hp), k18 v3 h = some q → q.1 = 1 ∧ wk_QL X (vC G) sb → WW X (vC G) h 18 [(0, .ref sb), (1, .ref (cad G 0)), (2, .ref (cad G 46)), (3, .int v3)] []) {v3 : Int32} {s1 : Int32} {s2 : Int32} {s3 : Int32} {h : Hp} {q : Int32 × Hp}  (hf : f_W_law_631 L xs k18 v3 s1 s2 s3 h = some q) (hq : q.1 = 1 ∧ wk_QL X (vC G) sb) : WW X (vC G) h 631 [(0, .ref sb), (1, .ref (cad G 0)), (2, .ref (cad G 46)), (3, .int v3)] [.int s3, .int s2, .int s1, .ref (cad G 0)] := by
  unfold f_W_law_631 at hf
  obtain ⟨r631, h631, e_631, hf⟩ := bd_some hf
  refine wk_callV (As := [.int s1, .int s2, .int s3]) (rest := []) C lw_good cw_W_71 wi_D_compare (m_D_compare hI e_631) lz_0 (he_0 G (h 0)) rfl rfl rfl (Nat.le_of_ble_eq_true rfl) (by decide) dW_law_631 ?_
  refine wk_aload_n C 2 dW_law_634 rfl rfl ?_
  refine wk_aload_n C 0 dW_law_635 rfl rfl ?_
  refine wk_iload_n C 3 dW_law_636 rfl rfl ?_
  refine wk_iconst C dW_law_637 kiconst_1 ?_
  refine wk_iadd C dW_law_638 ?_
  obtain ⟨c_639, hf⟩ := chk_some hf
  refine wk_sld C hs c_639 dW_law_639 ?_
  refine wk_aload_n C 0 dW_law_640 rfl rfl ?_
  refine wk_iload_n C 3 dW_law_641 rfl rfl ?_
  refine wk_iconst C dW_law_642 kiconst_2 ?_
  refine wk_iadd C dW_law_643 ?_
  obtain ⟨c_644, hf⟩ := chk_some hf
  refine wk_sld C hs c_644 dW_law_644 ?_
  refine wk_aload_n C 0 dW_law_645 rfl rfl ?_
  refine wk_iload_n C 3 dW_law_646 rfl rfl ?_
  refine wk_iconst C dW_law_647 kiconst_3 ?_
  refine wk_iadd C dW_law_648 ?_
  obtain ⟨c_649, hf⟩ := chk_some hf
  refine wk_sld C hs c_649 dW_law_649 ?_
  refine wk_if_eq (tgt := 657) C dW_law_650 rfl hf (fun c_650 hf => ?_) (fun c_650 hf => ?_)
  · refine wk_iconst C dW_law_657 kiconst_0 ?_
    obtain ⟨r658, h658, e_658, hf⟩ := bd_some hf
    refine wk_callV (As := [.int (xs (Int32.toNatClampNeg (v3 + 1))), .int (xs (Int32.toNatClampNeg (v3 + 2))), .int 0]) (rest := [.int r631]) C lw_good cw_W_75 wi_M_compare (m_M_compare hI e_658) lz_46 (he_46 G (h631 46)) rfl rfl rfl (Nat.le_of_ble_eq_true rfl) (by decide) dW_law_658 ?_
    refine wk_icmp_eq (tgt := 722) C dW_law_661 rfl hf (fun c_661 hf => ?_) (fun c_661 hf => ?_)
    · refine wk_iinc C dW_law_722 rfl kiconst_6 (by decide) ?_
      refine wk_goto (tgt := 18) C dW_law_725 rfl ?_
      exact wk_go (hk18 _ _ _ hf hq) (And.intro rfl (And.intro rfl (And.intro rfl (And.intro rfl trivial))))
    · refine wk_iconst C dW_law_664 kiconst_0 ?_
      cases hf
      exact absurd (show (0 : Int32) = 1 from hq.1) (by decide)
  · refine wk_iconst C dW_law_653 kiconst_1 ?_
    refine wk_goto (tgt := 658) C dW_law_654 rfl ?_
    obtain ⟨r658, h658, e_658, hf⟩ := bd_some hf
    refine wk_callV (As := [.int (xs (Int32.toNatClampNeg (v3 + 1))), .int (xs (Int32.toNatClampNeg (v3 + 2))), .int 1]) (rest := [.int r631]) C lw_good cw_W_75 wi_M_compare (m_M_compare hI e_658) lz_46 (he_46 G (h631 46)) rfl rfl rfl (Nat.le_of_ble_eq_true rfl) (by decide) dW_law_658 ?_
    refine wk_icmp_eq (tgt := 722) C dW_law_661 rfl hf (fun c_661 hf => ?_) (fun c_661 hf => ?_)
    · refine wk_iinc C dW_law_722 rfl kiconst_6 (by decide) ?_
      refine wk_goto (tgt := 18) C dW_law_725 rfl ?_
      exact wk_go (hk18 _ _ _ hf hq) (And.intro rfl (And.intro rfl (And.intro rfl (And.intro rfl trivial))))
    · refine wk_iconst C dW_law_664 kiconst_0 ?_
      cases hf
      exact absurd (show (0 : Int32) = 1 from hq.1) (by decide)
set_option maxHeartbeats 4000000 in
set_option maxRecDepth 100000 in
theorem b_W_law_18 {X : wk_X} {G : cGt} (hI : wd_inj (vC G)) (C : wk_C X (vC G) cW_law RW 4 7 180) {sb L : Nat} {xs : Nat → Int32} (hs : wk_S X (vC G) sb L xs) : ∀ (n : Nat) {v3 : Int32} {h : Hp} {q : Int32 × Hp}  (hf : f_W_law_18 L xs n v3 h = some q) (hq : q.1 = 1 ∧ wk_QL X (vC G) sb), WW X (vC G) h 18 [(0, .ref sb), (1, .ref (cad G 0)), (2, .ref (cad G 46)), (3, .int v3)] [] := by
  intro n
  induction n with
  | zero =>
    intros
    rename_i hf _
    cases hf
  | succ n ih =>
    intro v3 h q hf hq
    rw [f_W_law_18] at hf
    refine wk_iload_n C 3 dW_law_18 rfl rfl ?_
    refine wk_aload_n C 0 dW_law_19 rfl rfl ?_
    refine wk_slen C hs dW_law_20 ?_
    refine wk_bipush C dW_law_21 kbipush_6 ?_
    refine wk_isub C dW_law_23 ?_
    refine wk_icmp_gt (tgt := 728) C dW_law_24 rfl hf (fun c_24 hf => ?_) (fun c_24 hf => ?_)
    · refine wk_iconst C dW_law_728 kiconst_1 ?_
      cases hf
      exact wk_lawret C hq.2 dW_law_729
    · refine wk_aload_n C 0 dW_law_27 rfl rfl ?_
      refine wk_iload_n C 3 dW_law_28 rfl rfl ?_
      obtain ⟨c_29, hf⟩ := chk_some hf
      refine wk_sld C hs c_29 dW_law_29 ?_
      refine wk_bipush C dW_law_30 kbipush_15 ?_
      refine wk_iand C dW_law_32 ?_
      by_cases c_33_0 : ((xs (Int32.toNatClampNeg v3)) &&& 15) = 0
      · have hf := (if_pos c_33_0).symm.trans hf
        refine wk_tableIn (tgt := 112) C dW_law_33 (z := 0) (by rw [c_33_0]; decide) (by decide) (by decide) rfl rfl ?_
        refine wk_aload_n C 1 dW_law_112 rfl rfl ?_
        refine wk_aload_n C 0 dW_law_113 rfl rfl ?_
        refine wk_iload_n C 3 dW_law_114 rfl rfl ?_
        refine wk_iconst C dW_law_115 kiconst_1 ?_
        refine wk_iadd C dW_law_116 ?_
        obtain ⟨c_117, hf⟩ := chk_some hf
        refine wk_sld C hs c_117 dW_law_117 ?_
        refine wk_aload_n C 0 dW_law_118 rfl rfl ?_
        refine wk_iload_n C 3 dW_law_119 rfl rfl ?_
        refine wk_iconst C dW_law_120 kiconst_2 ?_
        refine wk_iadd C dW_law_121 ?_
        obtain ⟨c_122, hf⟩ := chk_some hf
        refine wk_sld C hs c_122 dW_law_122 ?_
        refine wk_aload_n C 0 dW_law_123 rfl rfl ?_
        refine wk_iload_n C 3 dW_law_124 rfl rfl ?_
        refine wk_iconst C dW_law_125 kiconst_3 ?_
        refine wk_iadd C dW_law_126 ?_
        obtain ⟨c_127, hf⟩ := chk_some hf
        refine wk_sld C hs c_127 dW_law_127 ?_
        refine wk_aload_n C 0 dW_law_128 rfl rfl ?_
        refine wk_iload_n C 3 dW_law_129 rfl rfl ?_
        refine wk_iconst C dW_law_130 kiconst_4 ?_
        refine wk_iadd C dW_law_131 ?_
        obtain ⟨c_132, hf⟩ := chk_some hf
        refine wk_sld C hs c_132 dW_law_132 ?_
        refine wk_aload_n C 0 dW_law_133 rfl rfl ?_
        refine wk_iload_n C 3 dW_law_134 rfl rfl ?_
        refine wk_iconst C dW_law_135 kiconst_5 ?_
        refine wk_iadd C dW_law_136 ?_
        obtain ⟨c_137, hf⟩ := chk_some hf
        refine wk_sld C hs c_137 dW_law_137 ?_
        obtain ⟨r138, h138, e_138, hf⟩ := bd_some hf
        refine wk_callV (As := [.int (xs (Int32.toNatClampNeg (v3 + 1))), .int (xs (Int32.toNatClampNeg (v3 + 2))), .int (xs (Int32.toNatClampNeg (v3 + 3))), .int (xs (Int32.toNatClampNeg (v3 + 4))), .int (xs (Int32.toNatClampNeg (v3 + 5)))]) (rest := []) C lw_good cw_W_13 wi_D_feed (m_D_feed hI e_138) lz_0 (he_0 G (h 0)) rfl rfl rfl (Nat.le_of_ble_eq_true rfl) (by decide) dW_law_138 ?_
        refine wk_aload_n C 2 dW_law_141 rfl rfl ?_
        refine wk_aload_n C 0 dW_law_142 rfl rfl ?_
        refine wk_iload_n C 3 dW_law_143 rfl rfl ?_
        refine wk_iconst C dW_law_144 kiconst_1 ?_
        refine wk_iadd C dW_law_145 ?_
        obtain ⟨c_146, hf⟩ := chk_some hf
        refine wk_sld C hs c_146 dW_law_146 ?_
        refine wk_aload_n C 0 dW_law_147 rfl rfl ?_
        refine wk_iload_n C 3 dW_law_148 rfl rfl ?_
        refine wk_iconst C dW_law_149 kiconst_2 ?_
        refine wk_iadd C dW_law_150 ?_
        obtain ⟨c_151, hf⟩ := chk_some hf
        refine wk_sld C hs c_151 dW_law_151 ?_
        refine wk_aload_n C 0 dW_law_152 rfl rfl ?_
        refine wk_iload_n C 3 dW_law_153 rfl rfl ?_
        refine wk_iconst C dW_law_154 kiconst_3 ?_
        refine wk_iadd C dW_law_155 ?_
        obtain ⟨c_156, hf⟩ := chk_some hf
        refine wk_sld C hs c_156 dW_law_156 ?_
        refine wk_aload_n C 0 dW_law_157 rfl rfl ?_
        refine wk_iload_n C 3 dW_law_158 rfl rfl ?_
        refine wk_iconst C dW_law_159 kiconst_4 ?_
        refine wk_iadd C dW_law_160 ?_
        obtain ⟨c_161, hf⟩ := chk_some hf
        refine wk_sld C hs c_161 dW_law_161 ?_
        refine wk_aload_n C 0 dW_law_162 rfl rfl ?_
        refine wk_iload_n C 3 dW_law_163 rfl rfl ?_
        refine wk_iconst C dW_law_164 kiconst_5 ?_
        refine wk_iadd C dW_law_165 ?_
        obtain ⟨c_166, hf⟩ := chk_some hf
        refine wk_sld C hs c_166 dW_law_166 ?_
        obtain ⟨r167, h167, e_167, hf⟩ := bd_some hf
        refine wk_callV (As := [.int (xs (Int32.toNatClampNeg (v3 + 1))), .int (xs (Int32.toNatClampNeg (v3 + 2))), .int (xs (Int32.toNatClampNeg (v3 + 3))), .int (xs (Int32.toNatClampNeg (v3 + 4))), .int (xs (Int32.toNatClampNeg (v3 + 5)))]) (rest := [.int r138]) C lw_good cw_W_17 wi_M_feed (m_M_feed hI e_167) lz_46 (he_46 G (h138 46)) rfl rfl rfl (Nat.le_of_ble_eq_true rfl) (by decide) dW_law_167 ?_
        refine wk_icmp_eq (tgt := 722) C dW_law_170 rfl hf (fun c_170 hf => ?_) (fun c_170 hf => ?_)
        · refine wk_iinc C dW_law_722 rfl kiconst_6 (by decide) ?_
          refine wk_goto (tgt := 18) C dW_law_725 rfl ?_
          exact wk_go (ih hf hq) (And.intro rfl (And.intro rfl (And.intro rfl (And.intro rfl trivial))))
        · refine wk_iconst C dW_law_173 kiconst_0 ?_
          cases hf
          exact absurd (show (0 : Int32) = 1 from hq.1) (by decide)
      · have hf := (if_neg c_33_0).symm.trans hf
        by_cases c_33_1 : ((xs (Int32.toNatClampNeg v3)) &&& 15) = 1
        · have hf := (if_pos c_33_1).symm.trans hf
          refine wk_tableIn (tgt := 175) C dW_law_33 (z := 1) (by rw [c_33_1]; decide) (by decide) (by decide) rfl rfl ?_
          refine wk_aload_n C 1 dW_law_175 rfl rfl ?_
          refine wk_aload_n C 0 dW_law_176 rfl rfl ?_
          refine wk_iload_n C 3 dW_law_177 rfl rfl ?_
          refine wk_iconst C dW_law_178 kiconst_1 ?_
          refine wk_iadd C dW_law_179 ?_
          obtain ⟨c_180, hf⟩ := chk_some hf
          refine wk_sld C hs c_180 dW_law_180 ?_
          obtain ⟨r181, h181, e_181, hf⟩ := bd_some hf
          refine wk_callV (As := [.int (xs (Int32.toNatClampNeg (v3 + 1)))]) (rest := []) C lw_good cw_W_18 wi_D_end (m_D_end hI e_181) lz_0 (he_0 G (h 0)) rfl rfl rfl (Nat.le_of_ble_eq_true rfl) (by decide) dW_law_181 ?_
          refine wk_aload_n C 2 dW_law_184 rfl rfl ?_
          refine wk_aload_n C 0 dW_law_185 rfl rfl ?_
          refine wk_iload_n C 3 dW_law_186 rfl rfl ?_
          refine wk_iconst C dW_law_187 kiconst_1 ?_
          refine wk_iadd C dW_law_188 ?_
          obtain ⟨c_189, hf⟩ := chk_some hf
          refine wk_sld C hs c_189 dW_law_189 ?_
          obtain ⟨r190, h190, e_190, hf⟩ := bd_some hf
          refine wk_callV (As := [.int (xs (Int32.toNatClampNeg (v3 + 1)))]) (rest := [.int r181]) C lw_good cw_W_22 wi_M_end (m_M_end hI e_190) lz_46 (he_46 G (h181 46)) rfl rfl rfl (Nat.le_of_ble_eq_true rfl) (by decide) dW_law_190 ?_
          refine wk_icmp_eq (tgt := 722) C dW_law_193 rfl hf (fun c_193 hf => ?_) (fun c_193 hf => ?_)
          · refine wk_iinc C dW_law_722 rfl kiconst_6 (by decide) ?_
            refine wk_goto (tgt := 18) C dW_law_725 rfl ?_
            exact wk_go (ih hf hq) (And.intro rfl (And.intro rfl (And.intro rfl (And.intro rfl trivial))))
          · refine wk_iconst C dW_law_196 kiconst_0 ?_
            cases hf
            exact absurd (show (0 : Int32) = 1 from hq.1) (by decide)
        · have hf := (if_neg c_33_1).symm.trans hf
          by_cases c_33_2 : ((xs (Int32.toNatClampNeg v3)) &&& 15) = 2
          · have hf := (if_pos c_33_2).symm.trans hf
            refine wk_tableIn (tgt := 198) C dW_law_33 (z := 2) (by rw [c_33_2]; decide) (by decide) (by decide) rfl rfl ?_
            refine wk_aload_n C 1 dW_law_198 rfl rfl ?_
            refine wk_aload_n C 0 dW_law_199 rfl rfl ?_
            refine wk_iload_n C 3 dW_law_200 rfl rfl ?_
            refine wk_iconst C dW_law_201 kiconst_1 ?_
            refine wk_iadd C dW_law_202 ?_
            obtain ⟨c_203, hf⟩ := chk_some hf
            refine wk_sld C hs c_203 dW_law_203 ?_
            obtain ⟨r204, h204, e_204, hf⟩ := bd_some hf
            refine wk_callV (As := [.int (xs (Int32.toNatClampNeg (v3 + 1)))]) (rest := []) C lw_good cw_W_23 wi_D_put (m_D_put hI e_204) lz_0 (he_0 G (h 0)) rfl rfl rfl (Nat.le_of_ble_eq_true rfl) (by decide) dW_law_204 ?_
            refine wk_aload_n C 2 dW_law_207 rfl rfl ?_
            refine wk_aload_n C 0 dW_law_208 rfl rfl ?_
            refine wk_iload_n C 3 dW_law_209 rfl rfl ?_
            refine wk_iconst C dW_law_210 kiconst_1 ?_
            refine wk_iadd C dW_law_211 ?_
            obtain ⟨c_212, hf⟩ := chk_some hf
            refine wk_sld C hs c_212 dW_law_212 ?_
            obtain ⟨r213, h213, e_213, hf⟩ := bd_some hf
            refine wk_callV (As := [.int (xs (Int32.toNatClampNeg (v3 + 1)))]) (rest := [.int r204]) C lw_good cw_W_26 wi_M_put (m_M_put hI e_213) lz_46 (he_46 G (h204 46)) rfl rfl rfl (Nat.le_of_ble_eq_true rfl) (by decide) dW_law_213 ?_
            refine wk_icmp_eq (tgt := 722) C dW_law_216 rfl hf (fun c_216 hf => ?_) (fun c_216 hf => ?_)
            · refine wk_iinc C dW_law_722 rfl kiconst_6 (by decide) ?_
              refine wk_goto (tgt := 18) C dW_law_725 rfl ?_
              exact wk_go (ih hf hq) (And.intro rfl (And.intro rfl (And.intro rfl (And.intro rfl trivial))))
            · refine wk_iconst C dW_law_219 kiconst_0 ?_
              cases hf
              exact absurd (show (0 : Int32) = 1 from hq.1) (by decide)
          · have hf := (if_neg c_33_2).symm.trans hf
            by_cases c_33_3 : ((xs (Int32.toNatClampNeg v3)) &&& 15) = 3
            · have hf := (if_pos c_33_3).symm.trans hf
              refine wk_tableIn (tgt := 221) C dW_law_33 (z := 3) (by rw [c_33_3]; decide) (by decide) (by decide) rfl rfl ?_
              refine wk_aload_n C 1 dW_law_221 rfl rfl ?_
              refine wk_aload_n C 0 dW_law_222 rfl rfl ?_
              refine wk_iload_n C 3 dW_law_223 rfl rfl ?_
              refine wk_iconst C dW_law_224 kiconst_1 ?_
              refine wk_iadd C dW_law_225 ?_
              obtain ⟨c_226, hf⟩ := chk_some hf
              refine wk_sld C hs c_226 dW_law_226 ?_
              obtain ⟨r227, h227, e_227, hf⟩ := bd_some hf
              refine wk_callV (As := [.int (xs (Int32.toNatClampNeg (v3 + 1)))]) (rest := []) C lw_good cw_W_27 wi_D_size (m_D_size hI e_227) lz_0 (he_0 G (h 0)) rfl rfl rfl (Nat.le_of_ble_eq_true rfl) (by decide) dW_law_227 ?_
              refine wk_aload_n C 2 dW_law_230 rfl rfl ?_
              refine wk_aload_n C 0 dW_law_231 rfl rfl ?_
              refine wk_iload_n C 3 dW_law_232 rfl rfl ?_
              refine wk_iconst C dW_law_233 kiconst_1 ?_
              refine wk_iadd C dW_law_234 ?_
              obtain ⟨c_235, hf⟩ := chk_some hf
              refine wk_sld C hs c_235 dW_law_235 ?_
              obtain ⟨r236, h236, e_236, hf⟩ := bd_some hf
              refine wk_callV (As := [.int (xs (Int32.toNatClampNeg (v3 + 1)))]) (rest := [.int r227]) C lw_good cw_W_30 wi_M_size (m_M_size hI e_236) lz_46 (he_46 G (h227 46)) rfl rfl rfl (Nat.le_of_ble_eq_true rfl) (by decide) dW_law_236 ?_
              refine wk_icmp_eq (tgt := 722) C dW_law_239 rfl hf (fun c_239 hf => ?_) (fun c_239 hf => ?_)
              · refine wk_iinc C dW_law_722 rfl kiconst_6 (by decide) ?_
                refine wk_goto (tgt := 18) C dW_law_725 rfl ?_
                exact wk_go (ih hf hq) (And.intro rfl (And.intro rfl (And.intro rfl (And.intro rfl trivial))))
              · refine wk_iconst C dW_law_242 kiconst_0 ?_
                cases hf
                exact absurd (show (0 : Int32) = 1 from hq.1) (by decide)
            · have hf := (if_neg c_33_3).symm.trans hf
              by_cases c_33_4 : ((xs (Int32.toNatClampNeg v3)) &&& 15) = 4
              · have hf := (if_pos c_33_4).symm.trans hf
                refine wk_tableIn (tgt := 244) C dW_law_33 (z := 4) (by rw [c_33_4]; decide) (by decide) (by decide) rfl rfl ?_
                refine wk_aload_n C 1 dW_law_244 rfl rfl ?_
                refine wk_aload_n C 0 dW_law_245 rfl rfl ?_
                refine wk_iload_n C 3 dW_law_246 rfl rfl ?_
                refine wk_iconst C dW_law_247 kiconst_1 ?_
                refine wk_iadd C dW_law_248 ?_
                obtain ⟨c_249, hf⟩ := chk_some hf
                refine wk_sld C hs c_249 dW_law_249 ?_
                refine wk_aload_n C 0 dW_law_250 rfl rfl ?_
                refine wk_iload_n C 3 dW_law_251 rfl rfl ?_
                refine wk_iconst C dW_law_252 kiconst_2 ?_
                refine wk_iadd C dW_law_253 ?_
                obtain ⟨c_254, hf⟩ := chk_some hf
                refine wk_sld C hs c_254 dW_law_254 ?_
                obtain ⟨r255, h255, e_255, hf⟩ := bd_some hf
                refine wk_callV (As := [.int (xs (Int32.toNatClampNeg (v3 + 1))), .int (xs (Int32.toNatClampNeg (v3 + 2)))]) (rest := []) C lw_good cw_W_31 wi_D_at (m_D_at hI e_255) lz_0 (he_0 G (h 0)) rfl rfl rfl (Nat.le_of_ble_eq_true rfl) (by decide) dW_law_255 ?_
                refine wk_aload_n C 2 dW_law_258 rfl rfl ?_
                refine wk_aload_n C 0 dW_law_259 rfl rfl ?_
                refine wk_iload_n C 3 dW_law_260 rfl rfl ?_
                refine wk_iconst C dW_law_261 kiconst_1 ?_
                refine wk_iadd C dW_law_262 ?_
                obtain ⟨c_263, hf⟩ := chk_some hf
                refine wk_sld C hs c_263 dW_law_263 ?_
                refine wk_aload_n C 0 dW_law_264 rfl rfl ?_
                refine wk_iload_n C 3 dW_law_265 rfl rfl ?_
                refine wk_iconst C dW_law_266 kiconst_2 ?_
                refine wk_iadd C dW_law_267 ?_
                obtain ⟨c_268, hf⟩ := chk_some hf
                refine wk_sld C hs c_268 dW_law_268 ?_
                obtain ⟨r269, h269, e_269, hf⟩ := bd_some hf
                refine wk_callV (As := [.int (xs (Int32.toNatClampNeg (v3 + 1))), .int (xs (Int32.toNatClampNeg (v3 + 2)))]) (rest := [.int r255]) C lw_good cw_W_35 wi_M_at (m_M_at hI e_269) lz_46 (he_46 G (h255 46)) rfl rfl rfl (Nat.le_of_ble_eq_true rfl) (by decide) dW_law_269 ?_
                refine wk_icmp_eq (tgt := 722) C dW_law_272 rfl hf (fun c_272 hf => ?_) (fun c_272 hf => ?_)
                · refine wk_iinc C dW_law_722 rfl kiconst_6 (by decide) ?_
                  refine wk_goto (tgt := 18) C dW_law_725 rfl ?_
                  exact wk_go (ih hf hq) (And.intro rfl (And.intro rfl (And.intro rfl (And.intro rfl trivial))))
                · refine wk_iconst C dW_law_275 kiconst_0 ?_
                  cases hf
                  exact absurd (show (0 : Int32) = 1 from hq.1) (by decide)
              · have hf := (if_neg c_33_4).symm.trans hf
                by_cases c_33_5 : ((xs (Int32.toNatClampNeg v3)) &&& 15) = 5
                · have hf := (if_pos c_33_5).symm.trans hf
                  refine wk_tableIn (tgt := 277) C dW_law_33 (z := 5) (by rw [c_33_5]; decide) (by decide) (by decide) rfl rfl ?_
                  refine wk_aload_n C 1 dW_law_277 rfl rfl ?_
                  refine wk_aload_n C 0 dW_law_278 rfl rfl ?_
                  refine wk_iload_n C 3 dW_law_279 rfl rfl ?_
                  refine wk_iconst C dW_law_280 kiconst_1 ?_
                  refine wk_iadd C dW_law_281 ?_
                  obtain ⟨c_282, hf⟩ := chk_some hf
                  refine wk_sld C hs c_282 dW_law_282 ?_
                  obtain ⟨r283, h283, e_283, hf⟩ := bd_some hf
                  refine wk_callV (As := [.int (xs (Int32.toNatClampNeg (v3 + 1)))]) (rest := []) C lw_good cw_W_36 wi_D_digits (m_D_digits hI e_283) lz_0 (he_0 G (h 0)) rfl rfl rfl (Nat.le_of_ble_eq_true rfl) (by decide) dW_law_283 ?_
                  refine wk_aload_n C 2 dW_law_286 rfl rfl ?_
                  refine wk_aload_n C 0 dW_law_287 rfl rfl ?_
                  refine wk_iload_n C 3 dW_law_288 rfl rfl ?_
                  refine wk_iconst C dW_law_289 kiconst_1 ?_
                  refine wk_iadd C dW_law_290 ?_
                  obtain ⟨c_291, hf⟩ := chk_some hf
                  refine wk_sld C hs c_291 dW_law_291 ?_
                  obtain ⟨r292, h292, e_292, hf⟩ := bd_some hf
                  refine wk_callV (As := [.int (xs (Int32.toNatClampNeg (v3 + 1)))]) (rest := [.int r283]) C lw_good cw_W_39 wi_M_digits (m_M_digits hI e_292) lz_46 (he_46 G (h283 46)) rfl rfl rfl (Nat.le_of_ble_eq_true rfl) (by decide) dW_law_292 ?_
                  refine wk_icmp_eq (tgt := 722) C dW_law_295 rfl hf (fun c_295 hf => ?_) (fun c_295 hf => ?_)
                  · refine wk_iinc C dW_law_722 rfl kiconst_6 (by decide) ?_
                    refine wk_goto (tgt := 18) C dW_law_725 rfl ?_
                    exact wk_go (ih hf hq) (And.intro rfl (And.intro rfl (And.intro rfl (And.intro rfl trivial))))
                  · refine wk_iconst C dW_law_298 kiconst_0 ?_
                    cases hf
                    exact absurd (show (0 : Int32) = 1 from hq.1) (by decide)
                · have hf := (if_neg c_33_5).symm.trans hf
                  by_cases c_33_6 : ((xs (Int32.toNatClampNeg v3)) &&& 15) = 6
                  · have hf := (if_pos c_33_6).symm.trans hf
                    refine wk_tableIn (tgt := 300) C dW_law_33 (z := 6) (by rw [c_33_6]; decide) (by decide) (by decide) rfl rfl ?_
                    refine wk_aload_n C 1 dW_law_300 rfl rfl ?_
                    refine wk_aload_n C 0 dW_law_301 rfl rfl ?_
                    refine wk_iload_n C 3 dW_law_302 rfl rfl ?_
                    refine wk_iconst C dW_law_303 kiconst_1 ?_
                    refine wk_iadd C dW_law_304 ?_
                    obtain ⟨c_305, hf⟩ := chk_some hf
                    refine wk_sld C hs c_305 dW_law_305 ?_
                    obtain ⟨r306, h306, e_306, hf⟩ := bd_some hf
                    refine wk_callV (As := [.int (xs (Int32.toNatClampNeg (v3 + 1)))]) (rest := []) C lw_good cw_W_40 wi_D_fuzz (m_D_fuzz hI e_306) lz_0 (he_0 G (h 0)) rfl rfl rfl (Nat.le_of_ble_eq_true rfl) (by decide) dW_law_306 ?_
                    refine wk_aload_n C 2 dW_law_309 rfl rfl ?_
                    refine wk_aload_n C 0 dW_law_310 rfl rfl ?_
                    refine wk_iload_n C 3 dW_law_311 rfl rfl ?_
                    refine wk_iconst C dW_law_312 kiconst_1 ?_
                    refine wk_iadd C dW_law_313 ?_
                    obtain ⟨c_314, hf⟩ := chk_some hf
                    refine wk_sld C hs c_314 dW_law_314 ?_
                    obtain ⟨r315, h315, e_315, hf⟩ := bd_some hf
                    refine wk_callV (As := [.int (xs (Int32.toNatClampNeg (v3 + 1)))]) (rest := [.int r306]) C lw_good cw_W_43 wi_M_fuzz (m_M_fuzz hI e_315) lz_46 (he_46 G (h306 46)) rfl rfl rfl (Nat.le_of_ble_eq_true rfl) (by decide) dW_law_315 ?_
                    refine wk_icmp_eq (tgt := 722) C dW_law_318 rfl hf (fun c_318 hf => ?_) (fun c_318 hf => ?_)
                    · refine wk_iinc C dW_law_722 rfl kiconst_6 (by decide) ?_
                      refine wk_goto (tgt := 18) C dW_law_725 rfl ?_
                      exact wk_go (ih hf hq) (And.intro rfl (And.intro rfl (And.intro rfl (And.intro rfl trivial))))
                    · refine wk_iconst C dW_law_321 kiconst_0 ?_
                      cases hf
                      exact absurd (show (0 : Int32) = 1 from hq.1) (by decide)
                  · have hf := (if_neg c_33_6).symm.trans hf
                    by_cases c_33_7 : ((xs (Int32.toNatClampNeg v3)) &&& 15) = 7
                    · have hf := (if_pos c_33_7).symm.trans hf
                      refine wk_tableIn (tgt := 323) C dW_law_33 (z := 7) (by rw [c_33_7]; decide) (by decide) (by decide) rfl rfl ?_
                      refine wk_aload_n C 1 dW_law_323 rfl rfl ?_
                      refine wk_aload_n C 0 dW_law_324 rfl rfl ?_
                      refine wk_iload_n C 3 dW_law_325 rfl rfl ?_
                      refine wk_iconst C dW_law_326 kiconst_1 ?_
                      refine wk_iadd C dW_law_327 ?_
                      obtain ⟨c_328, hf⟩ := chk_some hf
                      refine wk_sld C hs c_328 dW_law_328 ?_
                      obtain ⟨r329, h329, e_329, hf⟩ := bd_some hf
                      refine wk_callV (As := [.int (xs (Int32.toNatClampNeg (v3 + 1)))]) (rest := []) C lw_good cw_W_44 wi_D_form (m_D_form hI e_329) lz_0 (he_0 G (h 0)) rfl rfl rfl (Nat.le_of_ble_eq_true rfl) (by decide) dW_law_329 ?_
                      refine wk_aload_n C 2 dW_law_332 rfl rfl ?_
                      refine wk_aload_n C 0 dW_law_333 rfl rfl ?_
                      refine wk_iload_n C 3 dW_law_334 rfl rfl ?_
                      refine wk_iconst C dW_law_335 kiconst_1 ?_
                      refine wk_iadd C dW_law_336 ?_
                      obtain ⟨c_337, hf⟩ := chk_some hf
                      refine wk_sld C hs c_337 dW_law_337 ?_
                      obtain ⟨r338, h338, e_338, hf⟩ := bd_some hf
                      refine wk_callV (As := [.int (xs (Int32.toNatClampNeg (v3 + 1)))]) (rest := [.int r329]) C lw_good cw_W_47 wi_M_form (m_M_form hI e_338) lz_46 (he_46 G (h329 46)) rfl rfl rfl (Nat.le_of_ble_eq_true rfl) (by decide) dW_law_338 ?_
                      refine wk_icmp_eq (tgt := 722) C dW_law_341 rfl hf (fun c_341 hf => ?_) (fun c_341 hf => ?_)
                      · refine wk_iinc C dW_law_722 rfl kiconst_6 (by decide) ?_
                        refine wk_goto (tgt := 18) C dW_law_725 rfl ?_
                        exact wk_go (ih hf hq) (And.intro rfl (And.intro rfl (And.intro rfl (And.intro rfl trivial))))
                      · refine wk_iconst C dW_law_344 kiconst_0 ?_
                        cases hf
                        exact absurd (show (0 : Int32) = 1 from hq.1) (by decide)
                    · have hf := (if_neg c_33_7).symm.trans hf
                      by_cases c_33_8 : ((xs (Int32.toNatClampNeg v3)) &&& 15) = 8
                      · have hf := (if_pos c_33_8).symm.trans hf
                        refine wk_tableIn (tgt := 346) C dW_law_33 (z := 8) (by rw [c_33_8]; decide) (by decide) (by decide) rfl rfl ?_
                        refine wk_aload_n C 1 dW_law_346 rfl rfl ?_
                        refine wk_aload_n C 0 dW_law_347 rfl rfl ?_
                        refine wk_iload_n C 3 dW_law_348 rfl rfl ?_
                        refine wk_iconst C dW_law_349 kiconst_1 ?_
                        refine wk_iadd C dW_law_350 ?_
                        obtain ⟨c_351, hf⟩ := chk_some hf
                        refine wk_sld C hs c_351 dW_law_351 ?_
                        refine wk_aload_n C 0 dW_law_352 rfl rfl ?_
                        refine wk_iload_n C 3 dW_law_353 rfl rfl ?_
                        refine wk_iconst C dW_law_354 kiconst_2 ?_
                        refine wk_iadd C dW_law_355 ?_
                        obtain ⟨c_356, hf⟩ := chk_some hf
                        refine wk_sld C hs c_356 dW_law_356 ?_
                        refine wk_aload_n C 0 dW_law_357 rfl rfl ?_
                        refine wk_iload_n C 3 dW_law_358 rfl rfl ?_
                        refine wk_iconst C dW_law_359 kiconst_3 ?_
                        refine wk_iadd C dW_law_360 ?_
                        obtain ⟨c_361, hf⟩ := chk_some hf
                        refine wk_sld C hs c_361 dW_law_361 ?_
                        refine wk_aload_n C 0 dW_law_362 rfl rfl ?_
                        refine wk_iload_n C 3 dW_law_363 rfl rfl ?_
                        refine wk_iconst C dW_law_364 kiconst_4 ?_
                        refine wk_iadd C dW_law_365 ?_
                        obtain ⟨c_366, hf⟩ := chk_some hf
                        refine wk_sld C hs c_366 dW_law_366 ?_
                        obtain ⟨r367, h367, e_367, hf⟩ := bd_some hf
                        refine wk_callV (As := [.int (xs (Int32.toNatClampNeg (v3 + 1))), .int (xs (Int32.toNatClampNeg (v3 + 2))), .int (xs (Int32.toNatClampNeg (v3 + 3))), .int (xs (Int32.toNatClampNeg (v3 + 4)))]) (rest := []) C lw_good cw_W_48 wi_D_work (m_D_work hI e_367) lz_0 (he_0 G (h 0)) rfl rfl rfl (Nat.le_of_ble_eq_true rfl) (by decide) dW_law_367 ?_
                        refine wk_aload_n C 2 dW_law_370 rfl rfl ?_
                        refine wk_aload_n C 0 dW_law_371 rfl rfl ?_
                        refine wk_iload_n C 3 dW_law_372 rfl rfl ?_
                        refine wk_iconst C dW_law_373 kiconst_1 ?_
                        refine wk_iadd C dW_law_374 ?_
                        obtain ⟨c_375, hf⟩ := chk_some hf
                        refine wk_sld C hs c_375 dW_law_375 ?_
                        refine wk_aload_n C 0 dW_law_376 rfl rfl ?_
                        refine wk_iload_n C 3 dW_law_377 rfl rfl ?_
                        refine wk_iconst C dW_law_378 kiconst_2 ?_
                        refine wk_iadd C dW_law_379 ?_
                        obtain ⟨c_380, hf⟩ := chk_some hf
                        refine wk_sld C hs c_380 dW_law_380 ?_
                        refine wk_aload_n C 0 dW_law_381 rfl rfl ?_
                        refine wk_iload_n C 3 dW_law_382 rfl rfl ?_
                        refine wk_iconst C dW_law_383 kiconst_3 ?_
                        refine wk_iadd C dW_law_384 ?_
                        obtain ⟨c_385, hf⟩ := chk_some hf
                        refine wk_sld C hs c_385 dW_law_385 ?_
                        refine wk_aload_n C 0 dW_law_386 rfl rfl ?_
                        refine wk_iload_n C 3 dW_law_387 rfl rfl ?_
                        refine wk_iconst C dW_law_388 kiconst_4 ?_
                        refine wk_iadd C dW_law_389 ?_
                        obtain ⟨c_390, hf⟩ := chk_some hf
                        refine wk_sld C hs c_390 dW_law_390 ?_
                        obtain ⟨r391, h391, e_391, hf⟩ := bd_some hf
                        refine wk_callV (As := [.int (xs (Int32.toNatClampNeg (v3 + 1))), .int (xs (Int32.toNatClampNeg (v3 + 2))), .int (xs (Int32.toNatClampNeg (v3 + 3))), .int (xs (Int32.toNatClampNeg (v3 + 4)))]) (rest := [.int r367]) C lw_good cw_W_52 wi_M_work (m_M_work hI e_391) lz_46 (he_46 G (h367 46)) rfl rfl rfl (Nat.le_of_ble_eq_true rfl) (by decide) dW_law_391 ?_
                        refine wk_icmp_eq (tgt := 722) C dW_law_394 rfl hf (fun c_394 hf => ?_) (fun c_394 hf => ?_)
                        · refine wk_iinc C dW_law_722 rfl kiconst_6 (by decide) ?_
                          refine wk_goto (tgt := 18) C dW_law_725 rfl ?_
                          exact wk_go (ih hf hq) (And.intro rfl (And.intro rfl (And.intro rfl (And.intro rfl trivial))))
                        · refine wk_iconst C dW_law_397 kiconst_0 ?_
                          cases hf
                          exact absurd (show (0 : Int32) = 1 from hq.1) (by decide)
                      · have hf := (if_neg c_33_8).symm.trans hf
                        by_cases c_33_9 : ((xs (Int32.toNatClampNeg v3)) &&& 15) = 9
                        · have hf := (if_pos c_33_9).symm.trans hf
                          refine wk_tableIn (tgt := 399) C dW_law_33 (z := 9) (by rw [c_33_9]; decide) (by decide) (by decide) rfl rfl ?_
                          refine wk_aload_n C 1 dW_law_399 rfl rfl ?_
                          refine wk_aload_n C 0 dW_law_400 rfl rfl ?_
                          refine wk_iload_n C 3 dW_law_401 rfl rfl ?_
                          refine wk_iconst C dW_law_402 kiconst_1 ?_
                          refine wk_iadd C dW_law_403 ?_
                          obtain ⟨c_404, hf⟩ := chk_some hf
                          refine wk_sld C hs c_404 dW_law_404 ?_
                          refine wk_aload_n C 0 dW_law_405 rfl rfl ?_
                          refine wk_iload_n C 3 dW_law_406 rfl rfl ?_
                          refine wk_iconst C dW_law_407 kiconst_2 ?_
                          refine wk_iadd C dW_law_408 ?_
                          obtain ⟨c_409, hf⟩ := chk_some hf
                          refine wk_sld C hs c_409 dW_law_409 ?_
                          refine wk_aload_n C 0 dW_law_410 rfl rfl ?_
                          refine wk_iload_n C 3 dW_law_411 rfl rfl ?_
                          refine wk_iconst C dW_law_412 kiconst_3 ?_
                          refine wk_iadd C dW_law_413 ?_
                          obtain ⟨c_414, hf⟩ := chk_some hf
                          refine wk_sld C hs c_414 dW_law_414 ?_
                          obtain ⟨r415, h415, e_415, hf⟩ := bd_some hf
                          refine wk_callV (As := [.int (xs (Int32.toNatClampNeg (v3 + 1))), .int (xs (Int32.toNatClampNeg (v3 + 2))), .int (xs (Int32.toNatClampNeg (v3 + 3)))]) (rest := []) C lw_good cw_W_53 wi_D_turn (m_D_turn hI e_415) lz_0 (he_0 G (h 0)) rfl rfl rfl (Nat.le_of_ble_eq_true rfl) (by decide) dW_law_415 ?_
                          refine wk_aload_n C 2 dW_law_418 rfl rfl ?_
                          refine wk_aload_n C 0 dW_law_419 rfl rfl ?_
                          refine wk_iload_n C 3 dW_law_420 rfl rfl ?_
                          refine wk_iconst C dW_law_421 kiconst_1 ?_
                          refine wk_iadd C dW_law_422 ?_
                          obtain ⟨c_423, hf⟩ := chk_some hf
                          refine wk_sld C hs c_423 dW_law_423 ?_
                          refine wk_aload_n C 0 dW_law_424 rfl rfl ?_
                          refine wk_iload_n C 3 dW_law_425 rfl rfl ?_
                          refine wk_iconst C dW_law_426 kiconst_2 ?_
                          refine wk_iadd C dW_law_427 ?_
                          obtain ⟨c_428, hf⟩ := chk_some hf
                          refine wk_sld C hs c_428 dW_law_428 ?_
                          refine wk_aload_n C 0 dW_law_429 rfl rfl ?_
                          refine wk_iload_n C 3 dW_law_430 rfl rfl ?_
                          refine wk_iconst C dW_law_431 kiconst_3 ?_
                          refine wk_iadd C dW_law_432 ?_
                          obtain ⟨c_433, hf⟩ := chk_some hf
                          refine wk_sld C hs c_433 dW_law_433 ?_
                          obtain ⟨r434, h434, e_434, hf⟩ := bd_some hf
                          refine wk_callV (As := [.int (xs (Int32.toNatClampNeg (v3 + 1))), .int (xs (Int32.toNatClampNeg (v3 + 2))), .int (xs (Int32.toNatClampNeg (v3 + 3)))]) (rest := [.int r415]) C lw_good cw_W_57 wi_M_turn (m_M_turn hI e_434) lz_46 (he_46 G (h415 46)) rfl rfl rfl (Nat.le_of_ble_eq_true rfl) (by decide) dW_law_434 ?_
                          refine wk_icmp_eq (tgt := 722) C dW_law_437 rfl hf (fun c_437 hf => ?_) (fun c_437 hf => ?_)
                          · refine wk_iinc C dW_law_722 rfl kiconst_6 (by decide) ?_
                            refine wk_goto (tgt := 18) C dW_law_725 rfl ?_
                            exact wk_go (ih hf hq) (And.intro rfl (And.intro rfl (And.intro rfl (And.intro rfl trivial))))
                          · refine wk_iconst C dW_law_440 kiconst_0 ?_
                            cases hf
                            exact absurd (show (0 : Int32) = 1 from hq.1) (by decide)
                        · have hf := (if_neg c_33_9).symm.trans hf
                          by_cases c_33_10 : ((xs (Int32.toNatClampNeg v3)) &&& 15) = 10
                          · have hf := (if_pos c_33_10).symm.trans hf
                            refine wk_tableIn (tgt := 442) C dW_law_33 (z := 10) (by rw [c_33_10]; decide) (by decide) (by decide) rfl rfl ?_
                            refine wk_aload_n C 1 dW_law_442 rfl rfl ?_
                            refine wk_aload_n C 0 dW_law_443 rfl rfl ?_
                            refine wk_iload_n C 3 dW_law_444 rfl rfl ?_
                            refine wk_iconst C dW_law_445 kiconst_1 ?_
                            refine wk_iadd C dW_law_446 ?_
                            obtain ⟨c_447, hf⟩ := chk_some hf
                            refine wk_sld C hs c_447 dW_law_447 ?_
                            refine wk_aload_n C 0 dW_law_448 rfl rfl ?_
                            refine wk_iload_n C 3 dW_law_449 rfl rfl ?_
                            refine wk_iconst C dW_law_450 kiconst_2 ?_
                            refine wk_iadd C dW_law_451 ?_
                            obtain ⟨c_452, hf⟩ := chk_some hf
                            refine wk_sld C hs c_452 dW_law_452 ?_
                            refine wk_aload_n C 0 dW_law_453 rfl rfl ?_
                            refine wk_iload_n C 3 dW_law_454 rfl rfl ?_
                            refine wk_iconst C dW_law_455 kiconst_3 ?_
                            refine wk_iadd C dW_law_456 ?_
                            obtain ⟨c_457, hf⟩ := chk_some hf
                            refine wk_sld C hs c_457 dW_law_457 ?_
                            refine wk_aload_n C 0 dW_law_458 rfl rfl ?_
                            refine wk_iload_n C 3 dW_law_459 rfl rfl ?_
                            refine wk_iconst C dW_law_460 kiconst_4 ?_
                            refine wk_iadd C dW_law_461 ?_
                            obtain ⟨c_462, hf⟩ := chk_some hf
                            refine wk_sld C hs c_462 dW_law_462 ?_
                            refine wk_if_eq (tgt := 470) C dW_law_463 rfl hf (fun c_463 hf => ?_) (fun c_463 hf => ?_)
                            · refine wk_iconst C dW_law_470 kiconst_0 ?_
                              exact wk_go (b_W_law_471 hI C hs (fun _ _ _ hf hq => ih hf hq) hf hq) (And.intro rfl (And.intro rfl (And.intro rfl (And.intro rfl trivial))))
                            · refine wk_iconst C dW_law_466 kiconst_1 ?_
                              refine wk_goto (tgt := 471) C dW_law_467 rfl ?_
                              exact wk_go (b_W_law_471 hI C hs (fun _ _ _ hf hq => ih hf hq) hf hq) (And.intro rfl (And.intro rfl (And.intro rfl (And.intro rfl trivial))))
                          · have hf := (if_neg c_33_10).symm.trans hf
                            by_cases c_33_11 : ((xs (Int32.toNatClampNeg v3)) &&& 15) = 11
                            · have hf := (if_pos c_33_11).symm.trans hf
                              refine wk_tableIn (tgt := 511) C dW_law_33 (z := 11) (by rw [c_33_11]; decide) (by decide) (by decide) rfl rfl ?_
                              refine wk_aload_n C 1 dW_law_511 rfl rfl ?_
                              refine wk_aload_n C 0 dW_law_512 rfl rfl ?_
                              refine wk_iload_n C 3 dW_law_513 rfl rfl ?_
                              refine wk_iconst C dW_law_514 kiconst_1 ?_
                              refine wk_iadd C dW_law_515 ?_
                              obtain ⟨c_516, hf⟩ := chk_some hf
                              refine wk_sld C hs c_516 dW_law_516 ?_
                              refine wk_aload_n C 0 dW_law_517 rfl rfl ?_
                              refine wk_iload_n C 3 dW_law_518 rfl rfl ?_
                              refine wk_iconst C dW_law_519 kiconst_2 ?_
                              refine wk_iadd C dW_law_520 ?_
                              obtain ⟨c_521, hf⟩ := chk_some hf
                              refine wk_sld C hs c_521 dW_law_521 ?_
                              refine wk_aload_n C 0 dW_law_522 rfl rfl ?_
                              refine wk_iload_n C 3 dW_law_523 rfl rfl ?_
                              refine wk_iconst C dW_law_524 kiconst_3 ?_
                              refine wk_iadd C dW_law_525 ?_
                              obtain ⟨c_526, hf⟩ := chk_some hf
                              refine wk_sld C hs c_526 dW_law_526 ?_
                              obtain ⟨r527, h527, e_527, hf⟩ := bd_some hf
                              refine wk_callV (As := [.int (xs (Int32.toNatClampNeg (v3 + 1))), .int (xs (Int32.toNatClampNeg (v3 + 2))), .int (xs (Int32.toNatClampNeg (v3 + 3)))]) (rest := []) C lw_good cw_W_63 wi_D_cut (m_D_cut hI e_527) lz_0 (he_0 G (h 0)) rfl rfl rfl (Nat.le_of_ble_eq_true rfl) (by decide) dW_law_527 ?_
                              refine wk_aload_n C 2 dW_law_530 rfl rfl ?_
                              refine wk_aload_n C 0 dW_law_531 rfl rfl ?_
                              refine wk_iload_n C 3 dW_law_532 rfl rfl ?_
                              refine wk_iconst C dW_law_533 kiconst_1 ?_
                              refine wk_iadd C dW_law_534 ?_
                              obtain ⟨c_535, hf⟩ := chk_some hf
                              refine wk_sld C hs c_535 dW_law_535 ?_
                              refine wk_aload_n C 0 dW_law_536 rfl rfl ?_
                              refine wk_iload_n C 3 dW_law_537 rfl rfl ?_
                              refine wk_iconst C dW_law_538 kiconst_2 ?_
                              refine wk_iadd C dW_law_539 ?_
                              obtain ⟨c_540, hf⟩ := chk_some hf
                              refine wk_sld C hs c_540 dW_law_540 ?_
                              refine wk_aload_n C 0 dW_law_541 rfl rfl ?_
                              refine wk_iload_n C 3 dW_law_542 rfl rfl ?_
                              refine wk_iconst C dW_law_543 kiconst_3 ?_
                              refine wk_iadd C dW_law_544 ?_
                              obtain ⟨c_545, hf⟩ := chk_some hf
                              refine wk_sld C hs c_545 dW_law_545 ?_
                              obtain ⟨r546, h546, e_546, hf⟩ := bd_some hf
                              refine wk_callV (As := [.int (xs (Int32.toNatClampNeg (v3 + 1))), .int (xs (Int32.toNatClampNeg (v3 + 2))), .int (xs (Int32.toNatClampNeg (v3 + 3)))]) (rest := [.int r527]) C lw_good cw_W_66 wi_M_cut (m_M_cut hI e_546) lz_46 (he_46 G (h527 46)) rfl rfl rfl (Nat.le_of_ble_eq_true rfl) (by decide) dW_law_546 ?_
                              refine wk_icmp_eq (tgt := 722) C dW_law_549 rfl hf (fun c_549 hf => ?_) (fun c_549 hf => ?_)
                              · refine wk_iinc C dW_law_722 rfl kiconst_6 (by decide) ?_
                                refine wk_goto (tgt := 18) C dW_law_725 rfl ?_
                                exact wk_go (ih hf hq) (And.intro rfl (And.intro rfl (And.intro rfl (And.intro rfl trivial))))
                              · refine wk_iconst C dW_law_552 kiconst_0 ?_
                                cases hf
                                exact absurd (show (0 : Int32) = 1 from hq.1) (by decide)
                            · have hf := (if_neg c_33_11).symm.trans hf
                              by_cases c_33_12 : ((xs (Int32.toNatClampNeg v3)) &&& 15) = 12
                              · have hf := (if_pos c_33_12).symm.trans hf
                                refine wk_tableIn (tgt := 554) C dW_law_33 (z := 12) (by rw [c_33_12]; decide) (by decide) (by decide) rfl rfl ?_
                                refine wk_aload_n C 1 dW_law_554 rfl rfl ?_
                                refine wk_aload_n C 0 dW_law_555 rfl rfl ?_
                                refine wk_iload_n C 3 dW_law_556 rfl rfl ?_
                                refine wk_iconst C dW_law_557 kiconst_1 ?_
                                refine wk_iadd C dW_law_558 ?_
                                obtain ⟨c_559, hf⟩ := chk_some hf
                                refine wk_sld C hs c_559 dW_law_559 ?_
                                refine wk_aload_n C 0 dW_law_560 rfl rfl ?_
                                refine wk_iload_n C 3 dW_law_561 rfl rfl ?_
                                refine wk_iconst C dW_law_562 kiconst_2 ?_
                                refine wk_iadd C dW_law_563 ?_
                                obtain ⟨c_564, hf⟩ := chk_some hf
                                refine wk_sld C hs c_564 dW_law_564 ?_
                                refine wk_aload_n C 0 dW_law_565 rfl rfl ?_
                                refine wk_iload_n C 3 dW_law_566 rfl rfl ?_
                                refine wk_iconst C dW_law_567 kiconst_3 ?_
                                refine wk_iadd C dW_law_568 ?_
                                obtain ⟨c_569, hf⟩ := chk_some hf
                                refine wk_sld C hs c_569 dW_law_569 ?_
                                refine wk_aload_n C 0 dW_law_570 rfl rfl ?_
                                refine wk_iload_n C 3 dW_law_571 rfl rfl ?_
                                refine wk_iconst C dW_law_572 kiconst_4 ?_
                                refine wk_iadd C dW_law_573 ?_
                                obtain ⟨c_574, hf⟩ := chk_some hf
                                refine wk_sld C hs c_574 dW_law_574 ?_
                                obtain ⟨r575, h575, e_575, hf⟩ := bd_some hf
                                refine wk_callV (As := [.int (xs (Int32.toNatClampNeg (v3 + 1))), .int (xs (Int32.toNatClampNeg (v3 + 2))), .int (xs (Int32.toNatClampNeg (v3 + 3))), .int (xs (Int32.toNatClampNeg (v3 + 4)))]) (rest := []) C lw_good cw_W_67 wi_D_column (m_D_column hI e_575) lz_0 (he_0 G (h 0)) rfl rfl rfl (Nat.le_of_ble_eq_true rfl) (by decide) dW_law_575 ?_
                                refine wk_aload_n C 2 dW_law_578 rfl rfl ?_
                                refine wk_aload_n C 0 dW_law_579 rfl rfl ?_
                                refine wk_iload_n C 3 dW_law_580 rfl rfl ?_
                                refine wk_iconst C dW_law_581 kiconst_1 ?_
                                refine wk_iadd C dW_law_582 ?_
                                obtain ⟨c_583, hf⟩ := chk_some hf
                                refine wk_sld C hs c_583 dW_law_583 ?_
                                refine wk_aload_n C 0 dW_law_584 rfl rfl ?_
                                refine wk_iload_n C 3 dW_law_585 rfl rfl ?_
                                refine wk_iconst C dW_law_586 kiconst_2 ?_
                                refine wk_iadd C dW_law_587 ?_
                                obtain ⟨c_588, hf⟩ := chk_some hf
                                refine wk_sld C hs c_588 dW_law_588 ?_
                                refine wk_aload_n C 0 dW_law_589 rfl rfl ?_
                                refine wk_iload_n C 3 dW_law_590 rfl rfl ?_
                                refine wk_iconst C dW_law_591 kiconst_3 ?_
                                refine wk_iadd C dW_law_592 ?_
                                obtain ⟨c_593, hf⟩ := chk_some hf
                                refine wk_sld C hs c_593 dW_law_593 ?_
                                refine wk_aload_n C 0 dW_law_594 rfl rfl ?_
                                refine wk_iload_n C 3 dW_law_595 rfl rfl ?_
                                refine wk_iconst C dW_law_596 kiconst_4 ?_
                                refine wk_iadd C dW_law_597 ?_
                                obtain ⟨c_598, hf⟩ := chk_some hf
                                refine wk_sld C hs c_598 dW_law_598 ?_
                                obtain ⟨r599, h599, e_599, hf⟩ := bd_some hf
                                refine wk_callV (As := [.int (xs (Int32.toNatClampNeg (v3 + 1))), .int (xs (Int32.toNatClampNeg (v3 + 2))), .int (xs (Int32.toNatClampNeg (v3 + 3))), .int (xs (Int32.toNatClampNeg (v3 + 4)))]) (rest := [.int r575]) C lw_good cw_W_70 wi_M_column (m_M_column hI e_599) lz_46 (he_46 G (h575 46)) rfl rfl rfl (Nat.le_of_ble_eq_true rfl) (by decide) dW_law_599 ?_
                                refine wk_icmp_eq (tgt := 722) C dW_law_602 rfl hf (fun c_602 hf => ?_) (fun c_602 hf => ?_)
                                · refine wk_iinc C dW_law_722 rfl kiconst_6 (by decide) ?_
                                  refine wk_goto (tgt := 18) C dW_law_725 rfl ?_
                                  exact wk_go (ih hf hq) (And.intro rfl (And.intro rfl (And.intro rfl (And.intro rfl trivial))))
                                · refine wk_iconst C dW_law_605 kiconst_0 ?_
                                  cases hf
                                  exact absurd (show (0 : Int32) = 1 from hq.1) (by decide)
                              · have hf := (if_neg c_33_12).symm.trans hf
                                by_cases c_33_13 : ((xs (Int32.toNatClampNeg v3)) &&& 15) = 13
                                · have hf := (if_pos c_33_13).symm.trans hf
                                  refine wk_tableIn (tgt := 607) C dW_law_33 (z := 13) (by rw [c_33_13]; decide) (by decide) (by decide) rfl rfl ?_
                                  refine wk_aload_n C 1 dW_law_607 rfl rfl ?_
                                  refine wk_aload_n C 0 dW_law_608 rfl rfl ?_
                                  refine wk_iload_n C 3 dW_law_609 rfl rfl ?_
                                  refine wk_iconst C dW_law_610 kiconst_1 ?_
                                  refine wk_iadd C dW_law_611 ?_
                                  obtain ⟨c_612, hf⟩ := chk_some hf
                                  refine wk_sld C hs c_612 dW_law_612 ?_
                                  refine wk_aload_n C 0 dW_law_613 rfl rfl ?_
                                  refine wk_iload_n C 3 dW_law_614 rfl rfl ?_
                                  refine wk_iconst C dW_law_615 kiconst_2 ?_
                                  refine wk_iadd C dW_law_616 ?_
                                  obtain ⟨c_617, hf⟩ := chk_some hf
                                  refine wk_sld C hs c_617 dW_law_617 ?_
                                  refine wk_aload_n C 0 dW_law_618 rfl rfl ?_
                                  refine wk_iload_n C 3 dW_law_619 rfl rfl ?_
                                  refine wk_iconst C dW_law_620 kiconst_3 ?_
                                  refine wk_iadd C dW_law_621 ?_
                                  obtain ⟨c_622, hf⟩ := chk_some hf
                                  refine wk_sld C hs c_622 dW_law_622 ?_
                                  refine wk_if_eq (tgt := 630) C dW_law_623 rfl hf (fun c_623 hf => ?_) (fun c_623 hf => ?_)
                                  · refine wk_iconst C dW_law_630 kiconst_0 ?_
                                    exact wk_go (b_W_law_631 hI C hs (fun _ _ _ hf hq => ih hf hq) hf hq) (And.intro rfl (And.intro rfl (And.intro rfl (And.intro rfl trivial))))
                                  · refine wk_iconst C dW_law_626 kiconst_1 ?_
                                    refine wk_goto (tgt := 631) C dW_law_627 rfl ?_
                                    exact wk_go (b_W_law_631 hI C hs (fun _ _ _ hf hq => ih hf hq) hf hq) (And.intro rfl (And.intro rfl (And.intro rfl (And.intro rfl trivial))))
                                · have hf := (if_neg c_33_13).symm.trans hf
                                  by_cases c_33_14 : ((xs (Int32.toNatClampNeg v3)) &&& 15) = 14
                                  · have hf := (if_pos c_33_14).symm.trans hf
                                    refine wk_tableIn (tgt := 666) C dW_law_33 (z := 14) (by rw [c_33_14]; decide) (by decide) (by decide) rfl rfl ?_
                                    refine wk_aload_n C 1 dW_law_666 rfl rfl ?_
                                    refine wk_aload_n C 0 dW_law_667 rfl rfl ?_
                                    refine wk_iload_n C 3 dW_law_668 rfl rfl ?_
                                    refine wk_iconst C dW_law_669 kiconst_1 ?_
                                    refine wk_iadd C dW_law_670 ?_
                                    obtain ⟨c_671, hf⟩ := chk_some hf
                                    refine wk_sld C hs c_671 dW_law_671 ?_
                                    obtain ⟨r672, h672, e_672, hf⟩ := bd_some hf
                                    refine wk_callV (As := [.int (xs (Int32.toNatClampNeg (v3 + 1)))]) (rest := []) C lw_good cw_W_76 wi_D_whole (m_D_whole hI e_672) lz_0 (he_0 G (h 0)) rfl rfl rfl (Nat.le_of_ble_eq_true rfl) (by decide) dW_law_672 ?_
                                    refine wk_aload_n C 2 dW_law_675 rfl rfl ?_
                                    refine wk_aload_n C 0 dW_law_676 rfl rfl ?_
                                    refine wk_iload_n C 3 dW_law_677 rfl rfl ?_
                                    refine wk_iconst C dW_law_678 kiconst_1 ?_
                                    refine wk_iadd C dW_law_679 ?_
                                    obtain ⟨c_680, hf⟩ := chk_some hf
                                    refine wk_sld C hs c_680 dW_law_680 ?_
                                    obtain ⟨r681, h681, e_681, hf⟩ := bd_some hf
                                    refine wk_callV (As := [.int (xs (Int32.toNatClampNeg (v3 + 1)))]) (rest := [.int r672]) C lw_good cw_W_79 wi_M_whole (m_M_whole hI e_681) lz_46 (he_46 G (h672 46)) rfl rfl rfl (Nat.le_of_ble_eq_true rfl) (by decide) dW_law_681 ?_
                                    refine wk_icmp_eq (tgt := 722) C dW_law_684 rfl hf (fun c_684 hf => ?_) (fun c_684 hf => ?_)
                                    · refine wk_iinc C dW_law_722 rfl kiconst_6 (by decide) ?_
                                      refine wk_goto (tgt := 18) C dW_law_725 rfl ?_
                                      exact wk_go (ih hf hq) (And.intro rfl (And.intro rfl (And.intro rfl (And.intro rfl trivial))))
                                    · refine wk_iconst C dW_law_687 kiconst_0 ?_
                                      cases hf
                                      exact absurd (show (0 : Int32) = 1 from hq.1) (by decide)
                                  · have hf := (if_neg c_33_14).symm.trans hf
                                    by_cases c_33_15 : ((xs (Int32.toNatClampNeg v3)) &&& 15) = 15
                                    · have hf := (if_pos c_33_15).symm.trans hf
                                      refine wk_tableIn (tgt := 689) C dW_law_33 (z := 15) (by rw [c_33_15]; decide) (by decide) (by decide) rfl rfl ?_
                                      refine wk_aload_n C 1 dW_law_689 rfl rfl ?_
                                      refine wk_aload_n C 0 dW_law_690 rfl rfl ?_
                                      refine wk_iload_n C 3 dW_law_691 rfl rfl ?_
                                      refine wk_iconst C dW_law_692 kiconst_1 ?_
                                      refine wk_iadd C dW_law_693 ?_
                                      obtain ⟨c_694, hf⟩ := chk_some hf
                                      refine wk_sld C hs c_694 dW_law_694 ?_
                                      refine wk_aload_n C 0 dW_law_695 rfl rfl ?_
                                      refine wk_iload_n C 3 dW_law_696 rfl rfl ?_
                                      refine wk_iconst C dW_law_697 kiconst_2 ?_
                                      refine wk_iadd C dW_law_698 ?_
                                      obtain ⟨c_699, hf⟩ := chk_some hf
                                      refine wk_sld C hs c_699 dW_law_699 ?_
                                      obtain ⟨r700, h700, e_700, hf⟩ := bd_some hf
                                      refine wk_callV (As := [.int (xs (Int32.toNatClampNeg (v3 + 1))), .int (xs (Int32.toNatClampNeg (v3 + 2)))]) (rest := []) C lw_good cw_W_80 wi_D_about (m_D_about hI e_700) lz_0 (he_0 G (h 0)) rfl rfl rfl (Nat.le_of_ble_eq_true rfl) (by decide) dW_law_700 ?_
                                      refine wk_aload_n C 2 dW_law_703 rfl rfl ?_
                                      refine wk_aload_n C 0 dW_law_704 rfl rfl ?_
                                      refine wk_iload_n C 3 dW_law_705 rfl rfl ?_
                                      refine wk_iconst C dW_law_706 kiconst_1 ?_
                                      refine wk_iadd C dW_law_707 ?_
                                      obtain ⟨c_708, hf⟩ := chk_some hf
                                      refine wk_sld C hs c_708 dW_law_708 ?_
                                      refine wk_aload_n C 0 dW_law_709 rfl rfl ?_
                                      refine wk_iload_n C 3 dW_law_710 rfl rfl ?_
                                      refine wk_iconst C dW_law_711 kiconst_2 ?_
                                      refine wk_iadd C dW_law_712 ?_
                                      obtain ⟨c_713, hf⟩ := chk_some hf
                                      refine wk_sld C hs c_713 dW_law_713 ?_
                                      obtain ⟨r714, h714, e_714, hf⟩ := bd_some hf
                                      refine wk_callV (As := [.int (xs (Int32.toNatClampNeg (v3 + 1))), .int (xs (Int32.toNatClampNeg (v3 + 2)))]) (rest := [.int r700]) C lw_good cw_W_83 wi_M_about (m_M_about hI e_714) lz_46 (he_46 G (h700 46)) rfl rfl rfl (Nat.le_of_ble_eq_true rfl) (by decide) dW_law_714 ?_
                                      refine wk_icmp_eq (tgt := 722) C dW_law_717 rfl hf (fun c_717 hf => ?_) (fun c_717 hf => ?_)
                                      · refine wk_iinc C dW_law_722 rfl kiconst_6 (by decide) ?_
                                        refine wk_goto (tgt := 18) C dW_law_725 rfl ?_
                                        exact wk_go (ih hf hq) (And.intro rfl (And.intro rfl (And.intro rfl (And.intro rfl trivial))))
                                      · refine wk_iconst C dW_law_720 kiconst_0 ?_
                                        cases hf
                                        exact absurd (show (0 : Int32) = 1 from hq.1) (by decide)
                                    · have hf := (if_neg c_33_15).symm.trans hf
                                      refine wk_tableOut (tgt := 722) C dW_law_33 (wk_out16 c_33_0 c_33_1 c_33_2 c_33_3 c_33_4 c_33_5 c_33_6 c_33_7 c_33_8 c_33_9 c_33_10 c_33_11 c_33_12 c_33_13 c_33_14 c_33_15) rfl ?_
                                      refine wk_iinc C dW_law_722 rfl kiconst_6 (by decide) ?_
                                      refine wk_goto (tgt := 18) C dW_law_725 rfl ?_
                                      exact wk_go (ih hf hq) (And.intro rfl (And.intro rfl (And.intro rfl (And.intro rfl trivial))))
