/-! PART 30: the law's first object -/
theorem dL_law_0 : decode cL_law 0 = .ok (.new 18, 3) := by decide +kernel
theorem dL_law_3 : decode cL_law 3 = .ok (.dup, 1) := by decide +kernel
theorem dL_law_4 : decode cL_law 4 = .ok (.invokespecial 173, 3) := by decide +kernel
theorem dL_law_7 : decode cL_law 7 = .ok (.astore_n 1, 1) := by decide +kernel
theorem dL_law_8 : decode cL_law 8 = .ok (.aload_n 1, 1) := by decide +kernel
theorem dL_law_9 : decode cL_law 9 = .ok (.invokevirtual 174, 3) := by decide +kernel
theorem dL_law_12 : decode cL_law 12 = .ok (.bipush (-15), 2) := by decide +kernel
theorem dL_law_14 : decode cL_law 14 = .ok (.if_icmp .ne 28, 3) := by decide +kernel
theorem dL_law_17 : decode cL_law 17 = .ok (.aload_n 1, 1) := by decide +kernel
theorem dL_law_18 : decode cL_law 18 = .ok (.invokevirtual 177, 3) := by decide +kernel
theorem dL_law_21 : decode cL_law 21 = .ok (.bipush (-15), 2) := by decide +kernel
theorem dL_law_23 : decode cL_law 23 = .ok (.if_icmp .ne 19, 3) := by decide +kernel
theorem dL_law_26 : decode cL_law 26 = .ok (.aload_n 1, 1) := by decide +kernel
theorem dL_law_27 : decode cL_law 27 = .ok (.invokevirtual 180, 3) := by decide +kernel
theorem dL_law_30 : decode cL_law 30 = .ok (.ifCond .ne 12, 3) := by decide +kernel
theorem dL_law_33 : decode cL_law 33 = .ok (.aload_n 1, 1) := by decide +kernel
theorem dL_law_34 : decode cL_law 34 = .ok (.iconst 3, 1) := by decide +kernel
theorem dL_law_35 : decode cL_law 35 = .ok (.invokevirtual 56, 3) := by decide +kernel
theorem dL_law_38 : decode cL_law 38 = .ok (.iconst 2, 1) := by decide +kernel
theorem dL_law_39 : decode cL_law 39 = .ok (.if_icmp .eq 5, 3) := by decide +kernel
theorem dL_law_42 : decode cL_law 42 = .ok (.iconst 0, 1) := by decide +kernel
theorem dL_law_43 : decode cL_law 43 = .ok (.ireturn, 1) := by decide +kernel
theorem dL_law_44 : decode cL_law 44 = .ok (.iconst 0, 1) := by decide +kernel
theorem dL_law_45 : decode cL_law 45 = .ok (.istore_n 2, 1) := by decide +kernel
theorem dL_law_46 : decode cL_law 46 = .ok (.iload_n 2, 1) := by decide +kernel
theorem dL_law_47 : decode cL_law 47 = .ok (.bipush 60, 2) := by decide +kernel
theorem dL_law_49 : decode cL_law 49 = .ok (.if_icmp .ge 25, 3) := by decide +kernel
theorem dL_law_52 : decode cL_law 52 = .ok (.aload_n 1, 1) := by decide +kernel
theorem dL_law_53 : decode cL_law 53 = .ok (.bipush 65, 2) := by decide +kernel
theorem dL_law_55 : decode cL_law 55 = .ok (.iload_n 2, 1) := by decide +kernel
theorem dL_law_56 : decode cL_law 56 = .ok (.iadd, 1) := by decide +kernel
theorem dL_law_57 : decode cL_law 57 = .ok (.invokevirtual 17, 3) := by decide +kernel
theorem dL_law_60 : decode cL_law 60 = .ok (.iload_n 2, 1) := by decide +kernel
theorem dL_law_61 : decode cL_law 61 = .ok (.iconst 1, 1) := by decide +kernel
theorem dL_law_62 : decode cL_law 62 = .ok (.iadd, 1) := by decide +kernel
theorem dL_law_63 : decode cL_law 63 = .ok (.if_icmp .eq 5, 3) := by decide +kernel
theorem dL_law_66 : decode cL_law 66 = .ok (.iconst 0, 1) := by decide +kernel
theorem dL_law_67 : decode cL_law 67 = .ok (.ireturn, 1) := by decide +kernel
theorem dL_law_68 : decode cL_law 68 = .ok (.iinc 2 1, 3) := by decide +kernel
theorem dL_law_71 : decode cL_law 71 = .ok (.goto (-25), 3) := by decide +kernel
theorem dL_law_74 : decode cL_law 74 = .ok (.aload_n 1, 1) := by decide +kernel
theorem dL_law_75 : decode cL_law 75 = .ok (.bipush 115, 2) := by decide +kernel
theorem dL_law_77 : decode cL_law 77 = .ok (.invokevirtual 17, 3) := by decide +kernel
theorem dL_law_80 : decode cL_law 80 = .ok (.bipush (-13), 2) := by decide +kernel
theorem dL_law_82 : decode cL_law 82 = .ok (.if_icmp .ne 33, 3) := by decide +kernel
theorem dL_law_85 : decode cL_law 85 = .ok (.aload_n 1, 1) := by decide +kernel
theorem dL_law_86 : decode cL_law 86 = .ok (.bipush 17, 2) := by decide +kernel
theorem dL_law_88 : decode cL_law 88 = .ok (.invokevirtual 87, 3) := by decide +kernel
theorem dL_law_91 : decode cL_law 91 = .ok (.bipush 60, 2) := by decide +kernel
theorem dL_law_93 : decode cL_law 93 = .ok (.if_icmp .ne 22, 3) := by decide +kernel
theorem dL_law_96 : decode cL_law 96 = .ok (.aload_n 1, 1) := by decide +kernel
theorem dL_law_97 : decode cL_law 97 = .ok (.invokevirtual 23, 3) := by decide +kernel
theorem dL_law_100 : decode cL_law 100 = .ok (.sipush (-1000), 3) := by decide +kernel
theorem dL_law_103 : decode cL_law 103 = .ok (.if_icmp .ne 12, 3) := by decide +kernel
theorem dL_law_106 : decode cL_law 106 = .ok (.aload_n 1, 1) := by decide +kernel
theorem dL_law_107 : decode cL_law 107 = .ok (.bipush 17, 2) := by decide +kernel
theorem dL_law_109 : decode cL_law 109 = .ok (.invokevirtual 87, 3) := by decide +kernel
theorem dL_law_112 : decode cL_law 112 = .ok (.ifCond .eq 5, 3) := by decide +kernel
theorem dL_law_115 : decode cL_law 115 = .ok (.iconst 0, 1) := by decide +kernel
theorem dL_law_116 : decode cL_law 116 = .ok (.ireturn, 1) := by decide +kernel
theorem dL_law_117 : decode cL_law 117 = .ok (.iconst 0, 1) := by decide +kernel
theorem dL_law_118 : decode cL_law 118 = .ok (.istore_n 2, 1) := by decide +kernel
theorem dL_law_119 : decode cL_law 119 = .ok (.iload_n 2, 1) := by decide +kernel
theorem dL_law_120 : decode cL_law 120 = .ok (.bipush 12, 2) := by decide +kernel
theorem dL_law_122 : decode cL_law 122 = .ok (.if_icmp .ge 28, 3) := by decide +kernel
theorem dL_law_125 : decode cL_law 125 = .ok (.aload_n 1, 1) := by decide +kernel
theorem dL_law_126 : decode cL_law 126 = .ok (.iconst 1, 1) := by decide +kernel
theorem dL_law_127 : decode cL_law 127 = .ok (.iload_n 2, 1) := by decide +kernel
theorem dL_law_128 : decode cL_law 128 = .ok (.bipush 9, 2) := by decide +kernel
theorem dL_law_130 : decode cL_law 130 = .ok (.irem, 1) := by decide +kernel
theorem dL_law_131 : decode cL_law 131 = .ok (.iadd, 1) := by decide +kernel
theorem dL_law_132 : decode cL_law 132 = .ok (.iconst 0, 1) := by decide +kernel
theorem dL_law_133 : decode cL_law 133 = .ok (.iconst 0, 1) := by decide +kernel
theorem dL_law_134 : decode cL_law 134 = .ok (.iconst 0, 1) := by decide +kernel
theorem dL_law_135 : decode cL_law 135 = .ok (.invokevirtual 43, 3) := by decide +kernel
theorem dL_law_138 : decode cL_law 138 = .ok (.iload_n 2, 1) := by decide +kernel
theorem dL_law_139 : decode cL_law 139 = .ok (.if_icmp .eq 5, 3) := by decide +kernel
theorem dL_law_142 : decode cL_law 142 = .ok (.iconst 0, 1) := by decide +kernel
theorem dL_law_143 : decode cL_law 143 = .ok (.ireturn, 1) := by decide +kernel
theorem dL_law_144 : decode cL_law 144 = .ok (.iinc 2 1, 3) := by decide +kernel
theorem dL_law_147 : decode cL_law 147 = .ok (.goto (-28), 3) := by decide +kernel
theorem dL_law_150 : decode cL_law 150 = .ok (.aload_n 1, 1) := by decide +kernel
theorem dL_law_151 : decode cL_law 151 = .ok (.iconst 1, 1) := by decide +kernel
theorem dL_law_152 : decode cL_law 152 = .ok (.iconst 0, 1) := by decide +kernel
theorem dL_law_153 : decode cL_law 153 = .ok (.iconst 0, 1) := by decide +kernel
theorem dL_law_154 : decode cL_law 154 = .ok (.iconst 0, 1) := by decide +kernel
theorem dL_law_155 : decode cL_law 155 = .ok (.invokevirtual 43, 3) := by decide +kernel
theorem dL_law_158 : decode cL_law 158 = .ok (.bipush (-14), 2) := by decide +kernel
theorem dL_law_160 : decode cL_law 160 = .ok (.if_icmp .ne 37, 3) := by decide +kernel
theorem dL_law_163 : decode cL_law 163 = .ok (.aload_n 1, 1) := by decide +kernel
theorem dL_law_164 : decode cL_law 164 = .ok (.iconst 1, 1) := by decide +kernel
theorem dL_law_165 : decode cL_law 165 = .ok (.bipush 12, 2) := by decide +kernel
theorem dL_law_167 : decode cL_law 167 = .ok (.invokestatic 159, 3) := by decide +kernel
theorem dL_law_170 : decode cL_law 170 = .ok (.ifCond .eq 27, 3) := by decide +kernel
theorem dL_law_173 : decode cL_law 173 = .ok (.aload_n 1, 1) := by decide +kernel
theorem dL_law_174 : decode cL_law 174 = .ok (.iconst 0, 1) := by decide +kernel
theorem dL_law_175 : decode cL_law 175 = .ok (.iconst 0, 1) := by decide +kernel
theorem dL_law_176 : decode cL_law 176 = .ok (.iconst 0, 1) := by decide +kernel
theorem dL_law_177 : decode cL_law 177 = .ok (.iconst 0, 1) := by decide +kernel
theorem dL_law_178 : decode cL_law 178 = .ok (.invokevirtual 43, 3) := by decide +kernel
theorem dL_law_181 : decode cL_law 181 = .ok (.bipush (-12), 2) := by decide +kernel
theorem dL_law_183 : decode cL_law 183 = .ok (.if_icmp .ne 14, 3) := by decide +kernel
theorem dL_law_186 : decode cL_law 186 = .ok (.aload_n 1, 1) := by decide +kernel
theorem dL_law_187 : decode cL_law 187 = .ok (.bipush 18, 2) := by decide +kernel
theorem dL_law_189 : decode cL_law 189 = .ok (.invokevirtual 87, 3) := by decide +kernel
theorem dL_law_192 : decode cL_law 192 = .ok (.bipush 8, 2) := by decide +kernel
theorem dL_law_194 : decode cL_law 194 = .ok (.if_icmp .eq 5, 3) := by decide +kernel
theorem dL_law_197 : decode cL_law 197 = .ok (.iconst 0, 1) := by decide +kernel
theorem dL_law_198 : decode cL_law 198 = .ok (.ireturn, 1) := by decide +kernel
theorem dL_law_199 : decode cL_law 199 = .ok (.iconst 1, 1) := by decide +kernel
theorem dL_law_200 : decode cL_law 200 = .ok (.istore_n 2, 1) := by decide +kernel
theorem dL_law_201 : decode cL_law 201 = .ok (.iload_n 2, 1) := by decide +kernel
theorem dL_law_202 : decode cL_law 202 = .ok (.bipush 12, 2) := by decide +kernel
theorem dL_law_204 : decode cL_law 204 = .ok (.if_icmp .ge 23, 3) := by decide +kernel
theorem dL_law_207 : decode cL_law 207 = .ok (.aload_n 1, 1) := by decide +kernel
theorem dL_law_208 : decode cL_law 208 = .ok (.iload_n 2, 1) := by decide +kernel
theorem dL_law_209 : decode cL_law 209 = .ok (.iload_n 2, 1) := by decide +kernel
theorem dL_law_210 : decode cL_law 210 = .ok (.iconst 1, 1) := by decide +kernel
theorem dL_law_211 : decode cL_law 211 = .ok (.isub, 1) := by decide +kernel
theorem dL_law_212 : decode cL_law 212 = .ok (.invokevirtual 47, 3) := by decide +kernel
theorem dL_law_215 : decode cL_law 215 = .ok (.iconst 1, 1) := by decide +kernel
theorem dL_law_216 : decode cL_law 216 = .ok (.if_icmp .eq 5, 3) := by decide +kernel
theorem dL_law_219 : decode cL_law 219 = .ok (.iconst 0, 1) := by decide +kernel
theorem dL_law_220 : decode cL_law 220 = .ok (.ireturn, 1) := by decide +kernel
theorem dL_law_221 : decode cL_law 221 = .ok (.iinc 2 1, 3) := by decide +kernel
theorem dL_law_224 : decode cL_law 224 = .ok (.goto (-23), 3) := by decide +kernel
theorem dL_law_227 : decode cL_law 227 = .ok (.iconst 0, 1) := by decide +kernel
theorem dL_law_228 : decode cL_law 228 = .ok (.istore_n 2, 1) := by decide +kernel
theorem dL_law_229 : decode cL_law 229 = .ok (.iload_n 2, 1) := by decide +kernel
theorem dL_law_230 : decode cL_law 230 = .ok (.iconst 4, 1) := by decide +kernel
theorem dL_law_231 : decode cL_law 231 = .ok (.if_icmp .ge 26, 3) := by decide +kernel
theorem dL_law_234 : decode cL_law 234 = .ok (.aload_n 1, 1) := by decide +kernel
theorem dL_law_235 : decode cL_law 235 = .ok (.iload_n 2, 1) := by decide +kernel
theorem dL_law_236 : decode cL_law 236 = .ok (.bipush 10, 2) := by decide +kernel
theorem dL_law_238 : decode cL_law 238 = .ok (.iload_n 2, 1) := by decide +kernel
theorem dL_law_239 : decode cL_law 239 = .ok (.imul, 1) := by decide +kernel
theorem dL_law_240 : decode cL_law 240 = .ok (.iconst 1, 1) := by decide +kernel
theorem dL_law_241 : decode cL_law 241 = .ok (.iadd, 1) := by decide +kernel
theorem dL_law_242 : decode cL_law 242 = .ok (.invokevirtual 53, 3) := by decide +kernel
theorem dL_law_245 : decode cL_law 245 = .ok (.iload_n 2, 1) := by decide +kernel
theorem dL_law_246 : decode cL_law 246 = .ok (.if_icmp .eq 5, 3) := by decide +kernel
theorem dL_law_249 : decode cL_law 249 = .ok (.iconst 0, 1) := by decide +kernel
theorem dL_law_250 : decode cL_law 250 = .ok (.ireturn, 1) := by decide +kernel
theorem dL_law_251 : decode cL_law 251 = .ok (.iinc 2 1, 3) := by decide +kernel
theorem dL_law_254 : decode cL_law 254 = .ok (.goto (-25), 3) := by decide +kernel
theorem dL_law_257 : decode cL_law 257 = .ok (.aload_n 1, 1) := by decide +kernel
theorem dL_law_258 : decode cL_law 258 = .ok (.iconst 5, 1) := by decide +kernel
theorem dL_law_259 : decode cL_law 259 = .ok (.iconst 5, 1) := by decide +kernel
theorem dL_law_260 : decode cL_law 260 = .ok (.invokevirtual 53, 3) := by decide +kernel
theorem dL_law_263 : decode cL_law 263 = .ok (.bipush (-14), 2) := by decide +kernel
theorem dL_law_265 : decode cL_law 265 = .ok (.if_icmp .ne 245, 3) := by decide +kernel
theorem dL_law_268 : decode cL_law 268 = .ok (.aload_n 1, 1) := by decide +kernel
theorem dL_law_269 : decode cL_law 269 = .ok (.iconst 1, 1) := by decide +kernel
theorem dL_law_270 : decode cL_law 270 = .ok (.iconst 4, 1) := by decide +kernel
theorem dL_law_271 : decode cL_law 271 = .ok (.invokestatic 159, 3) := by decide +kernel
theorem dL_law_274 : decode cL_law 274 = .ok (.ifCond .eq 236, 3) := by decide +kernel
theorem dL_law_277 : decode cL_law 277 = .ok (.aload_n 1, 1) := by decide +kernel
theorem dL_law_278 : decode cL_law 278 = .ok (.iconst 0, 1) := by decide +kernel
theorem dL_law_279 : decode cL_law 279 = .ok (.bipush 11, 2) := by decide +kernel
theorem dL_law_281 : decode cL_law 281 = .ok (.invokevirtual 47, 3) := by decide +kernel
theorem dL_law_284 : decode cL_law 284 = .ok (.bipush (-14), 2) := by decide +kernel
theorem dL_law_286 : decode cL_law 286 = .ok (.if_icmp .ne 224, 3) := by decide +kernel
theorem dL_law_289 : decode cL_law 289 = .ok (.aload_n 1, 1) := by decide +kernel
theorem dL_law_290 : decode cL_law 290 = .ok (.iconst 4, 1) := by decide +kernel
theorem dL_law_291 : decode cL_law 291 = .ok (.bipush 11, 2) := by decide +kernel
theorem dL_law_293 : decode cL_law 293 = .ok (.invokestatic 159, 3) := by decide +kernel
theorem dL_law_296 : decode cL_law 296 = .ok (.ifCond .eq 214, 3) := by decide +kernel
theorem dL_law_299 : decode cL_law 299 = .ok (.aload_n 1, 1) := by decide +kernel
theorem dL_law_300 : decode cL_law 300 = .ok (.bipush 11, 2) := by decide +kernel
theorem dL_law_302 : decode cL_law 302 = .ok (.invokevirtual 99, 3) := by decide +kernel
theorem dL_law_305 : decode cL_law 305 = .ok (.bipush 51, 2) := by decide +kernel
theorem dL_law_307 : decode cL_law 307 = .ok (.if_icmp .ne 203, 3) := by decide +kernel
theorem dL_law_310 : decode cL_law 310 = .ok (.aload_n 1, 1) := by decide +kernel
theorem dL_law_311 : decode cL_law 311 = .ok (.bipush 11, 2) := by decide +kernel
theorem dL_law_313 : decode cL_law 313 = .ok (.invokevirtual 102, 3) := by decide +kernel
theorem dL_law_316 : decode cL_law 316 = .ok (.bipush 51, 2) := by decide +kernel
theorem dL_law_318 : decode cL_law 318 = .ok (.if_icmp .ne 192, 3) := by decide +kernel
theorem dL_law_321 : decode cL_law 321 = .ok (.aload_n 1, 1) := by decide +kernel
theorem dL_law_322 : decode cL_law 322 = .ok (.bipush 11, 2) := by decide +kernel
theorem dL_law_324 : decode cL_law 324 = .ok (.invokevirtual 96, 3) := by decide +kernel
theorem dL_law_327 : decode cL_law 327 = .ok (.bipush 52, 2) := by decide +kernel
theorem dL_law_329 : decode cL_law 329 = .ok (.if_icmp .ne 181, 3) := by decide +kernel
theorem dL_law_332 : decode cL_law 332 = .ok (.aload_n 1, 1) := by decide +kernel
theorem dL_law_333 : decode cL_law 333 = .ok (.iconst 0, 1) := by decide +kernel
theorem dL_law_334 : decode cL_law 334 = .ok (.invokevirtual 96, 3) := by decide +kernel
theorem dL_law_337 : decode cL_law 337 = .ok (.iconst 2, 1) := by decide +kernel
theorem dL_law_338 : decode cL_law 338 = .ok (.if_icmp .ne 172, 3) := by decide +kernel
theorem dL_law_341 : decode cL_law 341 = .ok (.aload_n 1, 1) := by decide +kernel
theorem dL_law_342 : decode cL_law 342 = .ok (.bipush 30, 2) := by decide +kernel
theorem dL_law_344 : decode cL_law 344 = .ok (.invokevirtual 59, 3) := by decide +kernel
theorem dL_law_347 : decode cL_law 347 = .ok (.bipush 7, 2) := by decide +kernel
theorem dL_law_349 : decode cL_law 349 = .ok (.if_icmp .ne 161, 3) := by decide +kernel
theorem dL_law_352 : decode cL_law 352 = .ok (.aload_n 1, 1) := by decide +kernel
theorem dL_law_353 : decode cL_law 353 = .ok (.iconst 5, 1) := by decide +kernel
theorem dL_law_354 : decode cL_law 354 = .ok (.invokevirtual 87, 3) := by decide +kernel
theorem dL_law_357 : decode cL_law 357 = .ok (.bipush 7, 2) := by decide +kernel
theorem dL_law_359 : decode cL_law 359 = .ok (.if_icmp .ne 151, 3) := by decide +kernel
theorem dL_law_362 : decode cL_law 362 = .ok (.aload_n 1, 1) := by decide +kernel
theorem dL_law_363 : decode cL_law 363 = .ok (.bipush 18, 2) := by decide +kernel
theorem dL_law_365 : decode cL_law 365 = .ok (.invokevirtual 87, 3) := by decide +kernel
theorem dL_law_368 : decode cL_law 368 = .ok (.bipush 8, 2) := by decide +kernel
theorem dL_law_370 : decode cL_law 370 = .ok (.if_icmp .ne 140, 3) := by decide +kernel
theorem dL_law_373 : decode cL_law 373 = .ok (.aload_n 1, 1) := by decide +kernel
theorem dL_law_374 : decode cL_law 374 = .ok (.invokevirtual 174, 3) := by decide +kernel
theorem dL_law_377 : decode cL_law 377 = .ok (.bipush 7, 2) := by decide +kernel
theorem dL_law_379 : decode cL_law 379 = .ok (.if_icmp .ne 131, 3) := by decide +kernel
theorem dL_law_382 : decode cL_law 382 = .ok (.aload_n 1, 1) := by decide +kernel
theorem dL_law_383 : decode cL_law 383 = .ok (.iconst 0, 1) := by decide +kernel
theorem dL_law_384 : decode cL_law 384 = .ok (.invokevirtual 87, 3) := by decide +kernel
theorem dL_law_387 : decode cL_law 387 = .ok (.ifCond .ne 123, 3) := by decide +kernel
theorem dL_law_390 : decode cL_law 390 = .ok (.aload_n 1, 1) := by decide +kernel
theorem dL_law_391 : decode cL_law 391 = .ok (.invokevirtual 174, 3) := by decide +kernel
theorem dL_law_394 : decode cL_law 394 = .ok (.bipush 6, 2) := by decide +kernel
theorem dL_law_396 : decode cL_law 396 = .ok (.if_icmp .ne 114, 3) := by decide +kernel
theorem dL_law_399 : decode cL_law 399 = .ok (.aload_n 1, 1) := by decide +kernel
theorem dL_law_400 : decode cL_law 400 = .ok (.bipush 11, 2) := by decide +kernel
theorem dL_law_402 : decode cL_law 402 = .ok (.invokevirtual 87, 3) := by decide +kernel
theorem dL_law_405 : decode cL_law 405 = .ok (.iconst 3, 1) := by decide +kernel
theorem dL_law_406 : decode cL_law 406 = .ok (.if_icmp .ne 104, 3) := by decide +kernel
theorem dL_law_409 : decode cL_law 409 = .ok (.aload_n 1, 1) := by decide +kernel
theorem dL_law_410 : decode cL_law 410 = .ok (.invokevirtual 174, 3) := by decide +kernel
theorem dL_law_413 : decode cL_law 413 = .ok (.iconst 5, 1) := by decide +kernel
theorem dL_law_414 : decode cL_law 414 = .ok (.if_icmp .ne 96, 3) := by decide +kernel
theorem dL_law_417 : decode cL_law 417 = .ok (.aload_n 1, 1) := by decide +kernel
theorem dL_law_418 : decode cL_law 418 = .ok (.invokevirtual 174, 3) := by decide +kernel
theorem dL_law_421 : decode cL_law 421 = .ok (.iconst 4, 1) := by decide +kernel
theorem dL_law_422 : decode cL_law 422 = .ok (.if_icmp .ne 88, 3) := by decide +kernel
theorem dL_law_425 : decode cL_law 425 = .ok (.aload_n 1, 1) := by decide +kernel
theorem dL_law_426 : decode cL_law 426 = .ok (.invokevirtual 174, 3) := by decide +kernel
theorem dL_law_429 : decode cL_law 429 = .ok (.iconst 3, 1) := by decide +kernel
theorem dL_law_430 : decode cL_law 430 = .ok (.if_icmp .ne 80, 3) := by decide +kernel
theorem dL_law_433 : decode cL_law 433 = .ok (.aload_n 1, 1) := by decide +kernel
theorem dL_law_434 : decode cL_law 434 = .ok (.bipush 11, 2) := by decide +kernel
theorem dL_law_436 : decode cL_law 436 = .ok (.invokevirtual 87, 3) := by decide +kernel
theorem dL_law_439 : decode cL_law 439 = .ok (.ifCond .ne 71, 3) := by decide +kernel
theorem dL_law_442 : decode cL_law 442 = .ok (.aload_n 1, 1) := by decide +kernel
theorem dL_law_443 : decode cL_law 443 = .ok (.invokevirtual 174, 3) := by decide +kernel
theorem dL_law_446 : decode cL_law 446 = .ok (.iconst 2, 1) := by decide +kernel
theorem dL_law_447 : decode cL_law 447 = .ok (.if_icmp .ne 63, 3) := by decide +kernel
theorem dL_law_450 : decode cL_law 450 = .ok (.aload_n 1, 1) := by decide +kernel
theorem dL_law_451 : decode cL_law 451 = .ok (.bipush 11, 2) := by decide +kernel
theorem dL_law_453 : decode cL_law 453 = .ok (.bipush 9, 2) := by decide +kernel
theorem dL_law_455 : decode cL_law 455 = .ok (.invokevirtual 90, 3) := by decide +kernel
theorem dL_law_458 : decode cL_law 458 = .ok (.ifCond .ne 52, 3) := by decide +kernel
theorem dL_law_461 : decode cL_law 461 = .ok (.aload_n 1, 1) := by decide +kernel
theorem dL_law_462 : decode cL_law 462 = .ok (.invokevirtual 174, 3) := by decide +kernel
theorem dL_law_465 : decode cL_law 465 = .ok (.iconst 1, 1) := by decide +kernel
theorem dL_law_466 : decode cL_law 466 = .ok (.if_icmp .ne 44, 3) := by decide +kernel
theorem dL_law_469 : decode cL_law 469 = .ok (.aload_n 1, 1) := by decide +kernel
theorem dL_law_470 : decode cL_law 470 = .ok (.invokevirtual 174, 3) := by decide +kernel
theorem dL_law_473 : decode cL_law 473 = .ok (.ifCond .ne 37, 3) := by decide +kernel
theorem dL_law_476 : decode cL_law 476 = .ok (.aload_n 1, 1) := by decide +kernel
theorem dL_law_477 : decode cL_law 477 = .ok (.bipush 9, 2) := by decide +kernel
theorem dL_law_479 : decode cL_law 479 = .ok (.bipush 9, 2) := by decide +kernel
theorem dL_law_481 : decode cL_law 481 = .ok (.invokevirtual 90, 3) := by decide +kernel
theorem dL_law_484 : decode cL_law 484 = .ok (.ifCond .ne 26, 3) := by decide +kernel
theorem dL_law_487 : decode cL_law 487 = .ok (.aload_n 1, 1) := by decide +kernel
theorem dL_law_488 : decode cL_law 488 = .ok (.bipush 8, 2) := by decide +kernel
theorem dL_law_490 : decode cL_law 490 = .ok (.bipush 9, 2) := by decide +kernel
theorem dL_law_492 : decode cL_law 492 = .ok (.invokevirtual 90, 3) := by decide +kernel
theorem dL_law_495 : decode cL_law 495 = .ok (.sipush 128, 3) := by decide +kernel
theorem dL_law_498 : decode cL_law 498 = .ok (.if_icmp .ne 12, 3) := by decide +kernel
theorem dL_law_501 : decode cL_law 501 = .ok (.aload_n 1, 1) := by decide +kernel
theorem dL_law_502 : decode cL_law 502 = .ok (.invokevirtual 174, 3) := by decide +kernel
theorem dL_law_505 : decode cL_law 505 = .ok (.bipush (-15), 2) := by decide +kernel
theorem dL_law_507 : decode cL_law 507 = .ok (.if_icmp .eq 5, 3) := by decide +kernel
theorem dL_law_510 : decode cL_law 510 = .ok (.iconst 0, 1) := by decide +kernel
theorem dL_law_511 : decode cL_law 511 = .ok (.ireturn, 1) := by decide +kernel
theorem dL_law_512 : decode cL_law 512 = .ok (.aload_n 1, 1) := by decide +kernel
theorem dL_law_513 : decode cL_law 513 = .ok (.invokevirtual 177, 3) := by decide +kernel
theorem dL_law_516 : decode cL_law 516 = .ok (.ifCond .ne 30, 3) := by decide +kernel
theorem dL_law_519 : decode cL_law 519 = .ok (.aload_n 1, 1) := by decide +kernel
theorem dL_law_520 : decode cL_law 520 = .ok (.iconst 1, 1) := by decide +kernel
theorem dL_law_521 : decode cL_law 521 = .ok (.invokevirtual 87, 3) := by decide +kernel
theorem dL_law_524 : decode cL_law 524 = .ok (.ifCond .ne 22, 3) := by decide +kernel
theorem dL_law_527 : decode cL_law 527 = .ok (.aload_n 1, 1) := by decide +kernel
theorem dL_law_528 : decode cL_law 528 = .ok (.bipush 10, 2) := by decide +kernel
theorem dL_law_530 : decode cL_law 530 = .ok (.invokevirtual 87, 3) := by decide +kernel
theorem dL_law_533 : decode cL_law 533 = .ok (.iconst 2, 1) := by decide +kernel
theorem dL_law_534 : decode cL_law 534 = .ok (.if_icmp .ne 12, 3) := by decide +kernel
theorem dL_law_537 : decode cL_law 537 = .ok (.aload_n 1, 1) := by decide +kernel
theorem dL_law_538 : decode cL_law 538 = .ok (.invokevirtual 174, 3) := by decide +kernel
theorem dL_law_541 : decode cL_law 541 = .ok (.bipush (-15), 2) := by decide +kernel
theorem dL_law_543 : decode cL_law 543 = .ok (.if_icmp .eq 5, 3) := by decide +kernel
theorem dL_law_546 : decode cL_law 546 = .ok (.iconst 0, 1) := by decide +kernel
theorem dL_law_547 : decode cL_law 547 = .ok (.ireturn, 1) := by decide +kernel
theorem dL_law_548 : decode cL_law 548 = .ok (.new 18, 3) := by decide +kernel
theorem dL_law_551 : decode cL_law 551 = .ok (.dup, 1) := by decide +kernel
theorem dL_law_552 : decode cL_law 552 = .ok (.invokespecial 173, 3) := by decide +kernel
theorem dL_law_555 : decode cL_law 555 = .ok (.astore_n 2, 1) := by decide +kernel
theorem dL_law_556 : decode cL_law 556 = .ok (.aload_n 2, 1) := by decide +kernel
theorem dL_law_557 : decode cL_law 557 = .ok (.aload_n 0, 1) := by decide +kernel
theorem dL_law_558 : decode cL_law 558 = .ok (.invokestatic 183, 3) := by decide +kernel
theorem dL_law_561 : decode cL_law 561 = .ok (.ifCond .ne 5, 3) := by decide +kernel
theorem dL_law_564 : decode cL_law 564 = .ok (.iconst 0, 1) := by decide +kernel
theorem dL_law_565 : decode cL_law 565 = .ok (.ireturn, 1) := by decide +kernel
theorem dL_law_566 : decode cL_law 566 = .ok (.aload_n 2, 1) := by decide +kernel
theorem dL_law_567 : decode cL_law 567 = .ok (.invokestatic 155, 3) := by decide +kernel
theorem dL_law_570 : decode cL_law 570 = .ok (.lstore_n 3, 1) := by decide +kernel
theorem dL_law_571 : decode cL_law 571 = .ok (.aload_n 2, 1) := by decide +kernel
theorem dL_law_572 : decode cL_law 572 = .ok (.invokestatic 155, 3) := by decide +kernel
theorem dL_law_575 : decode cL_law 575 = .ok (.lload_n 3, 1) := by decide +kernel
theorem dL_law_576 : decode cL_law 576 = .ok (.lcmp, 1) := by decide +kernel
theorem dL_law_577 : decode cL_law 577 = .ok (.ifCond .ne 10, 3) := by decide +kernel
theorem dL_law_580 : decode cL_law 580 = .ok (.aload_n 2, 1) := by decide +kernel
theorem dL_law_581 : decode cL_law 581 = .ok (.invokestatic 187, 3) := by decide +kernel
theorem dL_law_584 : decode cL_law 584 = .ok (.ifCond .ne 5, 3) := by decide +kernel
theorem dL_law_587 : decode cL_law 587 = .ok (.iconst 0, 1) := by decide +kernel
theorem dL_law_588 : decode cL_law 588 = .ok (.ireturn, 1) := by decide +kernel
theorem dL_law_589 : decode cL_law 589 = .ok (.aload_n 2, 1) := by decide +kernel
theorem dL_law_590 : decode cL_law 590 = .ok (.invokevirtual 180, 3) := by decide +kernel
theorem dL_law_593 : decode cL_law 593 = .ok (.istore 5, 2) := by decide +kernel
theorem dL_law_595 : decode cL_law 595 = .ok (.iload 5, 2) := by decide +kernel
theorem dL_law_597 : decode cL_law 597 = .ok (.aload_n 2, 1) := by decide +kernel
theorem dL_law_598 : decode cL_law 598 = .ok (.iconst 0, 1) := by decide +kernel
theorem dL_law_599 : decode cL_law 599 = .ok (.invokevirtual 87, 3) := by decide +kernel
theorem dL_law_602 : decode cL_law 602 = .ok (.if_icmp .ne 12, 3) := by decide +kernel
theorem dL_law_605 : decode cL_law 605 = .ok (.aload_n 2, 1) := by decide +kernel
theorem dL_law_606 : decode cL_law 606 = .ok (.invokestatic 155, 3) := by decide +kernel
theorem dL_law_609 : decode cL_law 609 = .ok (.lload_n 3, 1) := by decide +kernel
theorem dL_law_610 : decode cL_law 610 = .ok (.lcmp, 1) := by decide +kernel
theorem dL_law_611 : decode cL_law 611 = .ok (.ifCond .eq 5, 3) := by decide +kernel
theorem dL_law_614 : decode cL_law 614 = .ok (.iconst 0, 1) := by decide +kernel
theorem dL_law_615 : decode cL_law 615 = .ok (.ireturn, 1) := by decide +kernel
theorem dL_law_616 : decode cL_law 616 = .ok (.bipush 11, 2) := by decide +kernel
theorem dL_law_618 : decode cL_law 618 = .ok (.newarray .long, 2) := by decide +kernel
theorem dL_law_620 : decode cL_law 620 = .ok (.astore 6, 2) := by decide +kernel
theorem dL_law_622 : decode cL_law 622 = .ok (.iconst 0, 1) := by decide +kernel
theorem dL_law_623 : decode cL_law 623 = .ok (.istore 7, 2) := by decide +kernel
theorem dL_law_625 : decode cL_law 625 = .ok (.iconst 0, 1) := by decide +kernel
theorem dL_law_626 : decode cL_law 626 = .ok (.istore 8, 2) := by decide +kernel
theorem dL_law_628 : decode cL_law 628 = .ok (.iload 8, 2) := by decide +kernel
theorem dL_law_630 : decode cL_law 630 = .ok (.bipush 10, 2) := by decide +kernel
theorem dL_law_632 : decode cL_law 632 = .ok (.if_icmp .ge 63, 3) := by decide +kernel
theorem dL_law_635 : decode cL_law 635 = .ok (.aload_n 2, 1) := by decide +kernel
theorem dL_law_636 : decode cL_law 636 = .ok (.invokestatic 155, 3) := by decide +kernel
theorem dL_law_639 : decode cL_law 639 = .ok (.lstore 9, 2) := by decide +kernel
theorem dL_law_641 : decode cL_law 641 = .ok (.aload_n 2, 1) := by decide +kernel
theorem dL_law_642 : decode cL_law 642 = .ok (.aload_n 0, 1) := by decide +kernel
theorem dL_law_643 : decode cL_law 643 = .ok (.bipush 20, 2) := by decide +kernel
theorem dL_law_645 : decode cL_law 645 = .ok (.iload 8, 2) := by decide +kernel
theorem dL_law_647 : decode cL_law 647 = .ok (.iadd, 1) := by decide +kernel
theorem dL_law_648 : decode cL_law 648 = .ok (.invokestatic 33, 3) := by decide +kernel
theorem dL_law_651 : decode cL_law 651 = .ok (.iload 8, 2) := by decide +kernel
theorem dL_law_653 : decode cL_law 653 = .ok (.sipush 977, 3) := by decide +kernel
theorem dL_law_656 : decode cL_law 656 = .ok (.imul, 1) := by decide +kernel
theorem dL_law_657 : decode cL_law 657 = .ok (.ixor, 1) := by decide +kernel
theorem dL_law_658 : decode cL_law 658 = .ok (.invokestatic 191, 3) := by decide +kernel
theorem dL_law_661 : decode cL_law 661 = .ok (.ifCond .eq 16, 3) := by decide +kernel
theorem dL_law_664 : decode cL_law 664 = .ok (.aload 6, 2) := by decide +kernel
theorem dL_law_666 : decode cL_law 666 = .ok (.iload 7, 2) := by decide +kernel
theorem dL_law_668 : decode cL_law 668 = .ok (.iinc 7 1, 3) := by decide +kernel
theorem dL_law_671 : decode cL_law 671 = .ok (.lload 9, 2) := by decide +kernel
theorem dL_law_673 : decode cL_law 673 = .ok (.lastore, 1) := by decide +kernel
theorem dL_law_674 : decode cL_law 674 = .ok (.goto 15, 3) := by decide +kernel
theorem dL_law_677 : decode cL_law 677 = .ok (.aload_n 2, 1) := by decide +kernel
theorem dL_law_678 : decode cL_law 678 = .ok (.invokestatic 155, 3) := by decide +kernel
theorem dL_law_681 : decode cL_law 681 = .ok (.lload 9, 2) := by decide +kernel
theorem dL_law_683 : decode cL_law 683 = .ok (.lcmp, 1) := by decide +kernel
theorem dL_law_684 : decode cL_law 684 = .ok (.ifCond .eq 5, 3) := by decide +kernel
theorem dL_law_687 : decode cL_law 687 = .ok (.iconst 0, 1) := by decide +kernel
theorem dL_law_688 : decode cL_law 688 = .ok (.ireturn, 1) := by decide +kernel
theorem dL_law_689 : decode cL_law 689 = .ok (.iinc 8 1, 3) := by decide +kernel
theorem dL_law_692 : decode cL_law 692 = .ok (.goto (-64), 3) := by decide +kernel
theorem dL_law_695 : decode cL_law 695 = .ok (.bipush 8, 2) := by decide +kernel
theorem dL_law_697 : decode cL_law 697 = .ok (.iload 7, 2) := by decide +kernel
theorem dL_law_699 : decode cL_law 699 = .ok (.invokestatic 194, 3) := by decide +kernel
theorem dL_law_702 : decode cL_law 702 = .ok (.istore 8, 2) := by decide +kernel
theorem dL_law_704 : decode cL_law 704 = .ok (.iconst 1, 1) := by decide +kernel
theorem dL_law_705 : decode cL_law 705 = .ok (.istore 9, 2) := by decide +kernel
theorem dL_law_707 : decode cL_law 707 = .ok (.iload 9, 2) := by decide +kernel
theorem dL_law_709 : decode cL_law 709 = .ok (.iload 8, 2) := by decide +kernel
theorem dL_law_711 : decode cL_law 711 = .ok (.if_icmp .gt 53, 3) := by decide +kernel
theorem dL_law_714 : decode cL_law 714 = .ok (.aload_n 2, 1) := by decide +kernel
theorem dL_law_715 : decode cL_law 715 = .ok (.invokevirtual 174, 3) := by decide +kernel
theorem dL_law_718 : decode cL_law 718 = .ok (.istore 10, 2) := by decide +kernel
theorem dL_law_720 : decode cL_law 720 = .ok (.iload 10, 2) := by decide +kernel
theorem dL_law_722 : decode cL_law 722 = .ok (.iload 8, 2) := by decide +kernel
theorem dL_law_724 : decode cL_law 724 = .ok (.iload 9, 2) := by decide +kernel
theorem dL_law_726 : decode cL_law 726 = .ok (.isub, 1) := by decide +kernel
theorem dL_law_727 : decode cL_law 727 = .ok (.if_icmp .lt 29, 3) := by decide +kernel
theorem dL_law_730 : decode cL_law 730 = .ok (.iload 10, 2) := by decide +kernel
theorem dL_law_732 : decode cL_law 732 = .ok (.bipush 8, 2) := by decide +kernel
theorem dL_law_734 : decode cL_law 734 = .ok (.iload 9, 2) := by decide +kernel
theorem dL_law_736 : decode cL_law 736 = .ok (.isub, 1) := by decide +kernel
theorem dL_law_737 : decode cL_law 737 = .ok (.if_icmp .gt 19, 3) := by decide +kernel
theorem dL_law_740 : decode cL_law 740 = .ok (.aload_n 2, 1) := by decide +kernel
theorem dL_law_741 : decode cL_law 741 = .ok (.invokestatic 155, 3) := by decide +kernel
theorem dL_law_744 : decode cL_law 744 = .ok (.aload 6, 2) := by decide +kernel
theorem dL_law_746 : decode cL_law 746 = .ok (.iload 7, 2) := by decide +kernel
theorem dL_law_748 : decode cL_law 748 = .ok (.iload 9, 2) := by decide +kernel
theorem dL_law_750 : decode cL_law 750 = .ok (.isub, 1) := by decide +kernel
theorem dL_law_751 : decode cL_law 751 = .ok (.laload, 1) := by decide +kernel
theorem dL_law_752 : decode cL_law 752 = .ok (.lcmp, 1) := by decide +kernel
theorem dL_law_753 : decode cL_law 753 = .ok (.ifCond .eq 5, 3) := by decide +kernel
theorem dL_law_756 : decode cL_law 756 = .ok (.iconst 0, 1) := by decide +kernel
theorem dL_law_757 : decode cL_law 757 = .ok (.ireturn, 1) := by decide +kernel
theorem dL_law_758 : decode cL_law 758 = .ok (.iinc 9 1, 3) := by decide +kernel
theorem dL_law_761 : decode cL_law 761 = .ok (.goto (-54), 3) := by decide +kernel
theorem dL_law_764 : decode cL_law 764 = .ok (.aload_n 2, 1) := by decide +kernel
theorem dL_law_765 : decode cL_law 765 = .ok (.invokevirtual 177, 3) := by decide +kernel
theorem dL_law_768 : decode cL_law 768 = .ok (.iload 5, 2) := by decide +kernel
theorem dL_law_770 : decode cL_law 770 = .ok (.if_icmp .ne 43, 3) := by decide +kernel
theorem dL_law_773 : decode cL_law 773 = .ok (.aload_n 2, 1) := by decide +kernel
theorem dL_law_774 : decode cL_law 774 = .ok (.invokevirtual 174, 3) := by decide +kernel
theorem dL_law_777 : decode cL_law 777 = .ok (.bipush (-15), 2) := by decide +kernel
theorem dL_law_779 : decode cL_law 779 = .ok (.if_icmp .ne 34, 3) := by decide +kernel
theorem dL_law_782 : decode cL_law 782 = .ok (.aload_n 2, 1) := by decide +kernel
theorem dL_law_783 : decode cL_law 783 = .ok (.invokestatic 155, 3) := by decide +kernel
theorem dL_law_786 : decode cL_law 786 = .ok (.lload_n 3, 1) := by decide +kernel
theorem dL_law_787 : decode cL_law 787 = .ok (.lcmp, 1) := by decide +kernel
theorem dL_law_788 : decode cL_law 788 = .ok (.ifCond .ne 25, 3) := by decide +kernel
theorem dL_law_791 : decode cL_law 791 = .ok (.aload_n 2, 1) := by decide +kernel
theorem dL_law_792 : decode cL_law 792 = .ok (.invokevirtual 177, 3) := by decide +kernel
theorem dL_law_795 : decode cL_law 795 = .ok (.iload 5, 2) := by decide +kernel
theorem dL_law_797 : decode cL_law 797 = .ok (.if_icmp .ne 16, 3) := by decide +kernel
theorem dL_law_800 : decode cL_law 800 = .ok (.aload_n 2, 1) := by decide +kernel
theorem dL_law_801 : decode cL_law 801 = .ok (.invokestatic 155, 3) := by decide +kernel
theorem dL_law_804 : decode cL_law 804 = .ok (.lload_n 3, 1) := by decide +kernel
theorem dL_law_805 : decode cL_law 805 = .ok (.lcmp, 1) := by decide +kernel
theorem dL_law_806 : decode cL_law 806 = .ok (.ifCond .ne 7, 3) := by decide +kernel
theorem dL_law_809 : decode cL_law 809 = .ok (.iconst 1, 1) := by decide +kernel
theorem dL_law_810 : decode cL_law 810 = .ok (.goto 4, 3) := by decide +kernel
theorem dL_law_813 : decode cL_law 813 = .ok (.iconst 0, 1) := by decide +kernel
theorem dL_law_814 : decode cL_law 814 = .ok (.ireturn, 1) := by decide +kernel
theorem rw_tf {cA : Nat → ClassId} {ad : tA} {ex : va_W} {M : tM} : isRw cA ad (wsT cA ad ex M) (ad 0 0) RX6 := by
  obtain ⟨q0, hq, -⟩ := wsT_at (cA := cA) (ad := ad) (ex := ex) (M := M) (r := 0) (j := 0) ⟨by omega, by decide⟩
  rw [tc_tf] at hq
  exact rw_at hq (rfl : vwCl[8]? = some _) rfl
theorem e_ok2 {y : MethodName} {cc : ByteArray} {nL : Nat} {ret : Option FieldType} {rm : Room} {cA : Nat → ClassId} {ad : tA} {vs : List Value} {ex : va_W} {M : tM} {F : tP} {t : Nat} (E : eS t M F) {q : TX} {a : Int32} {F2 : tP} (g : goodX F (eP t) q) (n : goodN (9 * t) (eP t) q) (e : q = (a, F2, eP (t + 1))) (ha : ¬ a < 0) (C : Cj y cc nL ret rm 0 0 cA ad vs ex (mm M F (eP t)) (Qe (some (.int q.1)) ex (mm (c_mark M F (eP t)) (f_keep q.2.1 q.1) q.2.2))) : Cj y cc nL ret rm 0 0 cA ad vs ex (mm M F (eP t)) (fun v x m => v = some (.int a) ∧ x = ex ∧ ∃ (M' : tM) (F' : tP), m = mm M' F' (eP (t + 1)) ∧ eS (t + 1) M' F') := e_ok E g n (by rw [e]) ha (by rw [e]) C
theorem e_P0 : P_0 = eP 0 := by rw [eP]
theorem at_9 : ∀ i, i < 12 → 1 + (nI i - nI i / 9 * 9) = nI (i % 9 + 1) := by decide +kernel
theorem at_10 : ∀ i, i < 4 → 10 * nI i + 1 = nI (10 * i + 1) := by decide +kernel
theorem as_0 {T : tP} {c : Int32} : f_as T c 1 0 = if tl T = 0 then c else T 1 0 := by
  unfold f_as
  try dsimp only
  rw [pu_j (by omega)]
  by_cases e : tl T = 0
  · rw [if_pos e, e]; exact pu_s
  · rw [if_neg e]; exact pu_k (fun z => e z.symm)
theorem eS_6 {t : Nat} {M : tM} {F : tP} (E : eS t M F) : F 0 6 = nI (min 8 t) := by
  obtain ⟨⟨⟨-, -, -, -, -, -, -, -, e6, -⟩, -⟩, -⟩ := E
  exact e6
theorem inv_6 {M : tM} {F P : tP} {k u w : Nat} {h : Int32} (I : inv M F P k u w h) : F 0 6 = nI u := by
  obtain ⟨-, -, -, -, -, -, -, -, e6, -⟩ := I
  exact e6
theorem no_app2 {cA : Nat → ClassId} {ad : tA} {ex : va_W} {M : tM} {F P : tP} {T : tP} {s : Int32} (h1 : ¬ (s < 32 ∨ 126 < s)) (o : okTx T) (h : tl T = 60) : Cj yX6_append cX6_append 2 (some .int) (rmd 1) 0 0 cA ad [.ref (ad 0 0), .int s] ex (mm (m_pl M 13 T) F P) (Qe (some (.int (-13))) ex (mm (m_pl M 13 T) F P)) := by
  have z := K_app (cA := cA) (ad := ad) (ex := ex) (M := m_pl M 13 T) (F := F) (P := P) (x := s) (by rw [m_pl_s]; exact o.1) (by rw [m_pl_s]; exact o.2.1)
  rw [m_pl_s, show f_app T s = (-13, T) from by rw [f_app, if_neg h1, if_neg (by rw [o.1, h]; decide)]] at z
  dsimp only at z
  rw [m_pl_pl] at z
  exact z
set_option maxRecDepth 100000 in
set_option maxHeartbeats 4000000 in
theorem L_early {cA : Nat → ClassId} {ad : tA} (k9 : ∀ (l2 : Int32) (M : tM) (F P : tP), Rg false cL_law RL 11 (some .boolean) room_1 600000 7302250 cA ad (fun v _ => v = some (.int 1)) 300 4000 548 [some (.ref (ad 18 3)), some (.ref (ad 0 0)), some (.int l2), none, none, none, none, none, none, none, none] [] (wsT cA ad [] (mm M F P))) : Rg false cL_law RL 11 (some .boolean) room_1 600000 7302250 cA ad (fun v _ => v = some (.int 1)) 300 4000 8 [some (.ref (ad 18 3)), some (.ref (ad 0 0)), none, none, none, none, none, none, none, none, none] [] (wsT cA ad [] M_0) := by
  have T512 : ∀ (l2 : Int32) (M : tM) (F P : tP), eU 21 M F P → Rg false cL_law RL 11 (some .boolean) room_1 600000 7302250 cA ad (fun v _ => v = some (.int 1)) 300 4000 512 [some (.ref (ad 18 3)), some (.ref (ad 0 0)), some (.int l2), none, none, none, none, none, none, none, none] [] (wsT cA ad [] (mm M F P)) := by
    intro l2 M F P U
    have oc := U.1.1.1.1.1
    refine g_aload_n dL_law_512 rfl ?_
    refine g_callV (n := 0) (As := []) (rest := []) dL_law_513 (cg_of_j (r_ok U.1.1 U.2.2)) (g_V q109 q110 q111 q2 q112) ⟨rfl, by decide, by decide, by decide +kernel⟩ rfl rfl rfl rfl ⟨by decide, by decide⟩ (Nat.le_of_ble_eq_true rfl) ⟨by decide, by decide⟩ rw_tf (fun v9 w9 hv => ?_)
    obtain ⟨x9, m9, rfl, rfl, rfl, F9, P9, rfl, I9, sm9⟩ := hv
    have oc9 := I9.1.1.1
    rw [show P_0 0 7 = 0 from rfl]
    refine g_if_ne (tgt := 546) dL_law_516 (by decide) (fun c516 => absurd rfl c516) (fun c516 => ?_)
    refine g_aload_n dL_law_519 rfl ?_
    refine g_iconst (v := 1) dL_law_520 (by decide) ?_
    refine g_callV (n := 1) (As := [.int 1]) (rest := []) dL_law_521 (cg_of_j (K_acc (x := 1) oc9)) (g_V q149 q150 q151 q2 q152) ⟨rfl, by decide, by decide, by decide +kernel⟩ rfl rfl rfl rfl ⟨by decide, by decide⟩ (Nat.le_of_ble_eq_true rfl) ⟨by decide, by decide⟩ rw_tf (fun v9 w9 hv => ?_)
    obtain ⟨x9, m9, rfl, rfl, rfl, rfl⟩ := hv
    rw [show f_acc (M 13) F9 P9 1 = 0 from sm9.1 1 (by omega)]
    refine g_if_ne (tgt := 546) dL_law_524 (by decide) (fun c524 => absurd rfl c524) (fun c524 => ?_)
    refine g_aload_n dL_law_527 rfl ?_
    refine g_bipush (v := 10) dL_law_528 (by decide) ?_
    refine g_callV (n := 1) (As := [.int 10]) (rest := []) dL_law_530 (cg_of_j (K_acc (x := 10) oc9)) (g_V q149 q150 q151 q2 q152) ⟨rfl, by decide, by decide, by decide +kernel⟩ rfl rfl rfl rfl ⟨by decide, by decide⟩ (Nat.le_of_ble_eq_true rfl) ⟨by decide, by decide⟩ rw_tf (fun v9 w9 hv => ?_)
    obtain ⟨x9, m9, rfl, rfl, rfl, rfl⟩ := hv
    rw [show f_acc (M 13) F9 P9 10 = 2 from sm9.1 8 (by omega)]
    refine g_iconst (v := 2) dL_law_533 (by decide) ?_
    refine g_icmp_ne (tgt := 546) dL_law_534 (by decide) (fun c534 => absurd rfl c534) (fun c534 => ?_)
    refine g_aload_n dL_law_537 rfl ?_
    refine g_callV (n := 0) (As := []) (rest := []) dL_law_538 (cg_of_j (no_undo I9 (inv_6 I9))) (g_V q70 q71 q72 q2 q73) ⟨rfl, by decide, by decide, by decide +kernel⟩ rfl rfl rfl rfl ⟨by decide, by decide⟩ (Nat.le_of_ble_eq_true rfl) ⟨by decide, by decide⟩ rw_tf (fun v9 w9 hv => ?_)
    obtain ⟨x9, m9, rfl, rfl, rfl, rfl⟩ := hv
    refine g_bipush (v := -15) dL_law_541 (by decide) ?_
    refine g_icmp_eq (tgt := 548) dL_law_543 (by decide) (fun c543 => ?_) (fun c543 => absurd rfl c543)
    exact k9 l2 _ _ _
  have T373 : ∀ (l2 : Int32) (M : tM) (F P : tP), eU 29 M F P → Rg false cL_law RL 11 (some .boolean) room_1 600000 7302250 cA ad (fun v _ => v = some (.int 1)) 300 4000 373 [some (.ref (ad 18 3)), some (.ref (ad 0 0)), some (.int l2), none, none, none, none, none, none, none, none] [] (wsT cA ad [] (mm M F P)) := by
    intro l2 M F P U
    have oc := U.1.1.1.1.1
    refine g_aload_n dL_law_373 rfl ?_
    refine g_callV (n := 0) (As := []) (rest := []) dL_law_374 (cg_of_j (u_ok (t := 28) (by omega) U)) (g_V q70 q71 q72 q2 q73) ⟨rfl, by decide, by decide, by decide +kernel⟩ rfl rfl rfl rfl ⟨by decide, by decide⟩ (Nat.le_of_ble_eq_true rfl) ⟨by decide, by decide⟩ rw_tf (fun v9 w9 hv => ?_)
    obtain ⟨x9, m9, rfl, rfl, rfl, F9, P9, rfl, U9⟩ := hv
    clear U oc
    have U := U9
    have oc := U.1.1.1.1.1
    rw [show nI (28 - 21) = 7 from rfl]
    refine g_bipush (v := 7) dL_law_377 (by decide) ?_
    refine g_icmp_ne (tgt := 510) dL_law_379 (by decide) (fun c379 => absurd rfl c379) (fun c379 => ?_)
    refine g_aload_n dL_law_382 rfl ?_
    refine g_iconst (v := 0) dL_law_383 (by decide) ?_
    refine g_callV (n := 1) (As := [.int 0]) (rest := []) dL_law_384 (cg_of_j (K_acc (x := 0) oc)) (g_V q149 q150 q151 q2 q152) ⟨rfl, by decide, by decide, by decide +kernel⟩ rfl rfl rfl rfl ⟨by decide, by decide⟩ (Nat.le_of_ble_eq_true rfl) ⟨by decide, by decide⟩ rw_tf (fun v9 w9 hv => ?_)
    obtain ⟨x9, m9, rfl, rfl, rfl, rfl⟩ := hv
    rw [show f_acc (M 13) F9 P9 0 = 0 from (U.2.1.1 7 (by omega)).trans e_u.1]
    refine g_if_ne (tgt := 510) dL_law_387 (by decide) (fun c387 => absurd rfl c387) (fun c387 => ?_)
    refine g_aload_n dL_law_390 rfl ?_
    refine g_callV (n := 0) (As := []) (rest := []) dL_law_391 (cg_of_j (u_ok (t := 27) (by omega) U)) (g_V q70 q71 q72 q2 q73) ⟨rfl, by decide, by decide, by decide +kernel⟩ rfl rfl rfl rfl ⟨by decide, by decide⟩ (Nat.le_of_ble_eq_true rfl) ⟨by decide, by decide⟩ rw_tf (fun v9 w9 hv => ?_)
    obtain ⟨x9, m9, rfl, rfl, rfl, F9, P9, rfl, U9⟩ := hv
    clear U oc
    have U := U9
    have oc := U.1.1.1.1.1
    rw [show nI (27 - 21) = 6 from rfl]
    refine g_bipush (v := 6) dL_law_394 (by decide) ?_
    refine g_icmp_ne (tgt := 510) dL_law_396 (by decide) (fun c396 => absurd rfl c396) (fun c396 => ?_)
    refine g_aload_n dL_law_399 rfl ?_
    refine g_bipush (v := 11) dL_law_400 (by decide) ?_
    refine g_callV (n := 1) (As := [.int 11]) (rest := []) dL_law_402 (cg_of_j (K_acc (x := 11) oc)) (g_V q149 q150 q151 q2 q152) ⟨rfl, by decide, by decide, by decide +kernel⟩ rfl rfl rfl rfl ⟨by decide, by decide⟩ (Nat.le_of_ble_eq_true rfl) ⟨by decide, by decide⟩ rw_tf (fun v9 w9 hv => ?_)
    obtain ⟨x9, m9, rfl, rfl, rfl, rfl⟩ := hv
    rw [show f_acc (M 13) F9 P9 11 = 3 from (U.2.1.1 3 (by omega)).trans e_u.2.1]
    refine g_iconst (v := 3) dL_law_405 (by decide) ?_
    refine g_icmp_ne (tgt := 510) dL_law_406 (by decide) (fun c406 => absurd rfl c406) (fun c406 => ?_)
    refine g_aload_n dL_law_409 rfl ?_
    refine g_callV (n := 0) (As := []) (rest := []) dL_law_410 (cg_of_j (u_ok (t := 26) (by omega) U)) (g_V q70 q71 q72 q2 q73) ⟨rfl, by decide, by decide, by decide +kernel⟩ rfl rfl rfl rfl ⟨by decide, by decide⟩ (Nat.le_of_ble_eq_true rfl) ⟨by decide, by decide⟩ rw_tf (fun v9 w9 hv => ?_)
    obtain ⟨x9, m9, rfl, rfl, rfl, F9, P9, rfl, U9⟩ := hv
    clear U oc
    have U := U9
    have oc := U.1.1.1.1.1
    rw [show nI (26 - 21) = 5 from rfl]
    refine g_iconst (v := 5) dL_law_413 (by decide) ?_
    refine g_icmp_ne (tgt := 510) dL_law_414 (by decide) (fun c414 => absurd rfl c414) (fun c414 => ?_)
    refine g_aload_n dL_law_417 rfl ?_
    refine g_callV (n := 0) (As := []) (rest := []) dL_law_418 (cg_of_j (u_ok (t := 25) (by omega) U)) (g_V q70 q71 q72 q2 q73) ⟨rfl, by decide, by decide, by decide +kernel⟩ rfl rfl rfl rfl ⟨by decide, by decide⟩ (Nat.le_of_ble_eq_true rfl) ⟨by decide, by decide⟩ rw_tf (fun v9 w9 hv => ?_)
    obtain ⟨x9, m9, rfl, rfl, rfl, F9, P9, rfl, U9⟩ := hv
    clear U oc
    have U := U9
    have oc := U.1.1.1.1.1
    rw [show nI (25 - 21) = 4 from rfl]
    refine g_iconst (v := 4) dL_law_421 (by decide) ?_
    refine g_icmp_ne (tgt := 510) dL_law_422 (by decide) (fun c422 => absurd rfl c422) (fun c422 => ?_)
    refine g_aload_n dL_law_425 rfl ?_
    refine g_callV (n := 0) (As := []) (rest := []) dL_law_426 (cg_of_j (u_ok (t := 24) (by omega) U)) (g_V q70 q71 q72 q2 q73) ⟨rfl, by decide, by decide, by decide +kernel⟩ rfl rfl rfl rfl ⟨by decide, by decide⟩ (Nat.le_of_ble_eq_true rfl) ⟨by decide, by decide⟩ rw_tf (fun v9 w9 hv => ?_)
    obtain ⟨x9, m9, rfl, rfl, rfl, F9, P9, rfl, U9⟩ := hv
    clear U oc
    have U := U9
    have oc := U.1.1.1.1.1
    rw [show nI (24 - 21) = 3 from rfl]
    refine g_iconst (v := 3) dL_law_429 (by decide) ?_
    refine g_icmp_ne (tgt := 510) dL_law_430 (by decide) (fun c430 => absurd rfl c430) (fun c430 => ?_)
    refine g_aload_n dL_law_433 rfl ?_
    refine g_bipush (v := 11) dL_law_434 (by decide) ?_
    refine g_callV (n := 1) (As := [.int 11]) (rest := []) dL_law_436 (cg_of_j (K_acc (x := 11) oc)) (g_V q149 q150 q151 q2 q152) ⟨rfl, by decide, by decide, by decide +kernel⟩ rfl rfl rfl rfl ⟨by decide, by decide⟩ (Nat.le_of_ble_eq_true rfl) ⟨by decide, by decide⟩ rw_tf (fun v9 w9 hv => ?_)
    obtain ⟨x9, m9, rfl, rfl, rfl, rfl⟩ := hv
    rw [show f_acc (M 13) F9 P9 11 = 0 from (U.2.1.1 3 (by omega)).trans e_u.2.2.1]
    refine g_if_ne (tgt := 510) dL_law_439 (by decide) (fun c439 => absurd rfl c439) (fun c439 => ?_)
    refine g_aload_n dL_law_442 rfl ?_
    refine g_callV (n := 0) (As := []) (rest := []) dL_law_443 (cg_of_j (u_ok (t := 23) (by omega) U)) (g_V q70 q71 q72 q2 q73) ⟨rfl, by decide, by decide, by decide +kernel⟩ rfl rfl rfl rfl ⟨by decide, by decide⟩ (Nat.le_of_ble_eq_true rfl) ⟨by decide, by decide⟩ rw_tf (fun v9 w9 hv => ?_)
    obtain ⟨x9, m9, rfl, rfl, rfl, F9, P9, rfl, U9⟩ := hv
    clear U oc
    have U := U9
    have oc := U.1.1.1.1.1
    rw [show nI (23 - 21) = 2 from rfl]
    refine g_iconst (v := 2) dL_law_446 (by decide) ?_
    refine g_icmp_ne (tgt := 510) dL_law_447 (by decide) (fun c447 => absurd rfl c447) (fun c447 => ?_)
    refine g_aload_n dL_law_450 rfl ?_
    refine g_bipush (v := 11) dL_law_451 (by decide) ?_
    refine g_bipush (v := 9) dL_law_453 (by decide) ?_
    refine g_callV (n := 2) (As := [.int 11, .int 9]) (rest := []) dL_law_455 (cg_of_j (K_stepOf (s := 11) (x := 9) oc)) (g_V q475 q476 q477 q2 q478) ⟨rfl, by decide, by decide, by decide +kernel⟩ rfl rfl rfl rfl ⟨by decide, by decide⟩ (Nat.le_of_ble_eq_true rfl) ⟨by decide, by decide⟩ rw_tf (fun v9 w9 hv => ?_)
    obtain ⟨x9, m9, rfl, rfl, rfl, rfl⟩ := hv
    rw [show f_stepOf P9 11 9 = 0 from (q_stepOf (sm_sy U.2.1) oc).symm.trans e_u.2.2.2.1]
    refine g_if_ne (tgt := 510) dL_law_458 (by decide) (fun c458 => absurd rfl c458) (fun c458 => ?_)
    refine g_aload_n dL_law_461 rfl ?_
    refine g_callV (n := 0) (As := []) (rest := []) dL_law_462 (cg_of_j (u_ok (t := 22) (by omega) U)) (g_V q70 q71 q72 q2 q73) ⟨rfl, by decide, by decide, by decide +kernel⟩ rfl rfl rfl rfl ⟨by decide, by decide⟩ (Nat.le_of_ble_eq_true rfl) ⟨by decide, by decide⟩ rw_tf (fun v9 w9 hv => ?_)
    obtain ⟨x9, m9, rfl, rfl, rfl, F9, P9, rfl, U9⟩ := hv
    clear U oc
    have U := U9
    have oc := U.1.1.1.1.1
    rw [show nI (22 - 21) = 1 from rfl]
    refine g_iconst (v := 1) dL_law_465 (by decide) ?_
    refine g_icmp_ne (tgt := 510) dL_law_466 (by decide) (fun c466 => absurd rfl c466) (fun c466 => ?_)
    refine g_aload_n dL_law_469 rfl ?_
    refine g_callV (n := 0) (As := []) (rest := []) dL_law_470 (cg_of_j (u_ok (t := 21) (by omega) U)) (g_V q70 q71 q72 q2 q73) ⟨rfl, by decide, by decide, by decide +kernel⟩ rfl rfl rfl rfl ⟨by decide, by decide⟩ (Nat.le_of_ble_eq_true rfl) ⟨by decide, by decide⟩ rw_tf (fun v9 w9 hv => ?_)
    obtain ⟨x9, m9, rfl, rfl, rfl, F9, P9, rfl, U9⟩ := hv
    clear U oc
    have U := U9
    have oc := U.1.1.1.1.1
    rw [show nI (21 - 21) = 0 from rfl]
    refine g_if_ne (tgt := 510) dL_law_473 (by decide) (fun c473 => absurd rfl c473) (fun c473 => ?_)
    refine g_aload_n dL_law_476 rfl ?_
    refine g_bipush (v := 9) dL_law_477 (by decide) ?_
    refine g_bipush (v := 9) dL_law_479 (by decide) ?_
    refine g_callV (n := 2) (As := [.int 9, .int 9]) (rest := []) dL_law_481 (cg_of_j (K_stepOf (s := 9) (x := 9) oc)) (g_V q475 q476 q477 q2 q478) ⟨rfl, by decide, by decide, by decide +kernel⟩ rfl rfl rfl rfl ⟨by decide, by decide⟩ (Nat.le_of_ble_eq_true rfl) ⟨by decide, by decide⟩ rw_tf (fun v9 w9 hv => ?_)
    obtain ⟨x9, m9, rfl, rfl, rfl, rfl⟩ := hv
    rw [show f_stepOf P9 9 9 = 0 from (q_stepOf (sm_sy U.2.1) oc).symm.trans e_u.2.2.2.2.1]
    refine g_if_ne (tgt := 510) dL_law_484 (by decide) (fun c484 => absurd rfl c484) (fun c484 => ?_)
    refine g_aload_n dL_law_487 rfl ?_
    refine g_bipush (v := 8) dL_law_488 (by decide) ?_
    refine g_bipush (v := 9) dL_law_490 (by decide) ?_
    refine g_callV (n := 2) (As := [.int 8, .int 9]) (rest := []) dL_law_492 (cg_of_j (K_stepOf (s := 8) (x := 9) oc)) (g_V q475 q476 q477 q2 q478) ⟨rfl, by decide, by decide, by decide +kernel⟩ rfl rfl rfl rfl ⟨by decide, by decide⟩ (Nat.le_of_ble_eq_true rfl) ⟨by decide, by decide⟩ rw_tf (fun v9 w9 hv => ?_)
    obtain ⟨x9, m9, rfl, rfl, rfl, rfl⟩ := hv
    rw [show f_stepOf P9 8 9 = 128 from (q_stepOf (sm_sy U.2.1) oc).symm.trans e_u.2.2.2.2.2]
    refine g_sipush (v := 128) dL_law_495 (by decide) ?_
    refine g_icmp_ne (tgt := 510) dL_law_498 (by decide) (fun c498 => absurd rfl c498) (fun c498 => ?_)
    refine g_aload_n dL_law_501 rfl ?_
    refine g_callV (n := 0) (As := []) (rest := []) dL_law_502 (cg_of_j (no_undo U.1.1 (inv_6 U.1.1))) (g_V q70 q71 q72 q2 q73) ⟨rfl, by decide, by decide, by decide +kernel⟩ rfl rfl rfl rfl ⟨by decide, by decide⟩ (Nat.le_of_ble_eq_true rfl) ⟨by decide, by decide⟩ rw_tf (fun v9 w9 hv => ?_)
    obtain ⟨x9, m9, rfl, rfl, rfl, rfl⟩ := hv
    refine g_bipush (v := -15) dL_law_505 (by decide) ?_
    refine g_icmp_eq (tgt := 512) dL_law_507 (by decide) (fun c507 => ?_) (fun c507 => absurd rfl c507)
    exact T512 l2 _ _ _ U
  have T257 : ∀ (l2 : Int32) (M : tM) (F : tP), eS 28 M F → Rg false cL_law RL 11 (some .boolean) room_1 600000 7302250 cA ad (fun v _ => v = some (.int 1)) 300 4000 257 [some (.ref (ad 18 3)), some (.ref (ad 0 0)), some (.int l2), none, none, none, none, none, none, none, none] [] (wsT cA ad [] (mm M F (eP 28))) := by
    intro l2 M F E
    obtain ⟨hm, o, oW⟩ := eS_o E
    refine g_aload_n dL_law_257 rfl ?_
    refine g_iconst (v := 5) dL_law_258 (by decide) ?_
    refine g_iconst (v := 5) dL_law_259 (by decide) ?_
    refine g_callV (n := 2) (As := [.int 5, .int 5]) (rest := []) dL_law_260 (cg_of_j (e_no E q_mileR (by decide) kF_ref (K_mile hm o.1 o.2.1 o.2.2.1 o.2.2.2.1 o.2.2.2.2.1))) (g_V q433 q434 q435 q2 q436) ⟨rfl, by decide, by decide, by decide +kernel⟩ rfl rfl rfl rfl ⟨by decide, by decide⟩ (Nat.le_of_ble_eq_true rfl) ⟨by decide, by decide⟩ rw_tf (fun v9 w9 hv => ?_)
    obtain ⟨x9, m9, rfl, rfl, rfl, M9, rfl, E9⟩ := hv
    clear E o oW hm
    obtain ⟨hm, o, oW⟩ := eS_o E9
    have E := E9
    have hF2 : f_is (f_ref F 1 4) 1 4 = true := f_is_ref
    generalize f_ref F 1 4 = F2 at E hm hF2 ⊢
    clear E9
    refine g_bipush (v := -14) dL_law_263 (by decide) ?_
    refine g_icmp_ne (tgt := 510) dL_law_265 (by decide) (fun c265 => absurd rfl c265) (fun c265 => ?_)
    refine g_aload_n dL_law_268 rfl ?_
    refine g_iconst (v := 1) dL_law_269 (by decide) ?_
    refine g_iconst (v := 4) dL_law_270 (by decide) ?_
    refine g_callS (n := 3) (As := [.ref (ad 0 0), .int 1, .int 4]) (rest := []) dL_law_271 (cg_of_j (K_is (a := 1) (b := 4))) ⟨q421, q422, q423, q424⟩ ⟨rfl, by decide, by decide, by decide +kernel⟩ rfl rfl rfl rfl ⟨by decide, by decide⟩ (Nat.le_of_ble_eq_true rfl) ⟨by decide, by decide⟩ (fun v9 w9 hv => ?_)
    obtain ⟨x9, m9, rfl, rfl, rfl, rfl⟩ := hv
    refine g_if_eq (tgt := 510) dL_law_274 (by decide) (fun c274 => absurd (bI_0 c274) (by rw [hF2]; decide)) (fun c274 => ?_)
    refine g_aload_n dL_law_277 rfl ?_
    refine g_iconst (v := 0) dL_law_278 (by decide) ?_
    refine g_bipush (v := 11) dL_law_279 (by decide) ?_
    refine g_callV (n := 2) (As := [.int 0, .int 11]) (rest := []) dL_law_281 (cg_of_j (e_no E q_needR (by decide) kF_ref (K_need hm o.1 o.2.1 o.2.2.1 o.2.2.2.1 o.2.2.2.2.1))) (g_V q429 q430 q431 q2 q432) ⟨rfl, by decide, by decide, by decide +kernel⟩ rfl rfl rfl rfl ⟨by decide, by decide⟩ (Nat.le_of_ble_eq_true rfl) ⟨by decide, by decide⟩ rw_tf (fun v9 w9 hv => ?_)
    clear hF2
    obtain ⟨x9, m9, rfl, rfl, rfl, M9, rfl, E9⟩ := hv
    clear E o oW hm
    obtain ⟨hm, o, oW⟩ := eS_o E9
    have E := E9
    have hF2 : f_is (f_ref F2 4 11) 4 11 = true := f_is_ref
    generalize f_ref F2 4 11 = F3 at E hm hF2 ⊢
    clear E9
    generalize M9 = M9a at E hm ⊢
    refine g_bipush (v := -14) dL_law_284 (by decide) ?_
    refine g_icmp_ne (tgt := 510) dL_law_286 (by decide) (fun c286 => absurd rfl c286) (fun c286 => ?_)
    refine g_aload_n dL_law_289 rfl ?_
    refine g_iconst (v := 4) dL_law_290 (by decide) ?_
    refine g_bipush (v := 11) dL_law_291 (by decide) ?_
    refine g_callS (n := 3) (As := [.ref (ad 0 0), .int 4, .int 11]) (rest := []) dL_law_293 (cg_of_j (K_is (a := 4) (b := 11))) ⟨q421, q422, q423, q424⟩ ⟨rfl, by decide, by decide, by decide +kernel⟩ rfl rfl rfl rfl ⟨by decide, by decide⟩ (Nat.le_of_ble_eq_true rfl) ⟨by decide, by decide⟩ (fun v9 w9 hv => ?_)
    obtain ⟨x9, m9, rfl, rfl, rfl, rfl⟩ := hv
    refine g_if_eq (tgt := 510) dL_law_296 (by decide) (fun c296 => absurd (bI_0 c296) (by rw [hF2]; decide)) (fun c296 => ?_)
    refine g_aload_n dL_law_299 rfl ?_
    refine g_bipush (v := 11) dL_law_300 (by decide) ?_
    refine g_callV (n := 1) (As := [.int 11]) (rest := []) dL_law_302 (cg_of_j (K_chain (s := 11) o.1)) (g_V q437 q438 q439 q2 q440) ⟨rfl, by decide, by decide, by decide +kernel⟩ rfl rfl rfl rfl ⟨by decide, by decide⟩ (Nat.le_of_ble_eq_true rfl) ⟨by decide, by decide⟩ rw_tf (fun v9 w9 hv => ?_)
    obtain ⟨x9, m9, rfl, rfl, rfl, rfl⟩ := hv
    rw [show (t_chain (eP 28) (M9a 15) 11).1 = 51 from (q_chain (C := zP) sm_rfl o.1).trans e_chain]
    have E302 := eS_pl (r := 15) (X := (t_chain (eP 28) (M9a 15) 11).2) (by omega) E
    clear E
    have E := E302
    clear E302
    generalize m_pl M9a 15 (t_chain (eP 28) (M9a 15) 11).2 = M1 at E ⊢
    refine g_bipush (v := 51) dL_law_305 (by decide) ?_
    refine g_icmp_ne (tgt := 510) dL_law_307 (by decide) (fun c307 => absurd rfl c307) (fun c307 => ?_)
    refine g_aload_n dL_law_310 rfl ?_
    refine g_bipush (v := 11) dL_law_311 (by decide) ?_
    refine g_callV (n := 1) (As := [.int 11]) (rest := []) dL_law_313 (cg_of_j (K_chain2 (s := 11) o.1)) (g_V q454 q455 q456 q2 q457) ⟨rfl, by decide, by decide, by decide +kernel⟩ rfl rfl rfl rfl ⟨by decide, by decide⟩ (Nat.le_of_ble_eq_true rfl) ⟨by decide, by decide⟩ rw_tf (fun v9 w9 hv => ?_)
    obtain ⟨x9, m9, rfl, rfl, rfl, rfl⟩ := hv
    rw [show (t_chain2 (eP 28) (M1 15) 11).1 = 51 from (q_chain2 (C := zP) sm_rfl o.1).trans e_chain2]
    have E313 := eS_pl (r := 15) (X := (t_chain2 (eP 28) (M1 15) 11).2) (by omega) E
    clear E
    have E := E313
    clear E313
    generalize m_pl M1 15 (t_chain2 (eP 28) (M1 15) 11).2 = M2 at E ⊢
    refine g_bipush (v := 51) dL_law_316 (by decide) ?_
    refine g_icmp_ne (tgt := 510) dL_law_318 (by decide) (fun c318 => absurd rfl c318) (fun c318 => ?_)
    refine g_aload_n dL_law_321 rfl ?_
    refine g_bipush (v := 11) dL_law_322 (by decide) ?_
    refine g_callV (n := 1) (As := [.int 11]) (rest := []) dL_law_324 (cg_of_j (K_doneIn (s := 11) o.1 o.2.1 o.2.2.1 o.2.2.2.1)) (g_V q467 q468 q469 q2 q470) ⟨rfl, by decide, by decide, by decide +kernel⟩ rfl rfl rfl rfl ⟨by decide, by decide⟩ (Nat.le_of_ble_eq_true rfl) ⟨by decide, by decide⟩ rw_tf (fun v9 w9 hv => ?_)
    obtain ⟨x9, m9, rfl, rfl, rfl, rfl⟩ := hv
    rw [show (t_doneIn (eP 28) (M2 2) 11).1 = 52 from (q_doneIn (X := zP) sm_rfl o.1).trans e_done]
    have E324 := eS_pl (r := 2) (X := (t_doneIn (eP 28) (M2 2) 11).2) (by omega) E
    clear E
    have E := E324
    clear E324
    generalize m_pl M2 2 (t_doneIn (eP 28) (M2 2) 11).2 = M3 at E ⊢
    refine g_bipush (v := 52) dL_law_327 (by decide) ?_
    refine g_icmp_ne (tgt := 510) dL_law_329 (by decide) (fun c329 => absurd rfl c329) (fun c329 => ?_)
    refine g_aload_n dL_law_332 rfl ?_
    refine g_iconst (v := 0) dL_law_333 (by decide) ?_
    refine g_callV (n := 1) (As := [.int 0]) (rest := []) dL_law_334 (cg_of_j (K_doneIn (s := 0) o.1 o.2.1 o.2.2.1 o.2.2.2.1)) (g_V q467 q468 q469 q2 q470) ⟨rfl, by decide, by decide, by decide +kernel⟩ rfl rfl rfl rfl ⟨by decide, by decide⟩ (Nat.le_of_ble_eq_true rfl) ⟨by decide, by decide⟩ rw_tf (fun v9 w9 hv => ?_)
    obtain ⟨x9, m9, rfl, rfl, rfl, rfl⟩ := hv
    rw [show (t_doneIn (eP 28) (M3 2) 0).1 = 2 from (q_doneIn (X := zP) sm_rfl o.1).trans e_done0]
    have E334 := eS_pl (r := 2) (X := (t_doneIn (eP 28) (M3 2) 0).2) (by omega) E
    clear E
    have E := E334
    clear E334
    generalize m_pl M3 2 (t_doneIn (eP 28) (M3 2) 0).2 = M4 at E ⊢
    refine g_iconst (v := 2) dL_law_337 (by decide) ?_
    refine g_icmp_ne (tgt := 510) dL_law_338 (by decide) (fun c338 => absurd rfl c338) (fun c338 => ?_)
    refine g_aload_n dL_law_341 rfl ?_
    refine g_bipush (v := 30) dL_law_342 (by decide) ?_
    refine g_callV (n := 1) (As := [.int 30]) (rest := []) dL_law_344 (cg_of_j (e_ok2 E (g_days (x := 30) o) (n_days o oW) q_days30 (by decide) (K_days hm o.1 o.2.1 o.2.2.1 o.2.2.2.1 o.2.2.2.2.1))) (g_V q471 q472 q473 q2 q474) ⟨rfl, by decide, by decide, by decide +kernel⟩ rfl rfl rfl rfl ⟨by decide, by decide⟩ (Nat.le_of_ble_eq_true rfl) ⟨by decide, by decide⟩ rw_tf (fun v9 w9 hv => ?_)
    obtain ⟨x9, m9, rfl, rfl, rfl, M9, F9, rfl, E9⟩ := hv
    clear E o oW hm
    obtain ⟨hm, o, oW⟩ := eS_o E9
    have E := E9
    refine g_bipush (v := 7) dL_law_347 (by decide) ?_
    refine g_icmp_ne (tgt := 510) dL_law_349 (by decide) (fun c349 => absurd rfl c349) (fun c349 => ?_)
    refine g_aload_n dL_law_352 rfl ?_
    refine g_iconst (v := 5) dL_law_353 (by decide) ?_
    refine g_callV (n := 1) (As := [.int 5]) (rest := []) dL_law_354 (cg_of_j (K_acc (x := 5) o.1)) (g_V q149 q150 q151 q2 q152) ⟨rfl, by decide, by decide, by decide +kernel⟩ rfl rfl rfl rfl ⟨by decide, by decide⟩ (Nat.le_of_ble_eq_true rfl) ⟨by decide, by decide⟩ rw_tf (fun v9 w9 hv => ?_)
    obtain ⟨x9, m9, rfl, rfl, rfl, rfl⟩ := hv
    rw [show f_acc (M9 13) F9 (eP 29) 5 = 7 from e_days.2]
    refine g_bipush (v := 7) dL_law_357 (by decide) ?_
    refine g_icmp_ne (tgt := 510) dL_law_359 (by decide) (fun c359 => absurd rfl c359) (fun c359 => ?_)
    refine g_aload_n dL_law_362 rfl ?_
    refine g_bipush (v := 18) dL_law_363 (by decide) ?_
    refine g_callV (n := 1) (As := [.int 18]) (rest := []) dL_law_365 (cg_of_j (K_acc (x := 18) o.1)) (g_V q149 q150 q151 q2 q152) ⟨rfl, by decide, by decide, by decide +kernel⟩ rfl rfl rfl rfl ⟨by decide, by decide⟩ (Nat.le_of_ble_eq_true rfl) ⟨by decide, by decide⟩ rw_tf (fun v9 w9 hv => ?_)
    obtain ⟨x9, m9, rfl, rfl, rfl, rfl⟩ := hv
    rw [show f_acc (M9 13) F9 (eP 29) 18 = 8 from eS_6 E]
    refine g_bipush (v := 8) dL_law_368 (by decide) ?_
    refine g_icmp_ne (tgt := 510) dL_law_370 (by decide) (fun c370 => absurd rfl c370) (fun c370 => ?_)
    exact T373 l2 _ _ _ (eU_of E)
  have T229 : ∀ (n2 i : Nat) (M : tM) (F : tP), i + n2 = 4 → eS (24 + i) M F → Rg false cL_law RL 11 (some .boolean) room_1 600000 7302250 cA ad (fun v _ => v = some (.int 1)) 300 4000 229 [some (.ref (ad 18 3)), some (.ref (ad 0 0)), some (.int (nI i)), none, none, none, none, none, none, none, none] [] (wsT cA ad [] (mm M F (eP (24 + i)))) := by
    intro n2
    induction n2 with
    | zero =>
      intro i M F hi E
      obtain rfl : i = 4 := by omega
      refine g_iload_n dL_law_229 rfl ?_
      refine g_iconst (v := 4) dL_law_230 (by decide) ?_
      refine g_icmp_ge (tgt := 257) dL_law_231 (by decide) (fun c231 => ?_) (fun c231 => absurd (Int32.le_refl _) c231)
      exact T257 _ _ _ E
    | succ n2 ih =>
      intro i M F hi E
      obtain ⟨hm, o, oW⟩ := eS_o E
      refine g_iload_n dL_law_229 rfl ?_
      refine g_iconst (v := 4) dL_law_230 (by decide) ?_
      refine g_icmp_ge (tgt := 257) dL_law_231 (by decide) (fun c231 => absurd c231 (nI_ge (a := i) (b := 4) (by omega) (by omega))) (fun c231 => ?_)
      refine g_aload_n dL_law_234 rfl ?_
      refine g_iload_n dL_law_235 rfl ?_
      refine g_bipush (v := 10) dL_law_236 (by decide) ?_
      refine g_iload_n dL_law_238 rfl ?_
      refine g_imul dL_law_239 ?_
      refine g_iconst (v := 1) dL_law_240 (by decide) ?_
      refine g_iadd dL_law_241 ?_
      rw [at_10 i (by omega)]
      refine g_callV (n := 2) (As := [.int (nI i), .int (nI (10 * i + 1))]) (rest := []) dL_law_242 (cg_of_j (e_ok2 E (g_mile o) (n_mile o oW) (q_mile (by omega)) (nI_pos (by omega)) (K_mile hm o.1 o.2.1 o.2.2.1 o.2.2.2.1 o.2.2.2.2.1))) (g_V q433 q434 q435 q2 q436) ⟨rfl, by decide, by decide, by decide +kernel⟩ rfl rfl rfl rfl ⟨by decide, by decide⟩ (Nat.le_of_ble_eq_true rfl) ⟨by decide, by decide⟩ rw_tf (fun v9 w9 hv => ?_)
      obtain ⟨x9, m9, rfl, rfl, rfl, M9, F9, rfl, E9⟩ := hv
      clear E o oW hm
      obtain ⟨hm, o, oW⟩ := eS_o E9
      have E := E9
      refine g_iload_n dL_law_245 rfl ?_
      refine g_icmp_eq (tgt := 251) dL_law_246 (by decide) (fun c246 => ?_) (fun c246 => absurd rfl c246)
      refine g_iinc dL_law_251 rfl ii_s (by decide) rfl ?_
      refine g_goto (tgt := 229) dL_law_254 (by decide) ?_
      exact ih (i + 1) _ _ (by omega) E
  have T201 : ∀ (n2 i : Nat) (M : tM) (F : tP), i + n2 = 11 → eS (13 + i) M F → Rg false cL_law RL 11 (some .boolean) room_1 600000 7302250 cA ad (fun v _ => v = some (.int 1)) 300 4000 201 [some (.ref (ad 18 3)), some (.ref (ad 0 0)), some (.int (nI (i + 1))), none, none, none, none, none, none, none, none] [] (wsT cA ad [] (mm M F (eP (13 + i)))) := by
    intro n2
    induction n2 with
    | zero =>
      intro i M F hi E
      obtain rfl : i = 11 := by omega
      refine g_iload_n dL_law_201 rfl ?_
      refine g_bipush (v := 12) dL_law_202 (by decide) ?_
      refine g_icmp_ge (tgt := 227) dL_law_204 (by decide) (fun c204 => ?_) (fun c204 => absurd (Int32.le_refl _) c204)
      refine g_iconst (v := 0) dL_law_227 (by decide) ?_
      refine g_istore_n dL_law_228 (by decide) rfl ?_
      exact T229 4 0 _ _ rfl E
    | succ n2 ih =>
      intro i M F hi E
      obtain ⟨hm, o, oW⟩ := eS_o E
      refine g_iload_n dL_law_201 rfl ?_
      refine g_bipush (v := 12) dL_law_202 (by decide) ?_
      refine g_icmp_ge (tgt := 227) dL_law_204 (by decide) (fun c204 => absurd c204 (nI_ge (a := i + 1) (b := 12) (by omega) (by omega))) (fun c204 => ?_)
      refine g_aload_n dL_law_207 rfl ?_
      refine g_iload_n dL_law_208 rfl ?_
      refine g_iload_n dL_law_209 rfl ?_
      refine g_iconst (v := 1) dL_law_210 (by decide) ?_
      refine g_isub dL_law_211 ?_
      rw [nI_pred i]
      refine g_callV (n := 2) (As := [.int (nI (i + 1)), .int (nI i)]) (rest := []) dL_law_212 (cg_of_j (e_ok2 E (g_need o) (n_need oW) (q_need (by omega)) (by decide) (K_need hm o.1 o.2.1 o.2.2.1 o.2.2.2.1 o.2.2.2.2.1))) (g_V q429 q430 q431 q2 q432) ⟨rfl, by decide, by decide, by decide +kernel⟩ rfl rfl rfl rfl ⟨by decide, by decide⟩ (Nat.le_of_ble_eq_true rfl) ⟨by decide, by decide⟩ rw_tf (fun v9 w9 hv => ?_)
      obtain ⟨x9, m9, rfl, rfl, rfl, M9, F9, rfl, E9⟩ := hv
      clear E o oW hm
      obtain ⟨hm, o, oW⟩ := eS_o E9
      have E := E9
      refine g_iconst (v := 1) dL_law_215 (by decide) ?_
      refine g_icmp_eq (tgt := 221) dL_law_216 (by decide) (fun c216 => ?_) (fun c216 => absurd rfl c216)
      refine g_iinc dL_law_221 rfl ii_s (by decide) rfl ?_
      refine g_goto (tgt := 201) dL_law_224 (by decide) ?_
      exact ih (i + 1) _ _ (by omega) E
  have T150 : ∀ (l2 : Int32) (M : tM) (F : tP), eS 13 M F → Rg false cL_law RL 11 (some .boolean) room_1 600000 7302250 cA ad (fun v _ => v = some (.int 1)) 300 4000 150 [some (.ref (ad 18 3)), some (.ref (ad 0 0)), some (.int l2), none, none, none, none, none, none, none, none] [] (wsT cA ad [] (mm M F (eP 13))) := by
    intro l2 M F E
    obtain ⟨hm, o, oW⟩ := eS_o E
    refine g_aload_n dL_law_150 rfl ?_
    refine g_iconst (v := 1) dL_law_151 (by decide) ?_
    refine g_iconst (v := 0) dL_law_152 (by decide) ?_
    refine g_iconst (v := 0) dL_law_153 (by decide) ?_
    refine g_iconst (v := 0) dL_law_154 (by decide) ?_
    refine g_callV (n := 4) (As := [.int 1, .int 0, .int 0, .int (bI false)]) (rest := []) dL_law_155 (cg_of_j (e_no E q_stepR (by decide) kF_ref (K_step (a := false) hm o.1 o.2.1 o.2.2.1 o.2.2.2.1 o.2.2.2.2.1))) (g_V q417 q418 q419 q2 q420) ⟨rfl, by decide, by decide, by decide +kernel⟩ rfl rfl rfl rfl ⟨by decide, by decide⟩ (Nat.le_of_ble_eq_true rfl) ⟨by decide, by decide⟩ rw_tf (fun v9 w9 hv => ?_)
    obtain ⟨x9, m9, rfl, rfl, rfl, M9, rfl, E9⟩ := hv
    clear E o oW hm
    obtain ⟨hm, o, oW⟩ := eS_o E9
    have E := E9
    have hF2 : f_is (f_ref F 1 12) 1 12 = true := f_is_ref
    generalize f_ref F 1 12 = F2 at E hm hF2 ⊢
    clear E9
    refine g_bipush (v := -14) dL_law_158 (by decide) ?_
    refine g_icmp_ne (tgt := 197) dL_law_160 (by decide) (fun c160 => absurd rfl c160) (fun c160 => ?_)
    refine g_aload_n dL_law_163 rfl ?_
    refine g_iconst (v := 1) dL_law_164 (by decide) ?_
    refine g_bipush (v := 12) dL_law_165 (by decide) ?_
    refine g_callS (n := 3) (As := [.ref (ad 0 0), .int 1, .int 12]) (rest := []) dL_law_167 (cg_of_j (K_is (a := 1) (b := 12))) ⟨q421, q422, q423, q424⟩ ⟨rfl, by decide, by decide, by decide +kernel⟩ rfl rfl rfl rfl ⟨by decide, by decide⟩ (Nat.le_of_ble_eq_true rfl) ⟨by decide, by decide⟩ (fun v9 w9 hv => ?_)
    obtain ⟨x9, m9, rfl, rfl, rfl, rfl⟩ := hv
    refine g_if_eq (tgt := 197) dL_law_170 (by decide) (fun c170 => absurd (bI_0 c170) (by rw [hF2]; decide)) (fun c170 => ?_)
    refine g_aload_n dL_law_173 rfl ?_
    refine g_iconst (v := 0) dL_law_174 (by decide) ?_
    refine g_iconst (v := 0) dL_law_175 (by decide) ?_
    refine g_iconst (v := 0) dL_law_176 (by decide) ?_
    refine g_iconst (v := 0) dL_law_177 (by decide) ?_
    generalize M9 = M8 at E hm ⊢
    refine g_callV (n := 4) (As := [.int 0, .int 0, .int 0, .int (bI false)]) (rest := []) dL_law_178 (cg_of_j (e_no E q_stepB (by decide) kF_rfl (K_step (a := false) hm o.1 o.2.1 o.2.2.1 o.2.2.2.1 o.2.2.2.2.1))) (g_V q417 q418 q419 q2 q420) ⟨rfl, by decide, by decide, by decide +kernel⟩ rfl rfl rfl rfl ⟨by decide, by decide⟩ (Nat.le_of_ble_eq_true rfl) ⟨by decide, by decide⟩ rw_tf (fun v9 w9 hv => ?_)
    obtain ⟨x9, m9, rfl, rfl, rfl, M9, rfl, E9⟩ := hv
    clear E o oW hm
    obtain ⟨hm, o, oW⟩ := eS_o E9
    have E := E9
    refine g_bipush (v := -12) dL_law_181 (by decide) ?_
    refine g_icmp_ne (tgt := 197) dL_law_183 (by decide) (fun c183 => absurd rfl c183) (fun c183 => ?_)
    refine g_aload_n dL_law_186 rfl ?_
    refine g_bipush (v := 18) dL_law_187 (by decide) ?_
    refine g_callV (n := 1) (As := [.int 18]) (rest := []) dL_law_189 (cg_of_j (K_acc (x := 18) o.1)) (g_V q149 q150 q151 q2 q152) ⟨rfl, by decide, by decide, by decide +kernel⟩ rfl rfl rfl rfl ⟨by decide, by decide⟩ (Nat.le_of_ble_eq_true rfl) ⟨by decide, by decide⟩ rw_tf (fun v9 w9 hv => ?_)
    obtain ⟨x9, m9, rfl, rfl, rfl, rfl⟩ := hv
    rw [show f_acc (M9 13) F2 (eP 13) 18 = 8 from eS_6 E]
    refine g_bipush (v := 8) dL_law_192 (by decide) ?_
    refine g_icmp_eq (tgt := 199) dL_law_194 (by decide) (fun c194 => ?_) (fun c194 => absurd rfl c194)
    refine g_iconst (v := 1) dL_law_199 (by decide) ?_
    refine g_istore_n dL_law_200 (by decide) rfl ?_
    exact T201 11 0 _ _ rfl E
  have T119 : ∀ (n2 i : Nat) (M : tM) (F : tP), i + n2 = 12 → eS (i + 1) M F → Rg false cL_law RL 11 (some .boolean) room_1 600000 7302250 cA ad (fun v _ => v = some (.int 1)) 300 4000 119 [some (.ref (ad 18 3)), some (.ref (ad 0 0)), some (.int (nI i)), none, none, none, none, none, none, none, none] [] (wsT cA ad [] (mm M F (eP (i + 1)))) := by
    intro n2
    induction n2 with
    | zero =>
      intro i M F hi E
      obtain rfl : i = 12 := by omega
      refine g_iload_n dL_law_119 rfl ?_
      refine g_bipush (v := 12) dL_law_120 (by decide) ?_
      refine g_icmp_ge (tgt := 150) dL_law_122 (by decide) (fun c122 => ?_) (fun c122 => absurd (Int32.le_refl _) c122)
      exact T150 _ _ _ E
    | succ n2 ih =>
      intro i M F hi E
      obtain ⟨hm, o, oW⟩ := eS_o E
      refine g_iload_n dL_law_119 rfl ?_
      refine g_bipush (v := 12) dL_law_120 (by decide) ?_
      refine g_icmp_ge (tgt := 150) dL_law_122 (by decide) (fun c122 => absurd c122 (nI_ge (a := i) (b := 12) (by omega) (by omega))) (fun c122 => ?_)
      refine g_aload_n dL_law_125 rfl ?_
      refine g_iconst (v := 1) dL_law_126 (by decide) ?_
      refine g_iload_n dL_law_127 rfl ?_
      refine g_bipush (v := 9) dL_law_128 (by decide) ?_
      refine g_irem dL_law_130 (by decide) ?_
      refine g_iadd dL_law_131 ?_
      rw [at_9 i (by omega)]
      refine g_iconst (v := 0) dL_law_132 (by decide) ?_
      refine g_iconst (v := 0) dL_law_133 (by decide) ?_
      refine g_iconst (v := 0) dL_law_134 (by decide) ?_
      refine g_callV (n := 4) (As := [.int (nI (i % 9 + 1)), .int 0, .int 0, .int (bI false)]) (rest := []) dL_law_135 (cg_of_j (e_ok2 E (g_step o) (n_step o oW) (q_step (by omega)) (nI_pos (by omega)) (K_step (a := false) hm o.1 o.2.1 o.2.2.1 o.2.2.2.1 o.2.2.2.2.1))) (g_V q417 q418 q419 q2 q420) ⟨rfl, by decide, by decide, by decide +kernel⟩ rfl rfl rfl rfl ⟨by decide, by decide⟩ (Nat.le_of_ble_eq_true rfl) ⟨by decide, by decide⟩ rw_tf (fun v9 w9 hv => ?_)
      obtain ⟨x9, m9, rfl, rfl, rfl, M9, F9, rfl, E9⟩ := hv
      clear E o oW hm
      obtain ⟨hm, o, oW⟩ := eS_o E9
      have E := E9
      refine g_iload_n dL_law_138 rfl ?_
      refine g_icmp_eq (tgt := 144) dL_law_139 (by decide) (fun c139 => ?_) (fun c139 => absurd rfl c139)
      refine g_iinc dL_law_144 rfl ii_s (by decide) rfl ?_
      refine g_goto (tgt := 119) dL_law_147 (by decide) ?_
      exact ih (i + 1) _ _ (by omega) E
  have T74 : ∀ (l2 : Int32) (M : tM) (F T : tP), eS 1 M F → okTx T → tl T = 60 → T 1 0 = 65 → Rg false cL_law RL 11 (some .boolean) room_1 600000 7302250 cA ad (fun v _ => v = some (.int 1)) 300 4000 74 [some (.ref (ad 18 3)), some (.ref (ad 0 0)), some (.int l2), none, none, none, none, none, none, none, none] [] (wsT cA ad [] (mm (m_pl M 13 T) F (eP 1))) := by
    intro l2 M F T E oT hT h65
    obtain ⟨hm, o, oW⟩ := eS_o E
    refine g_aload_n dL_law_74 rfl ?_
    refine g_bipush (v := 115) dL_law_75 (by decide) ?_
    refine g_callV (n := 1) (As := [.int 115]) (rest := []) dL_law_77 (cg_of_j (no_app2 (by decide) oT hT)) (g_V q139 q140 q141 q2 q142) ⟨rfl, by decide, by decide, by decide +kernel⟩ rfl rfl rfl rfl ⟨by decide, by decide⟩ (Nat.le_of_ble_eq_true rfl) ⟨by decide, by decide⟩ rw_tf (fun v9 w9 hv => ?_)
    obtain ⟨x9, m9, rfl, rfl, rfl, rfl⟩ := hv
    refine g_bipush (v := -13) dL_law_80 (by decide) ?_
    refine g_icmp_ne (tgt := 115) dL_law_82 (by decide) (fun c82 => absurd rfl c82) (fun c82 => ?_)
    refine g_aload_n dL_law_85 rfl ?_
    refine g_bipush (v := 17) dL_law_86 (by decide) ?_
    refine g_callV (n := 1) (As := [.int 17]) (rest := []) dL_law_88 (cg_of_j (K_acc (x := 17) o.1)) (g_V q149 q150 q151 q2 q152) ⟨rfl, by decide, by decide, by decide +kernel⟩ rfl rfl rfl rfl ⟨by decide, by decide⟩ (Nat.le_of_ble_eq_true rfl) ⟨by decide, by decide⟩ rw_tf (fun v9 w9 hv => ?_)
    obtain ⟨x9, m9, rfl, rfl, rfl, rfl⟩ := hv
    rw [show f_acc (m_pl M 13 T 13) F (eP 1) 17 = 60 from by rw [m_pl_s]; exact (oT.1.trans (by rw [hT]; rfl))]
    refine g_bipush (v := 60) dL_law_91 (by decide) ?_
    refine g_icmp_ne (tgt := 115) dL_law_93 (by decide) (fun c93 => absurd rfl c93) (fun c93 => ?_)
    refine g_aload_n dL_law_96 rfl ?_
    refine g_callV (n := 0) (As := []) (rest := []) dL_law_97 (cg_of_j (K_run hm o (fun k hk => by rw [m_pl_n (by omega)]; exact (E.1.1.2.1 k hk).1.2.1) (by rw [m_pl_s]; exact oT.1) (by rw [m_pl_s]; exact oT.2.1) (by rw [m_pl_s]; exact oT.2.2.1) (by rw [m_pl_s]; exact oT.2.2.2))) (g_V q176 q177 q178 q2 q179) ⟨rfl, by decide, by decide, by decide +kernel⟩ rfl rfl rfl rfl ⟨by decide, by decide⟩ (Nat.le_of_ble_eq_true rfl) ⟨by decide, by decide⟩ rw_tf (fun v9 w9 hv => ?_)
    obtain ⟨x9, m9, rfl, rfl, rfl, rfl⟩ := hv
    rw [tr_no (ros_A (n := 60) (oT.1.trans (by rw [hT])) (by omega) (by omega) h65)]
    dsimp only
    rw [m_pl_pl]
    have E1 := eS_T (rT_ok (M := m_pl M 13 T) (by rw [m_pl_s]; exact oT)) E
    generalize m_pl M 13 (r_T (m_pl M 13 T)) = M1 at E1 ⊢
    refine g_sipush (v := -1000) dL_law_100 (by decide) ?_
    refine g_icmp_ne (tgt := 115) dL_law_103 (by decide) (fun c103 => absurd rfl c103) (fun c103 => ?_)
    refine g_aload_n dL_law_106 rfl ?_
    refine g_bipush (v := 17) dL_law_107 (by decide) ?_
    refine g_callV (n := 1) (As := [.int 17]) (rest := []) dL_law_109 (cg_of_j (K_acc (x := 17) o.1)) (g_V q149 q150 q151 q2 q152) ⟨rfl, by decide, by decide, by decide +kernel⟩ rfl rfl rfl rfl ⟨by decide, by decide⟩ (Nat.le_of_ble_eq_true rfl) ⟨by decide, by decide⟩ rw_tf (fun v9 w9 hv => ?_)
    obtain ⟨x9, m9, rfl, rfl, rfl, rfl⟩ := hv
    rw [show f_acc (M1 13) F (eP 1) 17 = 0 from E1.1.1.2.2.2.1.2]
    refine g_if_eq (tgt := 117) dL_law_112 (by decide) (fun c112 => ?_) (fun c112 => absurd rfl c112)
    refine g_iconst (v := 0) dL_law_117 (by decide) ?_
    refine g_istore_n dL_law_118 (by decide) rfl ?_
    exact T119 12 0 _ _ rfl E1
  have T46 : ∀ (M : tM) (F : tP), eS 1 M F → ∀ (n2 i : Nat) (T : tP), i + n2 = 60 → okTx T → tl T = i → (0 < i → T 1 0 = 65) → Rg false cL_law RL 11 (some .boolean) room_1 600000 7302250 cA ad (fun v _ => v = some (.int 1)) 300 4000 46 [some (.ref (ad 18 3)), some (.ref (ad 0 0)), some (.int (nI i)), none, none, none, none, none, none, none, none] [] (wsT cA ad [] (mm (m_pl M 13 T) F (eP 1))) := by
    intro M F E n2
    induction n2 with
    | zero =>
      intro i T hi oT hT h65
      obtain rfl : i = 60 := by omega
      refine g_iload_n dL_law_46 rfl ?_
      refine g_bipush (v := 60) dL_law_47 (by decide) ?_
      refine g_icmp_ge (tgt := 74) dL_law_49 (by decide) (fun c49 => ?_) (fun c49 => absurd (Int32.le_refl _) c49)
      exact T74 _ _ _ _ E oT hT (h65 (by omega))
    | succ n2 ih =>
      intro i T hi oT hT h65
      obtain ⟨a1, a2, a3⟩ := app_ok (q := 65 + i) oT (by omega) (by omega) (by omega)
      refine g_iload_n dL_law_46 rfl ?_
      refine g_bipush (v := 60) dL_law_47 (by decide) ?_
      refine g_icmp_ge (tgt := 74) dL_law_49 (by decide) (fun c49 => absurd c49 (nI_ge (a := i) (b := 60) (by omega) (by omega))) (fun c49 => ?_)
      refine g_aload_n dL_law_52 rfl ?_
      refine g_bipush (v := 65) dL_law_53 (by decide) ?_
      refine g_iload_n dL_law_55 rfl ?_
      refine g_iadd dL_law_56 ?_
      rw [show (65 : Int32) + nI i = nI (65 + i) from nI_add_l 65 i]
      refine g_callV (n := 1) (As := [.int (nI (65 + i))]) (rest := []) dL_law_57 (cg_of_j (K_app (x := nI (65 + i)) (by rw [m_pl_s]; exact oT.1) (by rw [m_pl_s]; exact oT.2.1))) (g_V q139 q140 q141 q2 q142) ⟨rfl, by decide, by decide, by decide +kernel⟩ rfl rfl rfl rfl ⟨by decide, by decide⟩ (Nat.le_of_ble_eq_true rfl) ⟨by decide, by decide⟩ rw_tf (fun v9 w9 hv => ?_)
      obtain ⟨x9, m9, rfl, rfl, rfl, rfl⟩ := hv
      rw [m_pl_s, m_pl_pl, a1]
      refine g_iload_n dL_law_60 rfl ?_
      refine g_iconst (v := 1) dL_law_61 (by decide) ?_
      refine g_iadd dL_law_62 ?_
      refine g_icmp_eq (tgt := 68) dL_law_63 (by decide) (fun c63 => ?_) (fun c63 => absurd (by rw [hT]; exact (nI_1 i).symm) c63)
      refine g_iinc dL_law_68 rfl ii_s (by decide) rfl ?_
      refine g_goto (tgt := 46) dL_law_71 (by decide) ?_
      refine ih (i + 1) (f_as T (nI (65 + i))) (by omega) a2 (by omega) (fun _ => ?_)
      rw [as_0]
      by_cases z : tl T = 0
      · rw [if_pos z, show i = 0 from by omega]; rfl
      · rw [if_neg z]; exact h65 (by omega)
  rw [mm_00]
  refine g_aload_n dL_law_8 rfl ?_
  refine g_callV (n := 0) (As := []) (rest := []) dL_law_9 (cg_of_j (no_undo inv_0 rfl)) (g_V q70 q71 q72 q2 q73) ⟨rfl, by decide, by decide, by decide +kernel⟩ rfl rfl rfl rfl ⟨by decide, by decide⟩ (Nat.le_of_ble_eq_true rfl) ⟨by decide, by decide⟩ rw_tf (fun v9 w9 hv => ?_)
  obtain ⟨x9, m9, rfl, rfl, rfl, rfl⟩ := hv
  refine g_bipush (v := -15) dL_law_12 (by decide) ?_
  refine g_icmp_ne (tgt := 42) dL_law_14 (by decide) (fun c14 => absurd rfl c14) (fun c14 => ?_)
  refine g_aload_n dL_law_17 rfl ?_
  refine g_callV (n := 0) (As := []) (rest := []) dL_law_18 (cg_of_j (no_restore inv_0 rfl)) (g_V q109 q110 q111 q2 q112) ⟨rfl, by decide, by decide, by decide +kernel⟩ rfl rfl rfl rfl ⟨by decide, by decide⟩ (Nat.le_of_ble_eq_true rfl) ⟨by decide, by decide⟩ rw_tf (fun v9 w9 hv => ?_)
  obtain ⟨x9, m9, rfl, rfl, rfl, rfl⟩ := hv
  refine g_bipush (v := -15) dL_law_21 (by decide) ?_
  refine g_icmp_ne (tgt := 42) dL_law_23 (by decide) (fun c23 => absurd rfl c23) (fun c23 => ?_)
  refine g_aload_n dL_law_26 rfl ?_
  refine g_callV (n := 0) (As := []) (rest := []) dL_law_27 (cg_of_j (K_save okP_0.1 okP_0.2.1)) (g_V q115 q116 q117 q2 q118) ⟨rfl, by decide, by decide, by decide +kernel⟩ rfl rfl rfl rfl ⟨by decide, by decide⟩ (Nat.le_of_ble_eq_true rfl) ⟨by decide, by decide⟩ rw_tf (fun v9 w9 hv => ?_)
  obtain ⟨x9, m9, rfl, rfl, rfl, rfl⟩ := hv
  rw [show P_0 0 7 = 0 from rfl]
  have E : eS 0 (m_pl M_0 3 (f_copy (M_0 3) P_0)) (pu (M_0 0) 0 3 1) := ⟨⟨by have z := save_i inv_0; rw [e_P0] at z; rw [e_P0]; exact z, by omega, fun j hj => absurd hj (by omega)⟩, by rw [m_pl_s]; exact sm_copy⟩
  generalize m_pl M_0 3 (f_copy (M_0 3) P_0) = M1 at E ⊢
  generalize pu (M_0 0) 0 3 1 = F1 at E ⊢
  rw [e_P0]
  obtain ⟨hm, o, oW⟩ := eS_o E
  refine g_if_ne (tgt := 42) dL_law_30 (by decide) (fun c30 => absurd rfl c30) (fun c30 => ?_)
  refine g_aload_n dL_law_33 rfl ?_
  refine g_iconst (v := 3) dL_law_34 (by decide) ?_
  refine g_callV (n := 1) (As := [.int 3]) (rest := []) dL_law_35 (cg_of_j (e_ok2 E (g_hands (x := 3) o) (n_hands o oW) (by rw [← e_P0]; exact q_hands) (by decide) (K_hands hm o.1 o.2.1 o.2.2.1 o.2.2.2.1 o.2.2.2.2.1))) (g_V q119 q120 q121 q2 q122) ⟨rfl, by decide, by decide, by decide +kernel⟩ rfl rfl rfl rfl ⟨by decide, by decide⟩ (Nat.le_of_ble_eq_true rfl) ⟨by decide, by decide⟩ rw_tf (fun v9 w9 hv => ?_)
  obtain ⟨x9, m9, rfl, rfl, rfl, M9, F9, rfl, E9⟩ := hv
  clear E o oW hm
  obtain ⟨hm, o, oW⟩ := eS_o E9
  have E := E9
  refine g_iconst (v := 2) dL_law_38 (by decide) ?_
  refine g_icmp_eq (tgt := 44) dL_law_39 (by decide) (fun c39 => ?_) (fun c39 => absurd rfl c39)
  refine g_iconst (v := 0) dL_law_44 (by decide) ?_
  refine g_istore_n dL_law_45 (by decide) rfl ?_
  rw [show mm M9 F9 (eP (0 + 1)) = mm (m_pl M9 13 (M9 13)) F9 (eP 1) from by rw [m_pl_self]]
  exact T46 _ _ E 60 0 (M9 13) rfl E.1.1.2.2.2.1.1 (by rw [tl, E.1.1.2.2.2.1.2]; rfl) (fun z => absurd z (by omega))
