theorem dL_law_0 : decode cL_law 0 = .ok (.new 10, 3) := by decide +kernel
theorem dL_law_3 : decode cL_law 3 = .ok (.dup, 1) := by decide +kernel
theorem dL_law_4 : decode cL_law 4 = .ok (.invokespecial 74, 3) := by decide +kernel
theorem dL_law_7 : decode cL_law 7 = .ok (.astore_n 1, 1) := by decide +kernel
theorem dL_law_8 : decode cL_law 8 = .ok (.iconst 1, 1) := by decide +kernel
theorem dL_law_9 : decode cL_law 9 = .ok (.istore_n 2, 1) := by decide +kernel
theorem dL_law_10 : decode cL_law 10 = .ok (.aload_n 0, 1) := by decide +kernel
theorem dL_law_11 : decode cL_law 11 = .ok (.arraylength, 1) := by decide +kernel
theorem dL_law_12 : decode cL_law 12 = .ok (.iconst 3, 1) := by decide +kernel
theorem dL_law_13 : decode cL_law 13 = .ok (.idiv, 1) := by decide +kernel
theorem dL_law_14 : decode cL_law 14 = .ok (.bipush 40, 2) := by decide +kernel
theorem dL_law_16 : decode cL_law 16 = .ok (.if_icmp .le 8, 3) := by decide +kernel
theorem dL_law_19 : decode cL_law 19 = .ok (.bipush 40, 2) := by decide +kernel
theorem dL_law_21 : decode cL_law 21 = .ok (.goto 7, 3) := by decide +kernel
theorem dL_law_24 : decode cL_law 24 = .ok (.aload_n 0, 1) := by decide +kernel
theorem dL_law_25 : decode cL_law 25 = .ok (.arraylength, 1) := by decide +kernel
theorem dL_law_26 : decode cL_law 26 = .ok (.iconst 3, 1) := by decide +kernel
theorem dL_law_27 : decode cL_law 27 = .ok (.idiv, 1) := by decide +kernel
theorem dL_law_28 : decode cL_law 28 = .ok (.istore_n 3, 1) := by decide +kernel
theorem dL_law_29 : decode cL_law 29 = .ok (.iconst 0, 1) := by decide +kernel
theorem dL_law_30 : decode cL_law 30 = .ok (.istore 4, 2) := by decide +kernel
theorem dL_law_32 : decode cL_law 32 = .ok (.iload 4, 2) := by decide +kernel
theorem dL_law_34 : decode cL_law 34 = .ok (.iload_n 3, 1) := by decide +kernel
theorem dL_law_35 : decode cL_law 35 = .ok (.if_icmp .ge 403, 3) := by decide +kernel
theorem dL_law_38 : decode cL_law 38 = .ok (.iload_n 2, 1) := by decide +kernel
theorem dL_law_39 : decode cL_law 39 = .ok (.ifCond .eq 399, 3) := by decide +kernel
theorem dL_law_42 : decode cL_law 42 = .ok (.aload_n 1, 1) := by decide +kernel
theorem dL_law_43 : decode cL_law 43 = .ok (.iconst 4, 1) := by decide +kernel
theorem dL_law_44 : decode cL_law 44 = .ok (.invokevirtual 18, 3) := by decide +kernel
theorem dL_law_47 : decode cL_law 47 = .ok (.istore 5, 2) := by decide +kernel
theorem dL_law_49 : decode cL_law 49 = .ok (.aload_n 1, 1) := by decide +kernel
theorem dL_law_50 : decode cL_law 50 = .ok (.iconst 0, 1) := by decide +kernel
theorem dL_law_51 : decode cL_law 51 = .ok (.invokevirtual 18, 3) := by decide +kernel
theorem dL_law_54 : decode cL_law 54 = .ok (.istore 6, 2) := by decide +kernel
theorem dL_law_56 : decode cL_law 56 = .ok (.aload_n 0, 1) := by decide +kernel
theorem dL_law_57 : decode cL_law 57 = .ok (.iconst 3, 1) := by decide +kernel
theorem dL_law_58 : decode cL_law 58 = .ok (.iload 4, 2) := by decide +kernel
theorem dL_law_60 : decode cL_law 60 = .ok (.imul, 1) := by decide +kernel
theorem dL_law_61 : decode cL_law 61 = .ok (.invokestatic 45, 3) := by decide +kernel
theorem dL_law_64 : decode cL_law 64 = .ok (.bipush 16, 2) := by decide +kernel
theorem dL_law_66 : decode cL_law 66 = .ok (.invokestatic 49, 3) := by decide +kernel
theorem dL_law_69 : decode cL_law 69 = .ok (.istore 7, 2) := by decide +kernel
theorem dL_law_71 : decode cL_law 71 = .ok (.aload_n 0, 1) := by decide +kernel
theorem dL_law_72 : decode cL_law 72 = .ok (.iconst 3, 1) := by decide +kernel
theorem dL_law_73 : decode cL_law 73 = .ok (.iload 4, 2) := by decide +kernel
theorem dL_law_75 : decode cL_law 75 = .ok (.imul, 1) := by decide +kernel
theorem dL_law_76 : decode cL_law 76 = .ok (.iconst 1, 1) := by decide +kernel
theorem dL_law_77 : decode cL_law 77 = .ok (.iadd, 1) := by decide +kernel
theorem dL_law_78 : decode cL_law 78 = .ok (.invokestatic 45, 3) := by decide +kernel
theorem dL_law_81 : decode cL_law 81 = .ok (.bipush 6, 2) := by decide +kernel
theorem dL_law_83 : decode cL_law 83 = .ok (.invokestatic 49, 3) := by decide +kernel
theorem dL_law_86 : decode cL_law 86 = .ok (.istore 8, 2) := by decide +kernel
theorem dL_law_88 : decode cL_law 88 = .ok (.iconst 1, 1) := by decide +kernel
theorem dL_law_89 : decode cL_law 89 = .ok (.aload_n 0, 1) := by decide +kernel
theorem dL_law_90 : decode cL_law 90 = .ok (.iconst 3, 1) := by decide +kernel
theorem dL_law_91 : decode cL_law 91 = .ok (.iload 4, 2) := by decide +kernel
theorem dL_law_93 : decode cL_law 93 = .ok (.imul, 1) := by decide +kernel
theorem dL_law_94 : decode cL_law 94 = .ok (.iconst 2, 1) := by decide +kernel
theorem dL_law_95 : decode cL_law 95 = .ok (.iadd, 1) := by decide +kernel
theorem dL_law_96 : decode cL_law 96 = .ok (.invokestatic 45, 3) := by decide +kernel
theorem dL_law_99 : decode cL_law 99 = .ok (.bipush 12, 2) := by decide +kernel
theorem dL_law_101 : decode cL_law 101 = .ok (.invokestatic 49, 3) := by decide +kernel
theorem dL_law_104 : decode cL_law 104 = .ok (.iadd, 1) := by decide +kernel
theorem dL_law_105 : decode cL_law 105 = .ok (.istore 9, 2) := by decide +kernel
theorem dL_law_107 : decode cL_law 107 = .ok (.aload_n 1, 1) := by decide +kernel
theorem dL_law_108 : decode cL_law 108 = .ok (.iload 8, 2) := by decide +kernel
theorem dL_law_110 : decode cL_law 110 = .ok (.iload 9, 2) := by decide +kernel
theorem dL_law_112 : decode cL_law 112 = .ok (.iconst 0, 1) := by decide +kernel
theorem dL_law_113 : decode cL_law 113 = .ok (.invokevirtual 75, 3) := by decide +kernel
theorem dL_law_116 : decode cL_law 116 = .ok (.istore 10, 2) := by decide +kernel
theorem dL_law_118 : decode cL_law 118 = .ok (.aload_n 1, 1) := by decide +kernel
theorem dL_law_119 : decode cL_law 119 = .ok (.iload 8, 2) := by decide +kernel
theorem dL_law_121 : decode cL_law 121 = .ok (.iload 9, 2) := by decide +kernel
theorem dL_law_123 : decode cL_law 123 = .ok (.iconst 1, 1) := by decide +kernel
theorem dL_law_124 : decode cL_law 124 = .ok (.invokevirtual 75, 3) := by decide +kernel
theorem dL_law_127 : decode cL_law 127 = .ok (.istore 11, 2) := by decide +kernel
theorem dL_law_129 : decode cL_law 129 = .ok (.aload_n 1, 1) := by decide +kernel
theorem dL_law_130 : decode cL_law 130 = .ok (.iconst 0, 1) := by decide +kernel
theorem dL_law_131 : decode cL_law 131 = .ok (.iconst 0, 1) := by decide +kernel
theorem dL_law_132 : decode cL_law 132 = .ok (.invokevirtual 22, 3) := by decide +kernel
theorem dL_law_135 : decode cL_law 135 = .ok (.istore 12, 2) := by decide +kernel
theorem dL_law_137 : decode cL_law 137 = .ok (.aload_n 1, 1) := by decide +kernel
theorem dL_law_138 : decode cL_law 138 = .ok (.iconst 3, 1) := by decide +kernel
theorem dL_law_139 : decode cL_law 139 = .ok (.invokevirtual 18, 3) := by decide +kernel
theorem dL_law_142 : decode cL_law 142 = .ok (.istore 13, 2) := by decide +kernel
theorem dL_law_144 : decode cL_law 144 = .ok (.aload_n 1, 1) := by decide +kernel
theorem dL_law_145 : decode cL_law 145 = .ok (.iload 8, 2) := by decide +kernel
theorem dL_law_147 : decode cL_law 147 = .ok (.bipush 100, 2) := by decide +kernel
theorem dL_law_149 : decode cL_law 149 = .ok (.invokevirtual 78, 3) := by decide +kernel
theorem dL_law_152 : decode cL_law 152 = .ok (.ifCond .le 7, 3) := by decide +kernel
theorem dL_law_155 : decode cL_law 155 = .ok (.iconst 1, 1) := by decide +kernel
theorem dL_law_156 : decode cL_law 156 = .ok (.goto 4, 3) := by decide +kernel
theorem dL_law_159 : decode cL_law 159 = .ok (.iconst 0, 1) := by decide +kernel
theorem dL_law_160 : decode cL_law 160 = .ok (.istore 14, 2) := by decide +kernel
theorem dL_law_162 : decode cL_law 162 = .ok (.aload_n 1, 1) := by decide +kernel
theorem dL_law_163 : decode cL_law 163 = .ok (.iload 8, 2) := by decide +kernel
theorem dL_law_165 : decode cL_law 165 = .ok (.iconst 5, 1) := by decide +kernel
theorem dL_law_166 : decode cL_law 166 = .ok (.invokevirtual 33, 3) := by decide +kernel
theorem dL_law_169 : decode cL_law 169 = .ok (.bipush 100, 2) := by decide +kernel
theorem dL_law_171 : decode cL_law 171 = .ok (.if_icmp .gt 7, 3) := by decide +kernel
theorem dL_law_174 : decode cL_law 174 = .ok (.iconst 1, 1) := by decide +kernel
theorem dL_law_175 : decode cL_law 175 = .ok (.goto 4, 3) := by decide +kernel
theorem dL_law_178 : decode cL_law 178 = .ok (.iconst 0, 1) := by decide +kernel
theorem dL_law_179 : decode cL_law 179 = .ok (.istore 15, 2) := by decide +kernel
theorem dL_law_181 : decode cL_law 181 = .ok (.aload_n 1, 1) := by decide +kernel
theorem dL_law_182 : decode cL_law 182 = .ok (.aload_n 0, 1) := by decide +kernel
theorem dL_law_183 : decode cL_law 183 = .ok (.iconst 3, 1) := by decide +kernel
theorem dL_law_184 : decode cL_law 184 = .ok (.iload 4, 2) := by decide +kernel
theorem dL_law_186 : decode cL_law 186 = .ok (.imul, 1) := by decide +kernel
theorem dL_law_187 : decode cL_law 187 = .ok (.invokestatic 81, 3) := by decide +kernel
theorem dL_law_190 : decode cL_law 190 = .ok (.istore 16, 2) := by decide +kernel
theorem dL_law_192 : decode cL_law 192 = .ok (.iload 14, 2) := by decide +kernel
theorem dL_law_194 : decode cL_law 194 = .ok (.iload 15, 2) := by decide +kernel
theorem dL_law_196 : decode cL_law 196 = .ok (.if_icmp .ne 43, 3) := by decide +kernel
theorem dL_law_199 : decode cL_law 199 = .ok (.iload 16, 2) := by decide +kernel
theorem dL_law_201 : decode cL_law 201 = .ok (.ifCond .ge 34, 3) := by decide +kernel
theorem dL_law_204 : decode cL_law 204 = .ok (.aload_n 1, 1) := by decide +kernel
theorem dL_law_205 : decode cL_law 205 = .ok (.iconst 4, 1) := by decide +kernel
theorem dL_law_206 : decode cL_law 206 = .ok (.invokevirtual 18, 3) := by decide +kernel
theorem dL_law_209 : decode cL_law 209 = .ok (.iload 5, 2) := by decide +kernel
theorem dL_law_211 : decode cL_law 211 = .ok (.if_icmp .ne 28, 3) := by decide +kernel
theorem dL_law_214 : decode cL_law 214 = .ok (.aload_n 1, 1) := by decide +kernel
theorem dL_law_215 : decode cL_law 215 = .ok (.iconst 0, 1) := by decide +kernel
theorem dL_law_216 : decode cL_law 216 = .ok (.invokevirtual 18, 3) := by decide +kernel
theorem dL_law_219 : decode cL_law 219 = .ok (.iload 6, 2) := by decide +kernel
theorem dL_law_221 : decode cL_law 221 = .ok (.if_icmp .ne 18, 3) := by decide +kernel
theorem dL_law_224 : decode cL_law 224 = .ok (.aload_n 1, 1) := by decide +kernel
theorem dL_law_225 : decode cL_law 225 = .ok (.iconst 0, 1) := by decide +kernel
theorem dL_law_226 : decode cL_law 226 = .ok (.iconst 0, 1) := by decide +kernel
theorem dL_law_227 : decode cL_law 227 = .ok (.invokevirtual 22, 3) := by decide +kernel
theorem dL_law_230 : decode cL_law 230 = .ok (.iload 12, 2) := by decide +kernel
theorem dL_law_232 : decode cL_law 232 = .ok (.if_icmp .ne 7, 3) := by decide +kernel
theorem dL_law_235 : decode cL_law 235 = .ok (.iconst 1, 1) := by decide +kernel
theorem dL_law_236 : decode cL_law 236 = .ok (.goto 4, 3) := by decide +kernel
theorem dL_law_239 : decode cL_law 239 = .ok (.iconst 0, 1) := by decide +kernel
theorem dL_law_240 : decode cL_law 240 = .ok (.istore_n 2, 1) := by decide +kernel
theorem dL_law_241 : decode cL_law 241 = .ok (.iload_n 2, 1) := by decide +kernel
theorem dL_law_242 : decode cL_law 242 = .ok (.ifCond .eq 107, 3) := by decide +kernel
theorem dL_law_245 : decode cL_law 245 = .ok (.iload 7, 2) := by decide +kernel
theorem dL_law_247 : decode cL_law 247 = .ok (.bipush 10, 2) := by decide +kernel
theorem dL_law_249 : decode cL_law 249 = .ok (.if_icmp .lt 68, 3) := by decide +kernel
theorem dL_law_252 : decode cL_law 252 = .ok (.iload 7, 2) := by decide +kernel
theorem dL_law_254 : decode cL_law 254 = .ok (.bipush 13, 2) := by decide +kernel
theorem dL_law_256 : decode cL_law 256 = .ok (.if_icmp .gt 61, 3) := by decide +kernel
theorem dL_law_259 : decode cL_law 259 = .ok (.iload 16, 2) := by decide +kernel
theorem dL_law_261 : decode cL_law 261 = .ok (.iload 10, 2) := by decide +kernel
theorem dL_law_263 : decode cL_law 263 = .ok (.if_icmp .ne 86, 3) := by decide +kernel
theorem dL_law_266 : decode cL_law 266 = .ok (.aload_n 1, 1) := by decide +kernel
theorem dL_law_267 : decode cL_law 267 = .ok (.iconst 0, 1) := by decide +kernel
theorem dL_law_268 : decode cL_law 268 = .ok (.iconst 0, 1) := by decide +kernel
theorem dL_law_269 : decode cL_law 269 = .ok (.invokevirtual 22, 3) := by decide +kernel
theorem dL_law_272 : decode cL_law 272 = .ok (.iload 11, 2) := by decide +kernel
theorem dL_law_274 : decode cL_law 274 = .ok (.if_icmp .ne 75, 3) := by decide +kernel
theorem dL_law_277 : decode cL_law 277 = .ok (.iload 11, 2) := by decide +kernel
theorem dL_law_279 : decode cL_law 279 = .ok (.iload 12, 2) := by decide +kernel
theorem dL_law_281 : decode cL_law 281 = .ok (.if_icmp .gt 68, 3) := by decide +kernel
theorem dL_law_284 : decode cL_law 284 = .ok (.aload_n 1, 1) := by decide +kernel
theorem dL_law_285 : decode cL_law 285 = .ok (.iconst 0, 1) := by decide +kernel
theorem dL_law_286 : decode cL_law 286 = .ok (.invokevirtual 18, 3) := by decide +kernel
theorem dL_law_289 : decode cL_law 289 = .ok (.iload 6, 2) := by decide +kernel
theorem dL_law_291 : decode cL_law 291 = .ok (.iload 9, 2) := by decide +kernel
theorem dL_law_293 : decode cL_law 293 = .ok (.iadd, 1) := by decide +kernel
theorem dL_law_294 : decode cL_law 294 = .ok (.if_icmp .ne 55, 3) := by decide +kernel
theorem dL_law_297 : decode cL_law 297 = .ok (.aload_n 1, 1) := by decide +kernel
theorem dL_law_298 : decode cL_law 298 = .ok (.iconst 3, 1) := by decide +kernel
theorem dL_law_299 : decode cL_law 299 = .ok (.invokevirtual 18, 3) := by decide +kernel
theorem dL_law_302 : decode cL_law 302 = .ok (.iload 10, 2) := by decide +kernel
theorem dL_law_304 : decode cL_law 304 = .ok (.if_icmp .lt 45, 3) := by decide +kernel
theorem dL_law_307 : decode cL_law 307 = .ok (.aload_n 1, 1) := by decide +kernel
theorem dL_law_308 : decode cL_law 308 = .ok (.iconst 3, 1) := by decide +kernel
theorem dL_law_309 : decode cL_law 309 = .ok (.invokevirtual 18, 3) := by decide +kernel
theorem dL_law_312 : decode cL_law 312 = .ok (.iload 13, 2) := by decide +kernel
theorem dL_law_314 : decode cL_law 314 = .ok (.if_icmp .lt 35, 3) := by decide +kernel
theorem dL_law_317 : decode cL_law 317 = .ok (.iload 7, 2) := by decide +kernel
theorem dL_law_319 : decode cL_law 319 = .ok (.iconst 5, 1) := by decide +kernel
theorem dL_law_320 : decode cL_law 320 = .ok (.if_icmp .ne 25, 3) := by decide +kernel
theorem dL_law_323 : decode cL_law 323 = .ok (.aload_n 1, 1) := by decide +kernel
theorem dL_law_324 : decode cL_law 324 = .ok (.aload_n 0, 1) := by decide +kernel
theorem dL_law_325 : decode cL_law 325 = .ok (.iconst 3, 1) := by decide +kernel
theorem dL_law_326 : decode cL_law 326 = .ok (.iload 4, 2) := by decide +kernel
theorem dL_law_328 : decode cL_law 328 = .ok (.imul, 1) := by decide +kernel
theorem dL_law_329 : decode cL_law 329 = .ok (.iconst 1, 1) := by decide +kernel
theorem dL_law_330 : decode cL_law 330 = .ok (.iadd, 1) := by decide +kernel
theorem dL_law_331 : decode cL_law 331 = .ok (.invokestatic 45, 3) := by decide +kernel
theorem dL_law_334 : decode cL_law 334 = .ok (.iconst 2, 1) := by decide +kernel
theorem dL_law_335 : decode cL_law 335 = .ok (.invokestatic 49, 3) := by decide +kernel
theorem dL_law_338 : decode cL_law 338 = .ok (.iconst 1, 1) := by decide +kernel
theorem dL_law_339 : decode cL_law 339 = .ok (.invokevirtual 22, 3) := by decide +kernel
theorem dL_law_342 : decode cL_law 342 = .ok (.ifCond .ne 7, 3) := by decide +kernel
theorem dL_law_345 : decode cL_law 345 = .ok (.iconst 1, 1) := by decide +kernel
theorem dL_law_346 : decode cL_law 346 = .ok (.goto 4, 3) := by decide +kernel
theorem dL_law_349 : decode cL_law 349 = .ok (.iconst 0, 1) := by decide +kernel
theorem dL_law_350 : decode cL_law 350 = .ok (.istore_n 2, 1) := by decide +kernel
theorem dL_law_351 : decode cL_law 351 = .ok (.iconst 0, 1) := by decide +kernel
theorem dL_law_352 : decode cL_law 352 = .ok (.istore 17, 2) := by decide +kernel
theorem dL_law_354 : decode cL_law 354 = .ok (.iconst 0, 1) := by decide +kernel
theorem dL_law_355 : decode cL_law 355 = .ok (.istore 18, 2) := by decide +kernel
theorem dL_law_357 : decode cL_law 357 = .ok (.iload 18, 2) := by decide +kernel
theorem dL_law_359 : decode cL_law 359 = .ok (.bipush 6, 2) := by decide +kernel
theorem dL_law_361 : decode cL_law 361 = .ok (.if_icmp .ge 22, 3) := by decide +kernel
theorem dL_law_364 : decode cL_law 364 = .ok (.iload 17, 2) := by decide +kernel
theorem dL_law_366 : decode cL_law 366 = .ok (.aload_n 1, 1) := by decide +kernel
theorem dL_law_367 : decode cL_law 367 = .ok (.iload 18, 2) := by decide +kernel
theorem dL_law_369 : decode cL_law 369 = .ok (.bipush 8, 2) := by decide +kernel
theorem dL_law_371 : decode cL_law 371 = .ok (.invokevirtual 33, 3) := by decide +kernel
theorem dL_law_374 : decode cL_law 374 = .ok (.iadd, 1) := by decide +kernel
theorem dL_law_375 : decode cL_law 375 = .ok (.istore 17, 2) := by decide +kernel
theorem dL_law_377 : decode cL_law 377 = .ok (.iinc 18 1, 3) := by decide +kernel
theorem dL_law_380 : decode cL_law 380 = .ok (.goto (-23), 3) := by decide +kernel
theorem dL_law_383 : decode cL_law 383 = .ok (.iload_n 2, 1) := by decide +kernel
theorem dL_law_384 : decode cL_law 384 = .ok (.ifCond .eq 46, 3) := by decide +kernel
theorem dL_law_387 : decode cL_law 387 = .ok (.iload 17, 2) := by decide +kernel
theorem dL_law_389 : decode cL_law 389 = .ok (.aload_n 1, 1) := by decide +kernel
theorem dL_law_390 : decode cL_law 390 = .ok (.iconst 0, 1) := by decide +kernel
theorem dL_law_391 : decode cL_law 391 = .ok (.invokevirtual 18, 3) := by decide +kernel
theorem dL_law_394 : decode cL_law 394 = .ok (.if_icmp .ne 36, 3) := by decide +kernel
theorem dL_law_397 : decode cL_law 397 = .ok (.aload_n 1, 1) := by decide +kernel
theorem dL_law_398 : decode cL_law 398 = .ok (.iconst 0, 1) := by decide +kernel
theorem dL_law_399 : decode cL_law 399 = .ok (.iconst 0, 1) := by decide +kernel
theorem dL_law_400 : decode cL_law 400 = .ok (.invokevirtual 22, 3) := by decide +kernel
theorem dL_law_403 : decode cL_law 403 = .ok (.iconst 1, 1) := by decide +kernel
theorem dL_law_404 : decode cL_law 404 = .ok (.if_icmp .lt 26, 3) := by decide +kernel
theorem dL_law_407 : decode cL_law 407 = .ok (.aload_n 1, 1) := by decide +kernel
theorem dL_law_408 : decode cL_law 408 = .ok (.iconst 1, 1) := by decide +kernel
theorem dL_law_409 : decode cL_law 409 = .ok (.iconst 0, 1) := by decide +kernel
theorem dL_law_410 : decode cL_law 410 = .ok (.invokevirtual 22, 3) := by decide +kernel
theorem dL_law_413 : decode cL_law 413 = .ok (.iconst 1, 1) := by decide +kernel
theorem dL_law_414 : decode cL_law 414 = .ok (.if_icmp .lt 16, 3) := by decide +kernel
theorem dL_law_417 : decode cL_law 417 = .ok (.aload_n 1, 1) := by decide +kernel
theorem dL_law_418 : decode cL_law 418 = .ok (.iload 8, 2) := by decide +kernel
theorem dL_law_420 : decode cL_law 420 = .ok (.invokestatic 85, 3) := by decide +kernel
theorem dL_law_423 : decode cL_law 423 = .ok (.ifCond .eq 7, 3) := by decide +kernel
theorem dL_law_426 : decode cL_law 426 = .ok (.iconst 1, 1) := by decide +kernel
theorem dL_law_427 : decode cL_law 427 = .ok (.goto 4, 3) := by decide +kernel
theorem dL_law_430 : decode cL_law 430 = .ok (.iconst 0, 1) := by decide +kernel
theorem dL_law_431 : decode cL_law 431 = .ok (.istore_n 2, 1) := by decide +kernel
theorem dL_law_432 : decode cL_law 432 = .ok (.iinc 4 1, 3) := by decide +kernel
theorem dL_law_435 : decode cL_law 435 = .ok (.goto (-403), 3) := by decide +kernel
theorem dL_law_438 : decode cL_law 438 = .ok (.iload_n 2, 1) := by decide +kernel
theorem dL_law_439 : decode cL_law 439 = .ok (.ireturn, 1) := by decide +kernel
abbrev LwT : Type := BoT × ShT × ShT × ExT × (Nat → ShT) × Int32 × Int32 × Int32
abbrev LwE : Type := BoT × ShT × ShT × ExT × (Nat → ShT)
def fL_law_l357 (L : Nat) (xs : Nat → Int32) (K32 : (BoT × ShT × ShT × ExT × (Nat → ShT) × Int32 × Int32 × Int32) → Option Bool) (K357 : (BoT × ShT × ShT × ExT × (Nat → ShT) × Int32 × Int32 × Int32 × Int32 × Int32 × Int32) → Option Bool) (v357 : BoT × ShT × ShT × ExT × (Nat → ShT) × Int32 × Int32 × Int32 × Int32 × Int32 × Int32) : Option Bool := (if 6 ≤ v357.2.2.2.2.2.2.2.2.2.2 then (if v357.2.2.2.2.2.1 = 0 then K32 (v357.1, v357.2.1, v357.2.2.1, v357.2.2.2.1, v357.2.2.2.2.1, 0, v357.2.2.2.2.2.2.1, v357.2.2.2.2.2.2.2.1 + 1) else tq (fX2_count v357.1 v357.2.1 0) (fun r50 => (if v357.2.2.2.2.2.2.2.2.2.1 = r50 then tq (fX2_curtain v357.1 v357.2.1 0 0) (fun r52 => (if r52 < 1 then K32 (v357.1, v357.2.1, v357.2.2.1, v357.2.2.2.1, v357.2.2.2.2.1, 0, v357.2.2.2.2.2.2.1, v357.2.2.2.2.2.2.2.1 + 1) else tq (fX2_curtain v357.1 v357.2.1 1 0) (fun r54 => (if r54 < 1 then K32 (v357.1, v357.2.1, v357.2.2.1, v357.2.2.2.1, v357.2.2.2.2.1, 0, v357.2.2.2.2.2.2.1, v357.2.2.2.2.2.2.2.1 + 1) else (fL_light v357.1 v357.2.1 v357.2.2.2.1 v357.2.2.2.2.2.2.2.2.1).bind (fun r56 => (if (b2i r56.1) = 0 then K32 (v357.1, v357.2.1, v357.2.2.1, r56.2, v357.2.2.2.2.1, 0, v357.2.2.2.2.2.2.1, v357.2.2.2.2.2.2.2.1 + 1) else K32 (v357.1, v357.2.1, v357.2.2.1, r56.2, v357.2.2.2.2.1, 1, v357.2.2.2.2.2.2.1, v357.2.2.2.2.2.2.2.1 + 1))))))) else K32 (v357.1, v357.2.1, v357.2.2.1, v357.2.2.2.1, v357.2.2.2.2.1, 0, v357.2.2.2.2.2.2.1, v357.2.2.2.2.2.2.2.1 + 1)))) else tq (fX2_speed v357.1 v357.2.1 v357.2.2.2.1 v357.2.2.2.2.2.2.2.2.2.2 8) (fun r58 => K357 (v357.1, v357.2.1, v357.2.2.1, r58.2, v357.2.2.2.2.1, v357.2.2.2.2.2.1, v357.2.2.2.2.2.2.1, v357.2.2.2.2.2.2.2.1, v357.2.2.2.2.2.2.2.2.1, v357.2.2.2.2.2.2.2.2.2.1 + r58.1, v357.2.2.2.2.2.2.2.2.2.2 + 1)))
def fL_law_j317 (L : Nat) (xs : Nat → Int32) (K32 : (BoT × ShT × ShT × ExT × (Nat → ShT) × Int32 × Int32 × Int32) → Option Bool) (v317 : BoT × ShT × ShT × ExT × (Nat → ShT) × Int32 × Int32 × Int32 × Int32) : Option Bool := (if v317.2.2.2.2.2.2.2.1 = 5 then (fL_cell L xs ((3 * v317.2.2.2.2.2.2.1) + 1)).bind (fun r44 => (fL_low r44 2).bind (fun r45 => tq (fX2_curtain v317.1 v317.2.1 r45 1) (fun r46 => (if r46 = 0 then lp (fL_law_l357 L xs K32) 2000 (v317.1, v317.2.1, v317.2.2.1, v317.2.2.2.1, v317.2.2.2.2.1, 1, v317.2.2.2.2.2.1, v317.2.2.2.2.2.2.1, v317.2.2.2.2.2.2.2.2, 0, 0) else lp (fL_law_l357 L xs K32) 2000 (v317.1, v317.2.1, v317.2.2.1, v317.2.2.2.1, v317.2.2.2.2.1, 0, v317.2.2.2.2.2.1, v317.2.2.2.2.2.2.1, v317.2.2.2.2.2.2.2.2, 0, 0))))) else lp (fL_law_l357 L xs K32) 2000 (v317.1, v317.2.1, v317.2.2.1, v317.2.2.2.1, v317.2.2.2.2.1, 1, v317.2.2.2.2.2.1, v317.2.2.2.2.2.2.1, v317.2.2.2.2.2.2.2.2, 0, 0))
def fL_law_j240 (L : Nat) (xs : Nat → Int32) (K32 : (BoT × ShT × ShT × ExT × (Nat → ShT) × Int32 × Int32 × Int32) → Option Bool) (v240 : BoT × ShT × ShT × ExT × (Nat → ShT) × Int32 × Int32 × Int32 × Int32 × Int32 × Int32 × Int32 × Int32 × Int32 × Int32 × Int32 × Int32) : Option Bool := (if v240.2.2.2.2.2.2.2.2.2.2.2.2.2.2.2.2 = 0 then lp (fL_law_l357 L xs K32) 2000 (v240.1, v240.2.1, v240.2.2.1, v240.2.2.2.1, v240.2.2.2.2.1, 0, v240.2.2.2.2.2.1, v240.2.2.2.2.2.2.1, v240.2.2.2.2.2.2.2.2.2.1, 0, 0) else (if v240.2.2.2.2.2.2.2.2.1 < 10 then fL_law_j317 L xs K32 (v240.1, v240.2.1, v240.2.2.1, v240.2.2.2.1, v240.2.2.2.2.1, v240.2.2.2.2.2.1, v240.2.2.2.2.2.2.1, v240.2.2.2.2.2.2.2.2.1, v240.2.2.2.2.2.2.2.2.2.1) else (if 13 < v240.2.2.2.2.2.2.2.2.1 then fL_law_j317 L xs K32 (v240.1, v240.2.1, v240.2.2.1, v240.2.2.2.1, v240.2.2.2.2.1, v240.2.2.2.2.2.1, v240.2.2.2.2.2.2.1, v240.2.2.2.2.2.2.2.2.1, v240.2.2.2.2.2.2.2.2.2.1) else (if v240.2.2.2.2.2.2.2.2.2.2.2.2.2.2.2.1 = v240.2.2.2.2.2.2.2.2.2.2.2.1 then tq (fX2_curtain v240.1 v240.2.1 0 0) (fun r34 => (if r34 = v240.2.2.2.2.2.2.2.2.2.2.2.2.1 then (if v240.2.2.2.2.2.2.2.2.2.2.2.2.2.1 < v240.2.2.2.2.2.2.2.2.2.2.2.2.1 then lp (fL_law_l357 L xs K32) 2000 (v240.1, v240.2.1, v240.2.2.1, v240.2.2.2.1, v240.2.2.2.2.1, 0, v240.2.2.2.2.2.1, v240.2.2.2.2.2.2.1, v240.2.2.2.2.2.2.2.2.2.1, 0, 0) else tq (fX2_count v240.1 v240.2.1 0) (fun r37 => (if r37 = (v240.2.2.2.2.2.2.2.1 + v240.2.2.2.2.2.2.2.2.2.2.1) then tq (fX2_count v240.1 v240.2.1 3) (fun r39 => (if r39 < v240.2.2.2.2.2.2.2.2.2.2.2.1 then lp (fL_law_l357 L xs K32) 2000 (v240.1, v240.2.1, v240.2.2.1, v240.2.2.2.1, v240.2.2.2.2.1, 0, v240.2.2.2.2.2.1, v240.2.2.2.2.2.2.1, v240.2.2.2.2.2.2.2.2.2.1, 0, 0) else tq (fX2_count v240.1 v240.2.1 3) (fun r41 => (if r41 < v240.2.2.2.2.2.2.2.2.2.2.2.2.2.2.1 then lp (fL_law_l357 L xs K32) 2000 (v240.1, v240.2.1, v240.2.2.1, v240.2.2.2.1, v240.2.2.2.2.1, 0, v240.2.2.2.2.2.1, v240.2.2.2.2.2.2.1, v240.2.2.2.2.2.2.2.2.2.1, 0, 0) else fL_law_j317 L xs K32 (v240.1, v240.2.1, v240.2.2.1, v240.2.2.2.1, v240.2.2.2.2.1, v240.2.2.2.2.2.1, v240.2.2.2.2.2.2.1, v240.2.2.2.2.2.2.2.2.1, v240.2.2.2.2.2.2.2.2.2.1))))) else lp (fL_law_l357 L xs K32) 2000 (v240.1, v240.2.1, v240.2.2.1, v240.2.2.2.1, v240.2.2.2.2.1, 0, v240.2.2.2.2.2.1, v240.2.2.2.2.2.2.1, v240.2.2.2.2.2.2.2.2.2.1, 0, 0)))) else lp (fL_law_l357 L xs K32) 2000 (v240.1, v240.2.1, v240.2.2.1, v240.2.2.2.1, v240.2.2.2.2.1, 0, v240.2.2.2.2.2.1, v240.2.2.2.2.2.2.1, v240.2.2.2.2.2.2.2.2.2.1, 0, 0))) else lp (fL_law_l357 L xs K32) 2000 (v240.1, v240.2.1, v240.2.2.1, v240.2.2.2.1, v240.2.2.2.2.1, 0, v240.2.2.2.2.2.1, v240.2.2.2.2.2.2.1, v240.2.2.2.2.2.2.2.2.2.1, 0, 0)))))
def fL_law_j179 (L : Nat) (xs : Nat → Int32) (K32 : (BoT × ShT × ShT × ExT × (Nat → ShT) × Int32 × Int32 × Int32) → Option Bool) (v179 : BoT × ShT × ShT × ExT × (Nat → ShT) × Int32 × Int32 × Int32 × Int32 × Int32 × Int32 × Int32 × Int32 × Int32 × Int32 × Int32 × Int32 × Int32) : Option Bool := (fL_act L xs v179.1 v179.2.1 v179.2.2.2.1 v179.2.2.2.2.1 (3 * v179.2.2.2.2.2.2.1)).bind (fun r21 => (if v179.2.2.2.2.2.2.2.2.2.2.2.2.2.2.2.2.1 = v179.2.2.2.2.2.2.2.2.2.2.2.2.2.2.2.2.2 then (if 0 ≤ r21.1 then fL_law_j240 L xs K32 (r21.2.1, r21.2.2.1, v179.2.2.1, r21.2.2.2.1, r21.2.2.2.2, v179.2.2.2.2.2.1, v179.2.2.2.2.2.2.1, v179.2.2.2.2.2.2.2.2.1, v179.2.2.2.2.2.2.2.2.2.1, v179.2.2.2.2.2.2.2.2.2.2.1, v179.2.2.2.2.2.2.2.2.2.2.2.1, v179.2.2.2.2.2.2.2.2.2.2.2.2.1, v179.2.2.2.2.2.2.2.2.2.2.2.2.2.1, v179.2.2.2.2.2.2.2.2.2.2.2.2.2.2.1, v179.2.2.2.2.2.2.2.2.2.2.2.2.2.2.2.1, r21.1, 1) else tq (fX2_count r21.2.1 r21.2.2.1 4) (fun r24 => (if r24 = v179.2.2.2.2.2.2.2.1 then tq (fX2_count r21.2.1 r21.2.2.1 0) (fun r26 => (if r26 = v179.2.2.2.2.2.2.2.2.1 then tq (fX2_curtain r21.2.1 r21.2.2.1 0 0) (fun r28 => (if r28 = v179.2.2.2.2.2.2.2.2.2.2.2.2.2.2.1 then fL_law_j240 L xs K32 (r21.2.1, r21.2.2.1, v179.2.2.1, r21.2.2.2.1, r21.2.2.2.2, v179.2.2.2.2.2.1, v179.2.2.2.2.2.2.1, v179.2.2.2.2.2.2.2.2.1, v179.2.2.2.2.2.2.2.2.2.1, v179.2.2.2.2.2.2.2.2.2.2.1, v179.2.2.2.2.2.2.2.2.2.2.2.1, v179.2.2.2.2.2.2.2.2.2.2.2.2.1, v179.2.2.2.2.2.2.2.2.2.2.2.2.2.1, v179.2.2.2.2.2.2.2.2.2.2.2.2.2.2.1, v179.2.2.2.2.2.2.2.2.2.2.2.2.2.2.2.1, r21.1, 1) else fL_law_j240 L xs K32 (r21.2.1, r21.2.2.1, v179.2.2.1, r21.2.2.2.1, r21.2.2.2.2, v179.2.2.2.2.2.1, v179.2.2.2.2.2.2.1, v179.2.2.2.2.2.2.2.2.1, v179.2.2.2.2.2.2.2.2.2.1, v179.2.2.2.2.2.2.2.2.2.2.1, v179.2.2.2.2.2.2.2.2.2.2.2.1, v179.2.2.2.2.2.2.2.2.2.2.2.2.1, v179.2.2.2.2.2.2.2.2.2.2.2.2.2.1, v179.2.2.2.2.2.2.2.2.2.2.2.2.2.2.1, v179.2.2.2.2.2.2.2.2.2.2.2.2.2.2.2.1, r21.1, 0))) else fL_law_j240 L xs K32 (r21.2.1, r21.2.2.1, v179.2.2.1, r21.2.2.2.1, r21.2.2.2.2, v179.2.2.2.2.2.1, v179.2.2.2.2.2.2.1, v179.2.2.2.2.2.2.2.2.1, v179.2.2.2.2.2.2.2.2.2.1, v179.2.2.2.2.2.2.2.2.2.2.1, v179.2.2.2.2.2.2.2.2.2.2.2.1, v179.2.2.2.2.2.2.2.2.2.2.2.2.1, v179.2.2.2.2.2.2.2.2.2.2.2.2.2.1, v179.2.2.2.2.2.2.2.2.2.2.2.2.2.2.1, v179.2.2.2.2.2.2.2.2.2.2.2.2.2.2.2.1, r21.1, 0))) else fL_law_j240 L xs K32 (r21.2.1, r21.2.2.1, v179.2.2.1, r21.2.2.2.1, r21.2.2.2.2, v179.2.2.2.2.2.1, v179.2.2.2.2.2.2.1, v179.2.2.2.2.2.2.2.2.1, v179.2.2.2.2.2.2.2.2.2.1, v179.2.2.2.2.2.2.2.2.2.2.1, v179.2.2.2.2.2.2.2.2.2.2.2.1, v179.2.2.2.2.2.2.2.2.2.2.2.2.1, v179.2.2.2.2.2.2.2.2.2.2.2.2.2.1, v179.2.2.2.2.2.2.2.2.2.2.2.2.2.2.1, v179.2.2.2.2.2.2.2.2.2.2.2.2.2.2.2.1, r21.1, 0)))) else fL_law_j240 L xs K32 (r21.2.1, r21.2.2.1, v179.2.2.1, r21.2.2.2.1, r21.2.2.2.2, v179.2.2.2.2.2.1, v179.2.2.2.2.2.2.1, v179.2.2.2.2.2.2.2.2.1, v179.2.2.2.2.2.2.2.2.2.1, v179.2.2.2.2.2.2.2.2.2.2.1, v179.2.2.2.2.2.2.2.2.2.2.2.1, v179.2.2.2.2.2.2.2.2.2.2.2.2.1, v179.2.2.2.2.2.2.2.2.2.2.2.2.2.1, v179.2.2.2.2.2.2.2.2.2.2.2.2.2.2.1, v179.2.2.2.2.2.2.2.2.2.2.2.2.2.2.2.1, r21.1, 0)))
def fL_law_j160 (L : Nat) (xs : Nat → Int32) (K32 : (BoT × ShT × ShT × ExT × (Nat → ShT) × Int32 × Int32 × Int32) → Option Bool) (v160 : BoT × ShT × ShT × ExT × (Nat → ShT) × Int32 × Int32 × Int32 × Int32 × Int32 × Int32 × Int32 × Int32 × Int32 × Int32 × Int32 × Int32) : Option Bool := tq (fX2_speed v160.1 v160.2.1 v160.2.2.2.1 v160.2.2.2.2.2.2.2.2.2.2.1 5) (fun r19 => (if 100 < r19.1 then fL_law_j179 L xs K32 (v160.1, v160.2.1, v160.2.2.1, r19.2, v160.2.2.2.2.1, v160.2.2.2.2.2.1, v160.2.2.2.2.2.2.1, v160.2.2.2.2.2.2.2.1, v160.2.2.2.2.2.2.2.2.1, v160.2.2.2.2.2.2.2.2.2.1, v160.2.2.2.2.2.2.2.2.2.2.1, v160.2.2.2.2.2.2.2.2.2.2.2.1, v160.2.2.2.2.2.2.2.2.2.2.2.2.1, v160.2.2.2.2.2.2.2.2.2.2.2.2.2.1, v160.2.2.2.2.2.2.2.2.2.2.2.2.2.2.1, v160.2.2.2.2.2.2.2.2.2.2.2.2.2.2.2.1, v160.2.2.2.2.2.2.2.2.2.2.2.2.2.2.2.2, 0) else fL_law_j179 L xs K32 (v160.1, v160.2.1, v160.2.2.1, r19.2, v160.2.2.2.2.1, v160.2.2.2.2.2.1, v160.2.2.2.2.2.2.1, v160.2.2.2.2.2.2.2.1, v160.2.2.2.2.2.2.2.2.1, v160.2.2.2.2.2.2.2.2.2.1, v160.2.2.2.2.2.2.2.2.2.2.1, v160.2.2.2.2.2.2.2.2.2.2.2.1, v160.2.2.2.2.2.2.2.2.2.2.2.2.1, v160.2.2.2.2.2.2.2.2.2.2.2.2.2.1, v160.2.2.2.2.2.2.2.2.2.2.2.2.2.2.1, v160.2.2.2.2.2.2.2.2.2.2.2.2.2.2.2.1, v160.2.2.2.2.2.2.2.2.2.2.2.2.2.2.2.2, 1)))
def fL_law_l32 (L : Nat) (xs : Nat → Int32)  (K32 : (BoT × ShT × ShT × ExT × (Nat → ShT) × Int32 × Int32 × Int32) → Option Bool) (v32 : BoT × ShT × ShT × ExT × (Nat → ShT) × Int32 × Int32 × Int32) : Option Bool := (if v32.2.2.2.2.2.2.1 ≤ v32.2.2.2.2.2.2.2 then (if v32.2.2.2.2.2.1 = 1 then some true else some false) else (if v32.2.2.2.2.2.1 = 0 then (if v32.2.2.2.2.2.1 = 1 then some true else some false) else tq (fX2_count v32.1 v32.2.1 4) (fun r5 => tq (fX2_count v32.1 v32.2.1 0) (fun r6 => (fL_cell L xs (3 * v32.2.2.2.2.2.2.2)).bind (fun r7 => (fL_low r7 16).bind (fun r8 => (fL_cell L xs ((3 * v32.2.2.2.2.2.2.2) + 1)).bind (fun r9 => (fL_low r9 6).bind (fun r10 => (fL_cell L xs ((3 * v32.2.2.2.2.2.2.2) + 2)).bind (fun r11 => (fL_low r11 12).bind (fun r12 => tq (fX2_ifShot v32.1 v32.2.1 v32.2.2.1 v32.2.2.2.1 r10 (1 + r12) 0) (fun r13 => tq (fX2_ifShot v32.1 v32.2.1 r13.2.1 r13.2.2 r10 (1 + r12) 1) (fun r14 => tq (fX2_curtain v32.1 v32.2.1 0 0) (fun r15 => tq (fX2_count v32.1 v32.2.1 3) (fun r16 => tq (fX2_goodFor v32.1 v32.2.1 r14.2.1 r14.2.2 r10 100) (fun r17 => (if r17.1 ≤ 0 then fL_law_j160 L xs K32 (v32.1, v32.2.1, r17.2.1, r17.2.2, v32.2.2.2.2.1, v32.2.2.2.2.2.2.1, v32.2.2.2.2.2.2.2, r5, r6, r8, r10, 1 + r12, r13.1, r14.1, r15, r16, 0) else fL_law_j160 L xs K32 (v32.1, v32.2.1, r17.2.1, r17.2.2, v32.2.2.2.2.1, v32.2.2.2.2.2.2.1, v32.2.2.2.2.2.2.2, r5, r6, r8, r10, 1 + r12, r13.1, r14.1, r15, r16, 1)))))))))))))))))
set_option maxHeartbeats 8000000 in
set_option maxRecDepth 100000 in
theorem la_body {p : Program} {l : Launch} (hfl : l.stackTraces = false) {e : Env} {s : State} {m : MethodId} {below : List Frame} {meth : Method} {c : Code} {b L : Nat} {xs : Nat → Int32} {D : va_G} {t : Nat → ClassId} {A : Nat → Prop} {Q : State → Prop} (bh : Nat) (bk nb pb eb : Nat → Nat) (sa : Nat → Nat) (sb : Nat → Nat → Nat) (hx : p.tables.exec = Jvm.exec) (hb : c.code = code) (hml : c.maxLocals = 19) (hown : s.vm.findClass RL = some m.cls) (htB : ∀ w ∈ BIG, w.before #[Value.ref b] s = true) (hA : ∀ q, s.heap.size ≤ q → A q) (hK : va_K D vwCl (TY t) s) (hE : xE s) (hX : xS A s s.heap) (hXs : va_X b L xs s s.heap) (hbl : b < s.heap.size) (hbA : ¬ A b) (hend : ∀ (w : LwE) (H : Heap) (locs : List Loc) (cc ss : Nat), cc ≤ 600104 → ss ≤ 7301314 → va_P D vwCl (gBo bh bk w.1 ++ (gS t (bk 0) nb w.2.1 ++ (gS t (bk 1) pb w.2.2.1 ++ (gE t (bk 2) eb w.2.2.2.1 ++ (gQ t (bk 3) sa ++ (g6 t sa sb w.2.2.2.2)))))) H → va_D A (gBo bh bk w.1 ++ (gS t (bk 0) nb w.2.1 ++ (gS t (bk 1) pb w.2.2.1 ++ (gE t (bk 2) eb w.2.2.2.1 ++ (gQ t (bk 3) sa ++ (g6 t sa sb w.2.2.2.2)))))) → va_S A s.heap H locs → ∀ ls : Array Slot, W p l e room_1 s m #[Value.ref b] below meth c H locs cc ss Q (F0 m 439 ls [.int 1])) (K32 : LwT → Option Bool) (cc ss : Nat) (hcc1 : cc + 1 ≤ 600104) (hss1 : ss + 6 ≤ 7301314) (ih32 : ∀ v : LwT, K32 v = some true → ∀ (H : Heap) (locs : List Loc), va_P D vwCl (gBo bh bk v.1 ++ (gS t (bk 0) nb v.2.1 ++ (gS t (bk 1) pb v.2.2.1 ++ (gE t (bk 2) eb v.2.2.2.1 ++ (gQ t (bk 3) sa ++ (g6 t sa sb v.2.2.2.2.1)))))) H → va_D A (gBo bh bk v.1 ++ (gS t (bk 0) nb v.2.1 ++ (gS t (bk 1) pb v.2.2.1 ++ (gE t (bk 2) eb v.2.2.2.1 ++ (gQ t (bk 3) sa ++ (g6 t sa sb v.2.2.2.2.1)))))) → va_S A s.heap H locs → ∀ ls : Array Slot, lv_has ls 19 [(0, .ref b), (1, .ref bh), (2, .int v.2.2.2.2.2.1), (3, .int v.2.2.2.2.2.2.1), (4, .int v.2.2.2.2.2.2.2)] → W p l e room_1 s m #[Value.ref b] below meth c H locs (cc + 1) (ss + 6) Q (F0 m 32 ls [])) :
    ∀ v : LwT, fL_law_l32 L xs K32 v = some true → ∀ (H : Heap) (locs : List Loc), va_P D vwCl (gBo bh bk v.1 ++ (gS t (bk 0) nb v.2.1 ++ (gS t (bk 1) pb v.2.2.1 ++ (gE t (bk 2) eb v.2.2.2.1 ++ (gQ t (bk 3) sa ++ (g6 t sa sb v.2.2.2.2.1)))))) H → va_D A (gBo bh bk v.1 ++ (gS t (bk 0) nb v.2.1 ++ (gS t (bk 1) pb v.2.2.1 ++ (gE t (bk 2) eb v.2.2.2.1 ++ (gQ t (bk 3) sa ++ (g6 t sa sb v.2.2.2.2.1)))))) → va_S A s.heap H locs → ∀ ls : Array Slot, lv_has ls 19 [(0, .ref b), (1, .ref bh), (2, .int v.2.2.2.2.2.1), (3, .int v.2.2.2.2.2.2.1), (4, .int v.2.2.2.2.2.2.2)] → W p l e room_1 s m #[Value.ref b] below meth c H locs cc ss Q (F0 m 32 ls []) := by
  intro v h H locs hP hD hS ls hl
  have hts : ∀ w ∈ Cond.initialized RL :: BIG, w.before #[Value.ref b] s = true := fun w h => (List.mem_cons.mp h).elim (fun e9 => by rw [e9]; exact htB _ kw69) (htB w)
  unfold fL_law_l32 at h
  have J357 : ∀ (fu357 : Nat) (v357 : BoT × ShT × ShT × ExT × (Nat → ShT) × Int32 × Int32 × Int32 × Int32 × Int32 × Int32), lp (fL_law_l357 L xs K32) fu357 v357 = some true → ∀ (H : Heap) (locs : List Loc), va_P D vwCl (gBo bh bk v357.1 ++ (gS t (bk 0) nb v357.2.1 ++ (gS t (bk 1) pb v357.2.2.1 ++ (gE t (bk 2) eb v357.2.2.2.1 ++ (gQ t (bk 3) sa ++ (g6 t sa sb v357.2.2.2.2.1)))))) H → va_D A (gBo bh bk v357.1 ++ (gS t (bk 0) nb v357.2.1 ++ (gS t (bk 1) pb v357.2.2.1 ++ (gE t (bk 2) eb v357.2.2.2.1 ++ (gQ t (bk 3) sa ++ (g6 t sa sb v357.2.2.2.2.1)))))) → va_S A s.heap H locs → ∀ ls : Array Slot, lv_has ls 19 [(0, .ref b), (1, .ref bh), (2, .int v357.2.2.2.2.2.1), (3, .int v357.2.2.2.2.2.2.1), (4, .int v357.2.2.2.2.2.2.2.1), (8, .int v357.2.2.2.2.2.2.2.2.1), (17, .int v357.2.2.2.2.2.2.2.2.2.1), (18, .int v357.2.2.2.2.2.2.2.2.2.2)] → W p l e room_1 s m #[Value.ref b] below meth c H locs (cc + 1) (ss + 6) Q (F0 m 357 ls []) := by
    intro fu357
    induction fu357 with
    | zero => intro v357 h; cases h
    | succ fu357 ih357 =>
      intro v357 h H locs hP hD hS ls hl
      have h : fL_law_l357 L xs K32 (lp (fL_law_l357 L xs K32) fu357) v357 = some true := h
      unfold fL_law_l357 at h
      refine lv_iload hx hb dL_law_357 (lv_at hl 7 rfl) ?_
      refine lv_bipush (v := 6) hx hb dL_law_359 (by decide) ?_
      refine lv_icmp_ge (tgt := 383) hx hb dL_law_361 (by decide) (fun c48 => ?_) (fun c48 => ?_)
      · have h := it_p c48 h
        refine lv_iload_n hx hb dL_law_383 rfl (lv_at hl 2 rfl) ?_
        refine lv_if_eq (tgt := 430) hx hb dL_law_384 (by decide) (fun c49 => ?_) (fun c49 => ?_)
        · have h := it_p c49 h
          refine lv_iconst (v := 0) hx hb dL_law_430 (by decide) ?_
          refine lv_istore_n (lv' := [(2, .int 0), (0, .ref b), (1, .ref bh), (3, .int v357.2.2.2.2.2.2.1), (4, .int v357.2.2.2.2.2.2.2.1), (8, .int v357.2.2.2.2.2.2.2.2.1), (17, .int v357.2.2.2.2.2.2.2.2.2.1), (18, .int v357.2.2.2.2.2.2.2.2.2.2)]) hx hb dL_law_431 rfl hl (by decide) rfl (fun ls hl => ?_)
          refine lv_iinc (v := v357.2.2.2.2.2.2.2.1 + 1) (lv' := [(4, .int (v357.2.2.2.2.2.2.2.1 + 1)), (2, .int 0), (0, .ref b), (1, .ref bh), (3, .int v357.2.2.2.2.2.2.1), (8, .int v357.2.2.2.2.2.2.2.2.1), (17, .int v357.2.2.2.2.2.2.2.2.2.1), (18, .int v357.2.2.2.2.2.2.2.2.2.2)]) hx hb dL_law_432 hl (k := 4) rfl rfl (by decide) rfl (fun ls hl => ?_)
          refine lv_goto (tgt := 32) hx hb dL_law_435 (by decide) ?_
          exact ih32 (v357.1, v357.2.1, v357.2.2.1, v357.2.2.2.1, v357.2.2.2.2.1, 0, v357.2.2.2.2.2.2.1, v357.2.2.2.2.2.2.2.1 + 1) h _ _ hP hD hS _ (lv_sub hl [2, 3, 1, 4, 0] rfl)
        · have h := it_n c49 h
          refine lv_iload hx hb dL_law_387 (lv_at hl 6 rfl) ?_
          refine lv_aload_n hx hb dL_law_389 rfl (lv_at hl 1 rfl) ?_
          refine lv_iconst (v := 0) hx hb dL_law_390 (by decide) ?_
          obtain ⟨r50, h50, h⟩ := tq_r h
          refine call_i (v := r50) (wc := (gBo bh bk v357.1 ++ (gS t (bk 0) nb v357.2.1))) (wc' := (gBo bh bk v357.1 ++ (gS t (bk 0) nb v357.2.1))) (ws' := (gBo bh bk v357.1 ++ (gS t (bk 0) nb v357.2.1 ++ (gS t (bk 1) pb v357.2.2.1 ++ (gE t (bk 2) eb v357.2.2.2.1 ++ (gQ t (bk 3) sa ++ (g6 t sa sb v357.2.2.2.2.1))))))) (cutB (bs := [gBo bh bk v357.1, gS t (bk 0) nb v357.2.1, gS t (bk 1) pb v357.2.2.1, gE t (bk 2) eb v357.2.2.2.1, gQ t (bk 3) sa, g6 t sa sb v357.2.2.2.2.1]) (cs := [gBo bh bk v357.1, gS t (bk 0) nb v357.2.1]) (cs' := [gBo bh bk v357.1, gS t (bk 0) nb v357.2.1]) (bs' := [gBo bh bk v357.1, gS t (bk 0) nb v357.2.1, gS t (bk 1) pb v357.2.2.1, gE t (bk 2) eb v357.2.2.2.1, gQ t (bk 3) sa, g6 t sa sb v357.2.2.2.2.1]) [0, 1] hP hD hS hA rfl rfl rfl rfl) hS (fun hPc hDc => va_runV (As := [.int 0]) (rest := [.int v357.2.2.2.2.2.2.2.2.2.1]) ⟨hx, hb, hml, hown, hts⟩ (mtX2_count l D t bh bk v357.1 nb v357.2.1 0 r50 h50 _) (cwV 1 hts (gBV kw45 kw46 kw47 kw2 kw48) rfl rfl rfl (by decide +kernel) ⟨Nat.le_of_ble_eq_true rfl, Nat.le_of_ble_eq_true rfl⟩) (sPc_V hPc hK hDc hE (va_recv hK hP (ci := 2) (q0 := 0) rfl rfl)) rfl rfl hl.1 rfl (lv_room (Nat.le_of_ble_eq_true rfl)) dL_law_391 ⟨hcc1, hss1⟩) (fun H locs hP hD hS => ?_)
          refine lv_icmp_ne (tgt := 430) hx hb dL_law_394 (by decide) (fun c51 => ?_) (fun c51 => ?_)
          · have h := it_n c51 h
            refine lv_iconst (v := 0) hx hb dL_law_430 (by decide) ?_
            refine lv_istore_n (lv' := [(2, .int 0), (0, .ref b), (1, .ref bh), (3, .int v357.2.2.2.2.2.2.1), (4, .int v357.2.2.2.2.2.2.2.1), (8, .int v357.2.2.2.2.2.2.2.2.1), (17, .int v357.2.2.2.2.2.2.2.2.2.1), (18, .int v357.2.2.2.2.2.2.2.2.2.2)]) hx hb dL_law_431 rfl hl (by decide) rfl (fun ls hl => ?_)
            refine lv_iinc (v := v357.2.2.2.2.2.2.2.1 + 1) (lv' := [(4, .int (v357.2.2.2.2.2.2.2.1 + 1)), (2, .int 0), (0, .ref b), (1, .ref bh), (3, .int v357.2.2.2.2.2.2.1), (8, .int v357.2.2.2.2.2.2.2.2.1), (17, .int v357.2.2.2.2.2.2.2.2.2.1), (18, .int v357.2.2.2.2.2.2.2.2.2.2)]) hx hb dL_law_432 hl (k := 4) rfl rfl (by decide) rfl (fun ls hl => ?_)
            refine lv_goto (tgt := 32) hx hb dL_law_435 (by decide) ?_
            exact ih32 (v357.1, v357.2.1, v357.2.2.1, v357.2.2.2.1, v357.2.2.2.2.1, 0, v357.2.2.2.2.2.2.1, v357.2.2.2.2.2.2.2.1 + 1) h _ _ hP hD hS _ (lv_sub hl [2, 3, 1, 4, 0] rfl)
          · have h := it_p c51 h
            refine lv_aload_n hx hb dL_law_397 rfl (lv_at hl 1 rfl) ?_
            refine lv_iconst (v := 0) hx hb dL_law_398 (by decide) ?_
            refine lv_iconst (v := 0) hx hb dL_law_399 (by decide) ?_
            obtain ⟨r52, h52, h⟩ := tq_r h
            refine call_i (v := r52) (wc := (gBo bh bk v357.1 ++ (gS t (bk 0) nb v357.2.1))) (wc' := (gBo bh bk v357.1 ++ (gS t (bk 0) nb v357.2.1))) (ws' := (gBo bh bk v357.1 ++ (gS t (bk 0) nb v357.2.1 ++ (gS t (bk 1) pb v357.2.2.1 ++ (gE t (bk 2) eb v357.2.2.2.1 ++ (gQ t (bk 3) sa ++ (g6 t sa sb v357.2.2.2.2.1))))))) (cutB (bs := [gBo bh bk v357.1, gS t (bk 0) nb v357.2.1, gS t (bk 1) pb v357.2.2.1, gE t (bk 2) eb v357.2.2.2.1, gQ t (bk 3) sa, g6 t sa sb v357.2.2.2.2.1]) (cs := [gBo bh bk v357.1, gS t (bk 0) nb v357.2.1]) (cs' := [gBo bh bk v357.1, gS t (bk 0) nb v357.2.1]) (bs' := [gBo bh bk v357.1, gS t (bk 0) nb v357.2.1, gS t (bk 1) pb v357.2.2.1, gE t (bk 2) eb v357.2.2.2.1, gQ t (bk 3) sa, g6 t sa sb v357.2.2.2.2.1]) [0, 1] hP hD hS hA rfl rfl rfl rfl) hS (fun hPc hDc => va_runV (As := [.int 0, .int 0]) (rest := []) ⟨hx, hb, hml, hown, hts⟩ (mtX2_curtain l D t bh bk v357.1 nb v357.2.1 0 0 r52 h52 _) (cwV 2 hts (gBV kw158 kw159 kw160 kw2 kw161) rfl rfl rfl (by decide +kernel) ⟨Nat.le_of_ble_eq_true rfl, Nat.le_of_ble_eq_true rfl⟩) (sPc_V hPc hK hDc hE (va_recv hK hP (ci := 2) (q0 := 0) rfl rfl)) rfl rfl hl.1 rfl (lv_room (Nat.le_of_ble_eq_true rfl)) dL_law_400 ⟨hcc1, hss1⟩) (fun H locs hP hD hS => ?_)
            refine lv_iconst (v := 1) hx hb dL_law_403 (by decide) ?_
            refine lv_icmp_lt (tgt := 430) hx hb dL_law_404 (by decide) (fun c53 => ?_) (fun c53 => ?_)
            · have h := it_p c53 h
              refine lv_iconst (v := 0) hx hb dL_law_430 (by decide) ?_
              refine lv_istore_n (lv' := [(2, .int 0), (0, .ref b), (1, .ref bh), (3, .int v357.2.2.2.2.2.2.1), (4, .int v357.2.2.2.2.2.2.2.1), (8, .int v357.2.2.2.2.2.2.2.2.1), (17, .int v357.2.2.2.2.2.2.2.2.2.1), (18, .int v357.2.2.2.2.2.2.2.2.2.2)]) hx hb dL_law_431 rfl hl (by decide) rfl (fun ls hl => ?_)
              refine lv_iinc (v := v357.2.2.2.2.2.2.2.1 + 1) (lv' := [(4, .int (v357.2.2.2.2.2.2.2.1 + 1)), (2, .int 0), (0, .ref b), (1, .ref bh), (3, .int v357.2.2.2.2.2.2.1), (8, .int v357.2.2.2.2.2.2.2.2.1), (17, .int v357.2.2.2.2.2.2.2.2.2.1), (18, .int v357.2.2.2.2.2.2.2.2.2.2)]) hx hb dL_law_432 hl (k := 4) rfl rfl (by decide) rfl (fun ls hl => ?_)
              refine lv_goto (tgt := 32) hx hb dL_law_435 (by decide) ?_
              exact ih32 (v357.1, v357.2.1, v357.2.2.1, v357.2.2.2.1, v357.2.2.2.2.1, 0, v357.2.2.2.2.2.2.1, v357.2.2.2.2.2.2.2.1 + 1) h _ _ hP hD hS _ (lv_sub hl [2, 3, 1, 4, 0] rfl)
            · have h := it_n c53 h
              refine lv_aload_n hx hb dL_law_407 rfl (lv_at hl 1 rfl) ?_
              refine lv_iconst (v := 1) hx hb dL_law_408 (by decide) ?_
              refine lv_iconst (v := 0) hx hb dL_law_409 (by decide) ?_
              obtain ⟨r54, h54, h⟩ := tq_r h
              refine call_i (v := r54) (wc := (gBo bh bk v357.1 ++ (gS t (bk 0) nb v357.2.1))) (wc' := (gBo bh bk v357.1 ++ (gS t (bk 0) nb v357.2.1))) (ws' := (gBo bh bk v357.1 ++ (gS t (bk 0) nb v357.2.1 ++ (gS t (bk 1) pb v357.2.2.1 ++ (gE t (bk 2) eb v357.2.2.2.1 ++ (gQ t (bk 3) sa ++ (g6 t sa sb v357.2.2.2.2.1))))))) (cutB (bs := [gBo bh bk v357.1, gS t (bk 0) nb v357.2.1, gS t (bk 1) pb v357.2.2.1, gE t (bk 2) eb v357.2.2.2.1, gQ t (bk 3) sa, g6 t sa sb v357.2.2.2.2.1]) (cs := [gBo bh bk v357.1, gS t (bk 0) nb v357.2.1]) (cs' := [gBo bh bk v357.1, gS t (bk 0) nb v357.2.1]) (bs' := [gBo bh bk v357.1, gS t (bk 0) nb v357.2.1, gS t (bk 1) pb v357.2.2.1, gE t (bk 2) eb v357.2.2.2.1, gQ t (bk 3) sa, g6 t sa sb v357.2.2.2.2.1]) [0, 1] hP hD hS hA rfl rfl rfl rfl) hS (fun hPc hDc => va_runV (As := [.int 1, .int 0]) (rest := []) ⟨hx, hb, hml, hown, hts⟩ (mtX2_curtain l D t bh bk v357.1 nb v357.2.1 1 0 r54 h54 _) (cwV 2 hts (gBV kw158 kw159 kw160 kw2 kw161) rfl rfl rfl (by decide +kernel) ⟨Nat.le_of_ble_eq_true rfl, Nat.le_of_ble_eq_true rfl⟩) (sPc_V hPc hK hDc hE (va_recv hK hP (ci := 2) (q0 := 0) rfl rfl)) rfl rfl hl.1 rfl (lv_room (Nat.le_of_ble_eq_true rfl)) dL_law_410 ⟨hcc1, hss1⟩) (fun H locs hP hD hS => ?_)
              refine lv_iconst (v := 1) hx hb dL_law_413 (by decide) ?_
              refine lv_icmp_lt (tgt := 430) hx hb dL_law_414 (by decide) (fun c55 => ?_) (fun c55 => ?_)
              · have h := it_p c55 h
                refine lv_iconst (v := 0) hx hb dL_law_430 (by decide) ?_
                refine lv_istore_n (lv' := [(2, .int 0), (0, .ref b), (1, .ref bh), (3, .int v357.2.2.2.2.2.2.1), (4, .int v357.2.2.2.2.2.2.2.1), (8, .int v357.2.2.2.2.2.2.2.2.1), (17, .int v357.2.2.2.2.2.2.2.2.2.1), (18, .int v357.2.2.2.2.2.2.2.2.2.2)]) hx hb dL_law_431 rfl hl (by decide) rfl (fun ls hl => ?_)
                refine lv_iinc (v := v357.2.2.2.2.2.2.2.1 + 1) (lv' := [(4, .int (v357.2.2.2.2.2.2.2.1 + 1)), (2, .int 0), (0, .ref b), (1, .ref bh), (3, .int v357.2.2.2.2.2.2.1), (8, .int v357.2.2.2.2.2.2.2.2.1), (17, .int v357.2.2.2.2.2.2.2.2.2.1), (18, .int v357.2.2.2.2.2.2.2.2.2.2)]) hx hb dL_law_432 hl (k := 4) rfl rfl (by decide) rfl (fun ls hl => ?_)
                refine lv_goto (tgt := 32) hx hb dL_law_435 (by decide) ?_
                exact ih32 (v357.1, v357.2.1, v357.2.2.1, v357.2.2.2.1, v357.2.2.2.2.1, 0, v357.2.2.2.2.2.2.1, v357.2.2.2.2.2.2.2.1 + 1) h _ _ hP hD hS _ (lv_sub hl [2, 3, 1, 4, 0] rfl)
              · have h := it_n c55 h
                refine lv_aload_n hx hb dL_law_417 rfl (lv_at hl 1 rfl) ?_
                refine lv_iload hx hb dL_law_418 (lv_at hl 5 rfl) ?_
                obtain ⟨r56, h56, h⟩ := ob h
                refine call_i (v := b2i r56.1) (wc := (gBo bh bk v357.1 ++ (gS t (bk 0) nb v357.2.1 ++ (gE t (bk 2) eb v357.2.2.2.1)))) (wc' := (gBo bh bk v357.1 ++ (gS t (bk 0) nb v357.2.1 ++ (gE t (bk 2) eb r56.2)))) (ws' := (gBo bh bk v357.1 ++ (gS t (bk 0) nb v357.2.1 ++ (gS t (bk 1) pb v357.2.2.1 ++ (gE t (bk 2) eb r56.2 ++ (gQ t (bk 3) sa ++ (g6 t sa sb v357.2.2.2.2.1))))))) (cutB (bs := [gBo bh bk v357.1, gS t (bk 0) nb v357.2.1, gS t (bk 1) pb v357.2.2.1, gE t (bk 2) eb v357.2.2.2.1, gQ t (bk 3) sa, g6 t sa sb v357.2.2.2.2.1]) (cs := [gBo bh bk v357.1, gS t (bk 0) nb v357.2.1, gE t (bk 2) eb v357.2.2.2.1]) (cs' := [gBo bh bk v357.1, gS t (bk 0) nb v357.2.1, gE t (bk 2) eb r56.2]) (bs' := [gBo bh bk v357.1, gS t (bk 0) nb v357.2.1, gS t (bk 1) pb v357.2.2.1, gE t (bk 2) eb r56.2, gQ t (bk 3) sa, g6 t sa sb v357.2.2.2.2.1]) [0, 1, 3] hP hD hS hA rfl rfl rfl rfl) hS (fun hPc hDc => va_runS (As := [.ref bh, .int v357.2.2.2.2.2.2.2.2.1]) (rest := []) ⟨hx, hb, hml, hown, hts⟩ (mtL_light l D t bh bk v357.1 nb v357.2.1 eb v357.2.2.2.1 v357.2.2.2.2.2.2.2.2.1 r56 h56 _) (va_cwS 2 hts (gBS kw252 kw253 kw69 kw254) rfl rfl rfl (by decide +kernel) ⟨Nat.le_of_ble_eq_true rfl, Nat.le_of_ble_eq_true rfl⟩) (sPc_S hPc hK hDc hE) rfl rfl hl.1 rfl (lv_room (Nat.le_of_ble_eq_true rfl)) dL_law_420 ⟨hcc1, hss1⟩) (fun H locs hP hD hS => ?_)
                refine lv_if_eq (tgt := 430) hx hb dL_law_423 (by decide) (fun c57 => ?_) (fun c57 => ?_)
                · have h := it_p c57 h
                  refine lv_iconst (v := 0) hx hb dL_law_430 (by decide) ?_
                  refine lv_istore_n (lv' := [(2, .int 0), (0, .ref b), (1, .ref bh), (3, .int v357.2.2.2.2.2.2.1), (4, .int v357.2.2.2.2.2.2.2.1), (8, .int v357.2.2.2.2.2.2.2.2.1), (17, .int v357.2.2.2.2.2.2.2.2.2.1), (18, .int v357.2.2.2.2.2.2.2.2.2.2)]) hx hb dL_law_431 rfl hl (by decide) rfl (fun ls hl => ?_)
                  refine lv_iinc (v := v357.2.2.2.2.2.2.2.1 + 1) (lv' := [(4, .int (v357.2.2.2.2.2.2.2.1 + 1)), (2, .int 0), (0, .ref b), (1, .ref bh), (3, .int v357.2.2.2.2.2.2.1), (8, .int v357.2.2.2.2.2.2.2.2.1), (17, .int v357.2.2.2.2.2.2.2.2.2.1), (18, .int v357.2.2.2.2.2.2.2.2.2.2)]) hx hb dL_law_432 hl (k := 4) rfl rfl (by decide) rfl (fun ls hl => ?_)
                  refine lv_goto (tgt := 32) hx hb dL_law_435 (by decide) ?_
                  exact ih32 (v357.1, v357.2.1, v357.2.2.1, r56.2, v357.2.2.2.2.1, 0, v357.2.2.2.2.2.2.1, v357.2.2.2.2.2.2.2.1 + 1) h _ _ hP hD hS _ (lv_sub hl [2, 3, 1, 4, 0] rfl)
                · have h := it_n c57 h
                  refine lv_iconst (v := 1) hx hb dL_law_426 (by decide) ?_
                  refine lv_goto (tgt := 431) hx hb dL_law_427 (by decide) ?_
                  refine lv_istore_n (lv' := [(2, .int 1), (0, .ref b), (1, .ref bh), (3, .int v357.2.2.2.2.2.2.1), (4, .int v357.2.2.2.2.2.2.2.1), (8, .int v357.2.2.2.2.2.2.2.2.1), (17, .int v357.2.2.2.2.2.2.2.2.2.1), (18, .int v357.2.2.2.2.2.2.2.2.2.2)]) hx hb dL_law_431 rfl hl (by decide) rfl (fun ls hl => ?_)
                  refine lv_iinc (v := v357.2.2.2.2.2.2.2.1 + 1) (lv' := [(4, .int (v357.2.2.2.2.2.2.2.1 + 1)), (2, .int 1), (0, .ref b), (1, .ref bh), (3, .int v357.2.2.2.2.2.2.1), (8, .int v357.2.2.2.2.2.2.2.2.1), (17, .int v357.2.2.2.2.2.2.2.2.2.1), (18, .int v357.2.2.2.2.2.2.2.2.2.2)]) hx hb dL_law_432 hl (k := 4) rfl rfl (by decide) rfl (fun ls hl => ?_)
                  refine lv_goto (tgt := 32) hx hb dL_law_435 (by decide) ?_
                  exact ih32 (v357.1, v357.2.1, v357.2.2.1, r56.2, v357.2.2.2.2.1, 1, v357.2.2.2.2.2.2.1, v357.2.2.2.2.2.2.2.1 + 1) h _ _ hP hD hS _ (lv_sub hl [2, 3, 1, 4, 0] rfl)
      · have h := it_n c48 h
        refine lv_iload hx hb dL_law_364 (lv_at hl 6 rfl) ?_
        refine lv_aload_n hx hb dL_law_366 rfl (lv_at hl 1 rfl) ?_
        refine lv_iload hx hb dL_law_367 (lv_at hl 7 rfl) ?_
        refine lv_bipush (v := 8) hx hb dL_law_369 (by decide) ?_
        obtain ⟨r58, h58, h⟩ := tq_r h
        refine call_i (v := r58.1) (wc := (gBo bh bk v357.1 ++ (gS t (bk 0) nb v357.2.1 ++ (gE t (bk 2) eb v357.2.2.2.1)))) (wc' := (gBo bh bk v357.1 ++ (gS t (bk 0) nb v357.2.1 ++ (gE t (bk 2) eb r58.2)))) (ws' := (gBo bh bk v357.1 ++ (gS t (bk 0) nb v357.2.1 ++ (gS t (bk 1) pb v357.2.2.1 ++ (gE t (bk 2) eb r58.2 ++ (gQ t (bk 3) sa ++ (g6 t sa sb v357.2.2.2.2.1))))))) (cutB (bs := [gBo bh bk v357.1, gS t (bk 0) nb v357.2.1, gS t (bk 1) pb v357.2.2.1, gE t (bk 2) eb v357.2.2.2.1, gQ t (bk 3) sa, g6 t sa sb v357.2.2.2.2.1]) (cs := [gBo bh bk v357.1, gS t (bk 0) nb v357.2.1, gE t (bk 2) eb v357.2.2.2.1]) (cs' := [gBo bh bk v357.1, gS t (bk 0) nb v357.2.1, gE t (bk 2) eb r58.2]) (bs' := [gBo bh bk v357.1, gS t (bk 0) nb v357.2.1, gS t (bk 1) pb v357.2.2.1, gE t (bk 2) eb r58.2, gQ t (bk 3) sa, g6 t sa sb v357.2.2.2.2.1]) [0, 1, 3] hP hD hS hA rfl rfl rfl rfl) hS (fun hPc hDc => va_runV (As := [.int v357.2.2.2.2.2.2.2.2.2.2, .int 8]) (rest := [.int v357.2.2.2.2.2.2.2.2.2.1]) ⟨hx, hb, hml, hown, hts⟩ (mtX2_speed l D t bh bk v357.1 nb v357.2.1 eb v357.2.2.2.1 v357.2.2.2.2.2.2.2.2.2.2 8 r58 h58 _) (cwV 2 hts (gBV kw183 kw184 kw185 kw2 kw186) rfl rfl rfl (by decide +kernel) ⟨Nat.le_of_ble_eq_true rfl, Nat.le_of_ble_eq_true rfl⟩) (sPc_V hPc hK hDc hE (va_recv hK hP (ci := 2) (q0 := 0) rfl rfl)) rfl rfl hl.1 rfl (lv_room (Nat.le_of_ble_eq_true rfl)) dL_law_371 ⟨hcc1, hss1⟩) (fun H locs hP hD hS => ?_)
        refine lv_iadd hx hb dL_law_374 ?_
        refine lv_istore (lv' := [(17, .int (v357.2.2.2.2.2.2.2.2.2.1 + r58.1)), (0, .ref b), (1, .ref bh), (2, .int v357.2.2.2.2.2.1), (3, .int v357.2.2.2.2.2.2.1), (4, .int v357.2.2.2.2.2.2.2.1), (8, .int v357.2.2.2.2.2.2.2.2.1), (18, .int v357.2.2.2.2.2.2.2.2.2.2)]) hx hb dL_law_375 hl (by decide) rfl (fun ls hl => ?_)
        refine lv_iinc (v := v357.2.2.2.2.2.2.2.2.2.2 + 1) (lv' := [(18, .int (v357.2.2.2.2.2.2.2.2.2.2 + 1)), (17, .int (v357.2.2.2.2.2.2.2.2.2.1 + r58.1)), (0, .ref b), (1, .ref bh), (2, .int v357.2.2.2.2.2.1), (3, .int v357.2.2.2.2.2.2.1), (4, .int v357.2.2.2.2.2.2.2.1), (8, .int v357.2.2.2.2.2.2.2.2.1)]) hx hb dL_law_377 hl (k := 7) rfl rfl (by decide) rfl (fun ls hl => ?_)
        refine lv_goto (tgt := 357) hx hb dL_law_380 (by decide) ?_
        exact ih357 (v357.1, v357.2.1, v357.2.2.1, r58.2, v357.2.2.2.2.1, v357.2.2.2.2.2.1, v357.2.2.2.2.2.2.1, v357.2.2.2.2.2.2.2.1, v357.2.2.2.2.2.2.2.2.1, v357.2.2.2.2.2.2.2.2.2.1 + r58.1, v357.2.2.2.2.2.2.2.2.2.2 + 1) h _ _ hP hD hS _ (lv_sub hl [2, 3, 4, 5, 6, 7, 1, 0] rfl)
  have J317 : ∀ v317 : BoT × ShT × ShT × ExT × (Nat → ShT) × Int32 × Int32 × Int32 × Int32, fL_law_j317 L xs K32 v317 = some true → ∀ (H : Heap) (locs : List Loc), va_P D vwCl (gBo bh bk v317.1 ++ (gS t (bk 0) nb v317.2.1 ++ (gS t (bk 1) pb v317.2.2.1 ++ (gE t (bk 2) eb v317.2.2.2.1 ++ (gQ t (bk 3) sa ++ (g6 t sa sb v317.2.2.2.2.1)))))) H → va_D A (gBo bh bk v317.1 ++ (gS t (bk 0) nb v317.2.1 ++ (gS t (bk 1) pb v317.2.2.1 ++ (gE t (bk 2) eb v317.2.2.2.1 ++ (gQ t (bk 3) sa ++ (g6 t sa sb v317.2.2.2.2.1)))))) → va_S A s.heap H locs → ∀ ls : Array Slot, lv_has ls 19 [(0, .ref b), (1, .ref bh), (3, .int v317.2.2.2.2.2.1), (4, .int v317.2.2.2.2.2.2.1), (7, .int v317.2.2.2.2.2.2.2.1), (8, .int v317.2.2.2.2.2.2.2.2)] → W p l e room_1 s m #[Value.ref b] below meth c H locs (cc + 1) (ss + 6) Q (F0 m 317 ls []) := by
    intro v317 h H locs hP hD hS ls hl
    unfold fL_law_j317 at h
    refine lv_iload hx hb dL_law_317 (lv_at hl 4 rfl) ?_
    refine lv_iconst (v := 5) hx hb dL_law_319 (by decide) ?_
    refine lv_icmp_ne (tgt := 345) hx hb dL_law_320 (by decide) (fun c43 => ?_) (fun c43 => ?_)
    · have h := it_n c43 h
      refine lv_iconst (v := 1) hx hb dL_law_345 (by decide) ?_
      refine lv_goto (tgt := 350) hx hb dL_law_346 (by decide) ?_
      refine lv_istore_n (lv' := [(2, .int 1), (0, .ref b), (1, .ref bh), (3, .int v317.2.2.2.2.2.1), (4, .int v317.2.2.2.2.2.2.1), (7, .int v317.2.2.2.2.2.2.2.1), (8, .int v317.2.2.2.2.2.2.2.2)]) hx hb dL_law_350 rfl hl (by decide) rfl (fun ls hl => ?_)
      refine lv_iconst (v := 0) hx hb dL_law_351 (by decide) ?_
      refine lv_istore (lv' := [(17, .int 0), (2, .int 1), (0, .ref b), (1, .ref bh), (3, .int v317.2.2.2.2.2.1), (4, .int v317.2.2.2.2.2.2.1), (7, .int v317.2.2.2.2.2.2.2.1), (8, .int v317.2.2.2.2.2.2.2.2)]) hx hb dL_law_352 hl (by decide) rfl (fun ls hl => ?_)
      refine lv_iconst (v := 0) hx hb dL_law_354 (by decide) ?_
      refine lv_istore (lv' := [(18, .int 0), (17, .int 0), (2, .int 1), (0, .ref b), (1, .ref bh), (3, .int v317.2.2.2.2.2.1), (4, .int v317.2.2.2.2.2.2.1), (7, .int v317.2.2.2.2.2.2.2.1), (8, .int v317.2.2.2.2.2.2.2.2)]) hx hb dL_law_355 hl (by decide) rfl (fun ls hl => ?_)
      exact J357 2000 (v317.1, v317.2.1, v317.2.2.1, v317.2.2.2.1, v317.2.2.2.2.1, 1, v317.2.2.2.2.2.1, v317.2.2.2.2.2.2.1, v317.2.2.2.2.2.2.2.2, 0, 0) h _ _ hP hD hS _ (lv_sub hl [3, 4, 2, 5, 6, 8, 1, 0] rfl)
    · have h := it_p c43 h
      refine lv_aload_n hx hb dL_law_323 rfl (lv_at hl 1 rfl) ?_
      refine lv_aload_n hx hb dL_law_324 rfl (lv_at hl 0 rfl) ?_
      refine lv_iconst (v := 3) hx hb dL_law_325 (by decide) ?_
      refine lv_iload hx hb dL_law_326 (lv_at hl 3 rfl) ?_
      refine lv_imul hx hb dL_law_328 ?_
      refine lv_iconst (v := 1) hx hb dL_law_329 (by decide) ?_
      refine lv_iadd hx hb dL_law_330 ?_
      obtain ⟨r44, h44, h⟩ := ob h
      refine call_y (v := r44) (wc := ([] : va_W)) (wc' := ([] : va_W)) (ws' := (gBo bh bk v317.1 ++ (gS t (bk 0) nb v317.2.1 ++ (gS t (bk 1) pb v317.2.2.1 ++ (gE t (bk 2) eb v317.2.2.2.1 ++ (gQ t (bk 3) sa ++ (g6 t sa sb v317.2.2.2.2.1))))))) (cutB (bs := [gBo bh bk v317.1, gS t (bk 0) nb v317.2.1, gS t (bk 1) pb v317.2.2.1, gE t (bk 2) eb v317.2.2.2.1, gQ t (bk 3) sa, g6 t sa sb v317.2.2.2.2.1]) (cs := []) (cs' := []) (bs' := [gBo bh bk v317.1, gS t (bk 0) nb v317.2.1, gS t (bk 1) pb v317.2.2.1, gE t (bk 2) eb v317.2.2.2.1, gQ t (bk 3) sa, g6 t sa sb v317.2.2.2.2.1]) [] hP hD hS hA rfl rfl rfl rfl) hS (fun hPc hDc hAB => va_runS (As := [.ref b, .int ((3 * v317.2.2.2.2.2.2.1) + 1)]) (rest := [.ref bh]) ⟨hx, hb, hml, hown, hts⟩ (mtL_cell l D t ((3 * v317.2.2.2.2.2.2.1) + 1) b L xs r44 h44 _) (va_cwS 2 hts (gBS kw67 kw68 kw69 kw70) rfl rfl rfl (by decide +kernel) ⟨Nat.le_of_ble_eq_true rfl, Nat.le_of_ble_eq_true rfl⟩) (yPc_S hPc hK hDc hE hX hS hAB hXs hbl hbA) rfl rfl hl.1 rfl (lv_room (Nat.le_of_ble_eq_true rfl)) dL_law_331 ⟨hcc1, hss1⟩) (fun H locs hP hD hS => ?_)
      refine lv_iconst (v := 2) hx hb dL_law_334 (by decide) ?_
      obtain ⟨r45, h45, h⟩ := ob h
      refine call_i (v := r45) (wc := ([] : va_W)) (wc' := ([] : va_W)) (ws' := (gBo bh bk v317.1 ++ (gS t (bk 0) nb v317.2.1 ++ (gS t (bk 1) pb v317.2.2.1 ++ (gE t (bk 2) eb v317.2.2.2.1 ++ (gQ t (bk 3) sa ++ (g6 t sa sb v317.2.2.2.2.1))))))) (cutB (bs := [gBo bh bk v317.1, gS t (bk 0) nb v317.2.1, gS t (bk 1) pb v317.2.2.1, gE t (bk 2) eb v317.2.2.2.1, gQ t (bk 3) sa, g6 t sa sb v317.2.2.2.2.1]) (cs := []) (cs' := []) (bs' := [gBo bh bk v317.1, gS t (bk 0) nb v317.2.1, gS t (bk 1) pb v317.2.2.1, gE t (bk 2) eb v317.2.2.2.1, gQ t (bk 3) sa, g6 t sa sb v317.2.2.2.2.1]) [] hP hD hS hA rfl rfl rfl rfl) hS (fun hPc hDc => va_runS (As := [.int r44, .int 2]) (rest := [.ref bh]) ⟨hx, hb, hml, hown, hts⟩ (mtL_low l D t r44 2 r45 h45 _) (va_cwS 2 hts (gBS kw72 kw73 kw69 kw74) rfl rfl rfl (by decide +kernel) ⟨Nat.le_of_ble_eq_true rfl, Nat.le_of_ble_eq_true rfl⟩) (sPc_S hPc hK hDc hE) rfl rfl hl.1 rfl (lv_room (Nat.le_of_ble_eq_true rfl)) dL_law_335 ⟨hcc1, hss1⟩) (fun H locs hP hD hS => ?_)
      refine lv_iconst (v := 1) hx hb dL_law_338 (by decide) ?_
      obtain ⟨r46, h46, h⟩ := tq_r h
      refine call_i (v := r46) (wc := (gBo bh bk v317.1 ++ (gS t (bk 0) nb v317.2.1))) (wc' := (gBo bh bk v317.1 ++ (gS t (bk 0) nb v317.2.1))) (ws' := (gBo bh bk v317.1 ++ (gS t (bk 0) nb v317.2.1 ++ (gS t (bk 1) pb v317.2.2.1 ++ (gE t (bk 2) eb v317.2.2.2.1 ++ (gQ t (bk 3) sa ++ (g6 t sa sb v317.2.2.2.2.1))))))) (cutB (bs := [gBo bh bk v317.1, gS t (bk 0) nb v317.2.1, gS t (bk 1) pb v317.2.2.1, gE t (bk 2) eb v317.2.2.2.1, gQ t (bk 3) sa, g6 t sa sb v317.2.2.2.2.1]) (cs := [gBo bh bk v317.1, gS t (bk 0) nb v317.2.1]) (cs' := [gBo bh bk v317.1, gS t (bk 0) nb v317.2.1]) (bs' := [gBo bh bk v317.1, gS t (bk 0) nb v317.2.1, gS t (bk 1) pb v317.2.2.1, gE t (bk 2) eb v317.2.2.2.1, gQ t (bk 3) sa, g6 t sa sb v317.2.2.2.2.1]) [0, 1] hP hD hS hA rfl rfl rfl rfl) hS (fun hPc hDc => va_runV (As := [.int r45, .int 1]) (rest := []) ⟨hx, hb, hml, hown, hts⟩ (mtX2_curtain l D t bh bk v317.1 nb v317.2.1 r45 1 r46 h46 _) (cwV 2 hts (gBV kw158 kw159 kw160 kw2 kw161) rfl rfl rfl (by decide +kernel) ⟨Nat.le_of_ble_eq_true rfl, Nat.le_of_ble_eq_true rfl⟩) (sPc_V hPc hK hDc hE (va_recv hK hP (ci := 2) (q0 := 0) rfl rfl)) rfl rfl hl.1 rfl (lv_room (Nat.le_of_ble_eq_true rfl)) dL_law_339 ⟨hcc1, hss1⟩) (fun H locs hP hD hS => ?_)
      refine lv_if_ne (tgt := 349) hx hb dL_law_342 (by decide) (fun c47 => ?_) (fun c47 => ?_)
      · have h := it_n c47 h
        refine lv_iconst (v := 0) hx hb dL_law_349 (by decide) ?_
        refine lv_istore_n (lv' := [(2, .int 0), (0, .ref b), (1, .ref bh), (3, .int v317.2.2.2.2.2.1), (4, .int v317.2.2.2.2.2.2.1), (7, .int v317.2.2.2.2.2.2.2.1), (8, .int v317.2.2.2.2.2.2.2.2)]) hx hb dL_law_350 rfl hl (by decide) rfl (fun ls hl => ?_)
        refine lv_iconst (v := 0) hx hb dL_law_351 (by decide) ?_
        refine lv_istore (lv' := [(17, .int 0), (2, .int 0), (0, .ref b), (1, .ref bh), (3, .int v317.2.2.2.2.2.1), (4, .int v317.2.2.2.2.2.2.1), (7, .int v317.2.2.2.2.2.2.2.1), (8, .int v317.2.2.2.2.2.2.2.2)]) hx hb dL_law_352 hl (by decide) rfl (fun ls hl => ?_)
        refine lv_iconst (v := 0) hx hb dL_law_354 (by decide) ?_
        refine lv_istore (lv' := [(18, .int 0), (17, .int 0), (2, .int 0), (0, .ref b), (1, .ref bh), (3, .int v317.2.2.2.2.2.1), (4, .int v317.2.2.2.2.2.2.1), (7, .int v317.2.2.2.2.2.2.2.1), (8, .int v317.2.2.2.2.2.2.2.2)]) hx hb dL_law_355 hl (by decide) rfl (fun ls hl => ?_)
        exact J357 2000 (v317.1, v317.2.1, v317.2.2.1, v317.2.2.2.1, v317.2.2.2.2.1, 0, v317.2.2.2.2.2.1, v317.2.2.2.2.2.2.1, v317.2.2.2.2.2.2.2.2, 0, 0) h _ _ hP hD hS _ (lv_sub hl [3, 4, 2, 5, 6, 8, 1, 0] rfl)
      · have h := it_p c47 h
        refine lv_iconst (v := 1) hx hb dL_law_345 (by decide) ?_
        refine lv_goto (tgt := 350) hx hb dL_law_346 (by decide) ?_
        refine lv_istore_n (lv' := [(2, .int 1), (0, .ref b), (1, .ref bh), (3, .int v317.2.2.2.2.2.1), (4, .int v317.2.2.2.2.2.2.1), (7, .int v317.2.2.2.2.2.2.2.1), (8, .int v317.2.2.2.2.2.2.2.2)]) hx hb dL_law_350 rfl hl (by decide) rfl (fun ls hl => ?_)
        refine lv_iconst (v := 0) hx hb dL_law_351 (by decide) ?_
        refine lv_istore (lv' := [(17, .int 0), (2, .int 1), (0, .ref b), (1, .ref bh), (3, .int v317.2.2.2.2.2.1), (4, .int v317.2.2.2.2.2.2.1), (7, .int v317.2.2.2.2.2.2.2.1), (8, .int v317.2.2.2.2.2.2.2.2)]) hx hb dL_law_352 hl (by decide) rfl (fun ls hl => ?_)
        refine lv_iconst (v := 0) hx hb dL_law_354 (by decide) ?_
        refine lv_istore (lv' := [(18, .int 0), (17, .int 0), (2, .int 1), (0, .ref b), (1, .ref bh), (3, .int v317.2.2.2.2.2.1), (4, .int v317.2.2.2.2.2.2.1), (7, .int v317.2.2.2.2.2.2.2.1), (8, .int v317.2.2.2.2.2.2.2.2)]) hx hb dL_law_355 hl (by decide) rfl (fun ls hl => ?_)
        exact J357 2000 (v317.1, v317.2.1, v317.2.2.1, v317.2.2.2.1, v317.2.2.2.2.1, 1, v317.2.2.2.2.2.1, v317.2.2.2.2.2.2.1, v317.2.2.2.2.2.2.2.2, 0, 0) h _ _ hP hD hS _ (lv_sub hl [3, 4, 2, 5, 6, 8, 1, 0] rfl)
  have J240 : ∀ v240 : BoT × ShT × ShT × ExT × (Nat → ShT) × Int32 × Int32 × Int32 × Int32 × Int32 × Int32 × Int32 × Int32 × Int32 × Int32 × Int32 × Int32, fL_law_j240 L xs K32 v240 = some true → ∀ (H : Heap) (locs : List Loc), va_P D vwCl (gBo bh bk v240.1 ++ (gS t (bk 0) nb v240.2.1 ++ (gS t (bk 1) pb v240.2.2.1 ++ (gE t (bk 2) eb v240.2.2.2.1 ++ (gQ t (bk 3) sa ++ (g6 t sa sb v240.2.2.2.2.1)))))) H → va_D A (gBo bh bk v240.1 ++ (gS t (bk 0) nb v240.2.1 ++ (gS t (bk 1) pb v240.2.2.1 ++ (gE t (bk 2) eb v240.2.2.2.1 ++ (gQ t (bk 3) sa ++ (g6 t sa sb v240.2.2.2.2.1)))))) → va_S A s.heap H locs → ∀ ls : Array Slot, lv_has ls 19 [(0, .ref b), (1, .ref bh), (3, .int v240.2.2.2.2.2.1), (4, .int v240.2.2.2.2.2.2.1), (6, .int v240.2.2.2.2.2.2.2.1), (7, .int v240.2.2.2.2.2.2.2.2.1), (8, .int v240.2.2.2.2.2.2.2.2.2.1), (9, .int v240.2.2.2.2.2.2.2.2.2.2.1), (10, .int v240.2.2.2.2.2.2.2.2.2.2.2.1), (11, .int v240.2.2.2.2.2.2.2.2.2.2.2.2.1), (12, .int v240.2.2.2.2.2.2.2.2.2.2.2.2.2.1), (13, .int v240.2.2.2.2.2.2.2.2.2.2.2.2.2.2.1), (16, .int v240.2.2.2.2.2.2.2.2.2.2.2.2.2.2.2.1)] → W p l e room_1 s m #[Value.ref b] below meth c H locs (cc + 1) (ss + 6) Q (F0 m 240 ls [.int v240.2.2.2.2.2.2.2.2.2.2.2.2.2.2.2.2]) := by
    intro v240 h H locs hP hD hS ls hl
    unfold fL_law_j240 at h
    refine lv_istore_n (lv' := [(2, .int v240.2.2.2.2.2.2.2.2.2.2.2.2.2.2.2.2), (0, .ref b), (1, .ref bh), (3, .int v240.2.2.2.2.2.1), (4, .int v240.2.2.2.2.2.2.1), (6, .int v240.2.2.2.2.2.2.2.1), (7, .int v240.2.2.2.2.2.2.2.2.1), (8, .int v240.2.2.2.2.2.2.2.2.2.1), (9, .int v240.2.2.2.2.2.2.2.2.2.2.1), (10, .int v240.2.2.2.2.2.2.2.2.2.2.2.1), (11, .int v240.2.2.2.2.2.2.2.2.2.2.2.2.1), (12, .int v240.2.2.2.2.2.2.2.2.2.2.2.2.2.1), (13, .int v240.2.2.2.2.2.2.2.2.2.2.2.2.2.2.1), (16, .int v240.2.2.2.2.2.2.2.2.2.2.2.2.2.2.2.1)]) hx hb dL_law_240 rfl hl (by decide) rfl (fun ls hl => ?_)
    refine lv_iload_n hx hb dL_law_241 rfl (lv_at hl 0 rfl) ?_
    refine lv_if_eq (tgt := 349) hx hb dL_law_242 (by decide) (fun c30 => ?_) (fun c30 => ?_)
    · have h := it_p c30 h
      refine lv_iconst (v := 0) hx hb dL_law_349 (by decide) ?_
      refine lv_istore_n (lv' := [(2, .int 0), (0, .ref b), (1, .ref bh), (3, .int v240.2.2.2.2.2.1), (4, .int v240.2.2.2.2.2.2.1), (6, .int v240.2.2.2.2.2.2.2.1), (7, .int v240.2.2.2.2.2.2.2.2.1), (8, .int v240.2.2.2.2.2.2.2.2.2.1), (9, .int v240.2.2.2.2.2.2.2.2.2.2.1), (10, .int v240.2.2.2.2.2.2.2.2.2.2.2.1), (11, .int v240.2.2.2.2.2.2.2.2.2.2.2.2.1), (12, .int v240.2.2.2.2.2.2.2.2.2.2.2.2.2.1), (13, .int v240.2.2.2.2.2.2.2.2.2.2.2.2.2.2.1), (16, .int v240.2.2.2.2.2.2.2.2.2.2.2.2.2.2.2.1)]) hx hb dL_law_350 rfl hl (by decide) rfl (fun ls hl => ?_)
      refine lv_iconst (v := 0) hx hb dL_law_351 (by decide) ?_
      refine lv_istore (lv' := [(17, .int 0), (2, .int 0), (0, .ref b), (1, .ref bh), (3, .int v240.2.2.2.2.2.1), (4, .int v240.2.2.2.2.2.2.1), (6, .int v240.2.2.2.2.2.2.2.1), (7, .int v240.2.2.2.2.2.2.2.2.1), (8, .int v240.2.2.2.2.2.2.2.2.2.1), (9, .int v240.2.2.2.2.2.2.2.2.2.2.1), (10, .int v240.2.2.2.2.2.2.2.2.2.2.2.1), (11, .int v240.2.2.2.2.2.2.2.2.2.2.2.2.1), (12, .int v240.2.2.2.2.2.2.2.2.2.2.2.2.2.1), (13, .int v240.2.2.2.2.2.2.2.2.2.2.2.2.2.2.1), (16, .int v240.2.2.2.2.2.2.2.2.2.2.2.2.2.2.2.1)]) hx hb dL_law_352 hl (by decide) rfl (fun ls hl => ?_)
      refine lv_iconst (v := 0) hx hb dL_law_354 (by decide) ?_
      refine lv_istore (lv' := [(18, .int 0), (17, .int 0), (2, .int 0), (0, .ref b), (1, .ref bh), (3, .int v240.2.2.2.2.2.1), (4, .int v240.2.2.2.2.2.2.1), (6, .int v240.2.2.2.2.2.2.2.1), (7, .int v240.2.2.2.2.2.2.2.2.1), (8, .int v240.2.2.2.2.2.2.2.2.2.1), (9, .int v240.2.2.2.2.2.2.2.2.2.2.1), (10, .int v240.2.2.2.2.2.2.2.2.2.2.2.1), (11, .int v240.2.2.2.2.2.2.2.2.2.2.2.2.1), (12, .int v240.2.2.2.2.2.2.2.2.2.2.2.2.2.1), (13, .int v240.2.2.2.2.2.2.2.2.2.2.2.2.2.2.1), (16, .int v240.2.2.2.2.2.2.2.2.2.2.2.2.2.2.2.1)]) hx hb dL_law_355 hl (by decide) rfl (fun ls hl => ?_)
      exact J357 2000 (v240.1, v240.2.1, v240.2.2.1, v240.2.2.2.1, v240.2.2.2.2.1, 0, v240.2.2.2.2.2.1, v240.2.2.2.2.2.2.1, v240.2.2.2.2.2.2.2.2.2.1, 0, 0) h _ _ hP hD hS _ (lv_sub hl [3, 4, 2, 5, 6, 9, 1, 0] rfl)
    · have h := it_n c30 h
      refine lv_iload hx hb dL_law_245 (lv_at hl 6 rfl) ?_
      refine lv_bipush (v := 10) hx hb dL_law_247 (by decide) ?_
      refine lv_icmp_lt (tgt := 317) hx hb dL_law_249 (by decide) (fun c31 => ?_) (fun c31 => ?_)
      · have h := it_p c31 h
        exact J317 (v240.1, v240.2.1, v240.2.2.1, v240.2.2.2.1, v240.2.2.2.2.1, v240.2.2.2.2.2.1, v240.2.2.2.2.2.2.1, v240.2.2.2.2.2.2.2.2.1, v240.2.2.2.2.2.2.2.2.2.1) h _ _ hP hD hS _ (lv_sub hl [1, 2, 3, 4, 6, 7] rfl)
      · have h := it_n c31 h
        refine lv_iload hx hb dL_law_252 (lv_at hl 6 rfl) ?_
        refine lv_bipush (v := 13) hx hb dL_law_254 (by decide) ?_
        refine lv_icmp_gt (tgt := 317) hx hb dL_law_256 (by decide) (fun c32 => ?_) (fun c32 => ?_)
        · have h := it_p c32 h
          exact J317 (v240.1, v240.2.1, v240.2.2.1, v240.2.2.2.1, v240.2.2.2.2.1, v240.2.2.2.2.2.1, v240.2.2.2.2.2.2.1, v240.2.2.2.2.2.2.2.2.1, v240.2.2.2.2.2.2.2.2.2.1) h _ _ hP hD hS _ (lv_sub hl [1, 2, 3, 4, 6, 7] rfl)
        · have h := it_n c32 h
          refine lv_iload hx hb dL_law_259 (lv_at hl 13 rfl) ?_
          refine lv_iload hx hb dL_law_261 (lv_at hl 9 rfl) ?_
          refine lv_icmp_ne (tgt := 349) hx hb dL_law_263 (by decide) (fun c33 => ?_) (fun c33 => ?_)
          · have h := it_n c33 h
            refine lv_iconst (v := 0) hx hb dL_law_349 (by decide) ?_
            refine lv_istore_n (lv' := [(2, .int 0), (0, .ref b), (1, .ref bh), (3, .int v240.2.2.2.2.2.1), (4, .int v240.2.2.2.2.2.2.1), (6, .int v240.2.2.2.2.2.2.2.1), (7, .int v240.2.2.2.2.2.2.2.2.1), (8, .int v240.2.2.2.2.2.2.2.2.2.1), (9, .int v240.2.2.2.2.2.2.2.2.2.2.1), (10, .int v240.2.2.2.2.2.2.2.2.2.2.2.1), (11, .int v240.2.2.2.2.2.2.2.2.2.2.2.2.1), (12, .int v240.2.2.2.2.2.2.2.2.2.2.2.2.2.1), (13, .int v240.2.2.2.2.2.2.2.2.2.2.2.2.2.2.1), (16, .int v240.2.2.2.2.2.2.2.2.2.2.2.2.2.2.2.1)]) hx hb dL_law_350 rfl hl (by decide) rfl (fun ls hl => ?_)
            refine lv_iconst (v := 0) hx hb dL_law_351 (by decide) ?_
            refine lv_istore (lv' := [(17, .int 0), (2, .int 0), (0, .ref b), (1, .ref bh), (3, .int v240.2.2.2.2.2.1), (4, .int v240.2.2.2.2.2.2.1), (6, .int v240.2.2.2.2.2.2.2.1), (7, .int v240.2.2.2.2.2.2.2.2.1), (8, .int v240.2.2.2.2.2.2.2.2.2.1), (9, .int v240.2.2.2.2.2.2.2.2.2.2.1), (10, .int v240.2.2.2.2.2.2.2.2.2.2.2.1), (11, .int v240.2.2.2.2.2.2.2.2.2.2.2.2.1), (12, .int v240.2.2.2.2.2.2.2.2.2.2.2.2.2.1), (13, .int v240.2.2.2.2.2.2.2.2.2.2.2.2.2.2.1), (16, .int v240.2.2.2.2.2.2.2.2.2.2.2.2.2.2.2.1)]) hx hb dL_law_352 hl (by decide) rfl (fun ls hl => ?_)
            refine lv_iconst (v := 0) hx hb dL_law_354 (by decide) ?_
            refine lv_istore (lv' := [(18, .int 0), (17, .int 0), (2, .int 0), (0, .ref b), (1, .ref bh), (3, .int v240.2.2.2.2.2.1), (4, .int v240.2.2.2.2.2.2.1), (6, .int v240.2.2.2.2.2.2.2.1), (7, .int v240.2.2.2.2.2.2.2.2.1), (8, .int v240.2.2.2.2.2.2.2.2.2.1), (9, .int v240.2.2.2.2.2.2.2.2.2.2.1), (10, .int v240.2.2.2.2.2.2.2.2.2.2.2.1), (11, .int v240.2.2.2.2.2.2.2.2.2.2.2.2.1), (12, .int v240.2.2.2.2.2.2.2.2.2.2.2.2.2.1), (13, .int v240.2.2.2.2.2.2.2.2.2.2.2.2.2.2.1), (16, .int v240.2.2.2.2.2.2.2.2.2.2.2.2.2.2.2.1)]) hx hb dL_law_355 hl (by decide) rfl (fun ls hl => ?_)
            exact J357 2000 (v240.1, v240.2.1, v240.2.2.1, v240.2.2.2.1, v240.2.2.2.2.1, 0, v240.2.2.2.2.2.1, v240.2.2.2.2.2.2.1, v240.2.2.2.2.2.2.2.2.2.1, 0, 0) h _ _ hP hD hS _ (lv_sub hl [3, 4, 2, 5, 6, 9, 1, 0] rfl)
          · have h := it_p c33 h
            refine lv_aload_n hx hb dL_law_266 rfl (lv_at hl 2 rfl) ?_
            refine lv_iconst (v := 0) hx hb dL_law_267 (by decide) ?_
            refine lv_iconst (v := 0) hx hb dL_law_268 (by decide) ?_
            obtain ⟨r34, h34, h⟩ := tq_r h
            refine call_i (v := r34) (wc := (gBo bh bk v240.1 ++ (gS t (bk 0) nb v240.2.1))) (wc' := (gBo bh bk v240.1 ++ (gS t (bk 0) nb v240.2.1))) (ws' := (gBo bh bk v240.1 ++ (gS t (bk 0) nb v240.2.1 ++ (gS t (bk 1) pb v240.2.2.1 ++ (gE t (bk 2) eb v240.2.2.2.1 ++ (gQ t (bk 3) sa ++ (g6 t sa sb v240.2.2.2.2.1))))))) (cutB (bs := [gBo bh bk v240.1, gS t (bk 0) nb v240.2.1, gS t (bk 1) pb v240.2.2.1, gE t (bk 2) eb v240.2.2.2.1, gQ t (bk 3) sa, g6 t sa sb v240.2.2.2.2.1]) (cs := [gBo bh bk v240.1, gS t (bk 0) nb v240.2.1]) (cs' := [gBo bh bk v240.1, gS t (bk 0) nb v240.2.1]) (bs' := [gBo bh bk v240.1, gS t (bk 0) nb v240.2.1, gS t (bk 1) pb v240.2.2.1, gE t (bk 2) eb v240.2.2.2.1, gQ t (bk 3) sa, g6 t sa sb v240.2.2.2.2.1]) [0, 1] hP hD hS hA rfl rfl rfl rfl) hS (fun hPc hDc => va_runV (As := [.int 0, .int 0]) (rest := []) ⟨hx, hb, hml, hown, hts⟩ (mtX2_curtain l D t bh bk v240.1 nb v240.2.1 0 0 r34 h34 _) (cwV 2 hts (gBV kw158 kw159 kw160 kw2 kw161) rfl rfl rfl (by decide +kernel) ⟨Nat.le_of_ble_eq_true rfl, Nat.le_of_ble_eq_true rfl⟩) (sPc_V hPc hK hDc hE (va_recv hK hP (ci := 2) (q0 := 0) rfl rfl)) rfl rfl hl.1 rfl (lv_room (Nat.le_of_ble_eq_true rfl)) dL_law_269 ⟨hcc1, hss1⟩) (fun H locs hP hD hS => ?_)
            refine lv_iload hx hb dL_law_272 (lv_at hl 10 rfl) ?_
            refine lv_icmp_ne (tgt := 349) hx hb dL_law_274 (by decide) (fun c35 => ?_) (fun c35 => ?_)
            · have h := it_n c35 h
              refine lv_iconst (v := 0) hx hb dL_law_349 (by decide) ?_
              refine lv_istore_n (lv' := [(2, .int 0), (0, .ref b), (1, .ref bh), (3, .int v240.2.2.2.2.2.1), (4, .int v240.2.2.2.2.2.2.1), (6, .int v240.2.2.2.2.2.2.2.1), (7, .int v240.2.2.2.2.2.2.2.2.1), (8, .int v240.2.2.2.2.2.2.2.2.2.1), (9, .int v240.2.2.2.2.2.2.2.2.2.2.1), (10, .int v240.2.2.2.2.2.2.2.2.2.2.2.1), (11, .int v240.2.2.2.2.2.2.2.2.2.2.2.2.1), (12, .int v240.2.2.2.2.2.2.2.2.2.2.2.2.2.1), (13, .int v240.2.2.2.2.2.2.2.2.2.2.2.2.2.2.1), (16, .int v240.2.2.2.2.2.2.2.2.2.2.2.2.2.2.2.1)]) hx hb dL_law_350 rfl hl (by decide) rfl (fun ls hl => ?_)
              refine lv_iconst (v := 0) hx hb dL_law_351 (by decide) ?_
              refine lv_istore (lv' := [(17, .int 0), (2, .int 0), (0, .ref b), (1, .ref bh), (3, .int v240.2.2.2.2.2.1), (4, .int v240.2.2.2.2.2.2.1), (6, .int v240.2.2.2.2.2.2.2.1), (7, .int v240.2.2.2.2.2.2.2.2.1), (8, .int v240.2.2.2.2.2.2.2.2.2.1), (9, .int v240.2.2.2.2.2.2.2.2.2.2.1), (10, .int v240.2.2.2.2.2.2.2.2.2.2.2.1), (11, .int v240.2.2.2.2.2.2.2.2.2.2.2.2.1), (12, .int v240.2.2.2.2.2.2.2.2.2.2.2.2.2.1), (13, .int v240.2.2.2.2.2.2.2.2.2.2.2.2.2.2.1), (16, .int v240.2.2.2.2.2.2.2.2.2.2.2.2.2.2.2.1)]) hx hb dL_law_352 hl (by decide) rfl (fun ls hl => ?_)
              refine lv_iconst (v := 0) hx hb dL_law_354 (by decide) ?_
              refine lv_istore (lv' := [(18, .int 0), (17, .int 0), (2, .int 0), (0, .ref b), (1, .ref bh), (3, .int v240.2.2.2.2.2.1), (4, .int v240.2.2.2.2.2.2.1), (6, .int v240.2.2.2.2.2.2.2.1), (7, .int v240.2.2.2.2.2.2.2.2.1), (8, .int v240.2.2.2.2.2.2.2.2.2.1), (9, .int v240.2.2.2.2.2.2.2.2.2.2.1), (10, .int v240.2.2.2.2.2.2.2.2.2.2.2.1), (11, .int v240.2.2.2.2.2.2.2.2.2.2.2.2.1), (12, .int v240.2.2.2.2.2.2.2.2.2.2.2.2.2.1), (13, .int v240.2.2.2.2.2.2.2.2.2.2.2.2.2.2.1), (16, .int v240.2.2.2.2.2.2.2.2.2.2.2.2.2.2.2.1)]) hx hb dL_law_355 hl (by decide) rfl (fun ls hl => ?_)
              exact J357 2000 (v240.1, v240.2.1, v240.2.2.1, v240.2.2.2.1, v240.2.2.2.2.1, 0, v240.2.2.2.2.2.1, v240.2.2.2.2.2.2.1, v240.2.2.2.2.2.2.2.2.2.1, 0, 0) h _ _ hP hD hS _ (lv_sub hl [3, 4, 2, 5, 6, 9, 1, 0] rfl)
            · have h := it_p c35 h
              refine lv_iload hx hb dL_law_277 (lv_at hl 10 rfl) ?_
              refine lv_iload hx hb dL_law_279 (lv_at hl 11 rfl) ?_
              refine lv_icmp_gt (tgt := 349) hx hb dL_law_281 (by decide) (fun c36 => ?_) (fun c36 => ?_)
              · have h := it_p c36 h
                refine lv_iconst (v := 0) hx hb dL_law_349 (by decide) ?_
                refine lv_istore_n (lv' := [(2, .int 0), (0, .ref b), (1, .ref bh), (3, .int v240.2.2.2.2.2.1), (4, .int v240.2.2.2.2.2.2.1), (6, .int v240.2.2.2.2.2.2.2.1), (7, .int v240.2.2.2.2.2.2.2.2.1), (8, .int v240.2.2.2.2.2.2.2.2.2.1), (9, .int v240.2.2.2.2.2.2.2.2.2.2.1), (10, .int v240.2.2.2.2.2.2.2.2.2.2.2.1), (11, .int v240.2.2.2.2.2.2.2.2.2.2.2.2.1), (12, .int v240.2.2.2.2.2.2.2.2.2.2.2.2.2.1), (13, .int v240.2.2.2.2.2.2.2.2.2.2.2.2.2.2.1), (16, .int v240.2.2.2.2.2.2.2.2.2.2.2.2.2.2.2.1)]) hx hb dL_law_350 rfl hl (by decide) rfl (fun ls hl => ?_)
                refine lv_iconst (v := 0) hx hb dL_law_351 (by decide) ?_
                refine lv_istore (lv' := [(17, .int 0), (2, .int 0), (0, .ref b), (1, .ref bh), (3, .int v240.2.2.2.2.2.1), (4, .int v240.2.2.2.2.2.2.1), (6, .int v240.2.2.2.2.2.2.2.1), (7, .int v240.2.2.2.2.2.2.2.2.1), (8, .int v240.2.2.2.2.2.2.2.2.2.1), (9, .int v240.2.2.2.2.2.2.2.2.2.2.1), (10, .int v240.2.2.2.2.2.2.2.2.2.2.2.1), (11, .int v240.2.2.2.2.2.2.2.2.2.2.2.2.1), (12, .int v240.2.2.2.2.2.2.2.2.2.2.2.2.2.1), (13, .int v240.2.2.2.2.2.2.2.2.2.2.2.2.2.2.1), (16, .int v240.2.2.2.2.2.2.2.2.2.2.2.2.2.2.2.1)]) hx hb dL_law_352 hl (by decide) rfl (fun ls hl => ?_)
                refine lv_iconst (v := 0) hx hb dL_law_354 (by decide) ?_
                refine lv_istore (lv' := [(18, .int 0), (17, .int 0), (2, .int 0), (0, .ref b), (1, .ref bh), (3, .int v240.2.2.2.2.2.1), (4, .int v240.2.2.2.2.2.2.1), (6, .int v240.2.2.2.2.2.2.2.1), (7, .int v240.2.2.2.2.2.2.2.2.1), (8, .int v240.2.2.2.2.2.2.2.2.2.1), (9, .int v240.2.2.2.2.2.2.2.2.2.2.1), (10, .int v240.2.2.2.2.2.2.2.2.2.2.2.1), (11, .int v240.2.2.2.2.2.2.2.2.2.2.2.2.1), (12, .int v240.2.2.2.2.2.2.2.2.2.2.2.2.2.1), (13, .int v240.2.2.2.2.2.2.2.2.2.2.2.2.2.2.1), (16, .int v240.2.2.2.2.2.2.2.2.2.2.2.2.2.2.2.1)]) hx hb dL_law_355 hl (by decide) rfl (fun ls hl => ?_)
                exact J357 2000 (v240.1, v240.2.1, v240.2.2.1, v240.2.2.2.1, v240.2.2.2.2.1, 0, v240.2.2.2.2.2.1, v240.2.2.2.2.2.2.1, v240.2.2.2.2.2.2.2.2.2.1, 0, 0) h _ _ hP hD hS _ (lv_sub hl [3, 4, 2, 5, 6, 9, 1, 0] rfl)
              · have h := it_n c36 h
                refine lv_aload_n hx hb dL_law_284 rfl (lv_at hl 2 rfl) ?_
                refine lv_iconst (v := 0) hx hb dL_law_285 (by decide) ?_
                obtain ⟨r37, h37, h⟩ := tq_r h
                refine call_i (v := r37) (wc := (gBo bh bk v240.1 ++ (gS t (bk 0) nb v240.2.1))) (wc' := (gBo bh bk v240.1 ++ (gS t (bk 0) nb v240.2.1))) (ws' := (gBo bh bk v240.1 ++ (gS t (bk 0) nb v240.2.1 ++ (gS t (bk 1) pb v240.2.2.1 ++ (gE t (bk 2) eb v240.2.2.2.1 ++ (gQ t (bk 3) sa ++ (g6 t sa sb v240.2.2.2.2.1))))))) (cutB (bs := [gBo bh bk v240.1, gS t (bk 0) nb v240.2.1, gS t (bk 1) pb v240.2.2.1, gE t (bk 2) eb v240.2.2.2.1, gQ t (bk 3) sa, g6 t sa sb v240.2.2.2.2.1]) (cs := [gBo bh bk v240.1, gS t (bk 0) nb v240.2.1]) (cs' := [gBo bh bk v240.1, gS t (bk 0) nb v240.2.1]) (bs' := [gBo bh bk v240.1, gS t (bk 0) nb v240.2.1, gS t (bk 1) pb v240.2.2.1, gE t (bk 2) eb v240.2.2.2.1, gQ t (bk 3) sa, g6 t sa sb v240.2.2.2.2.1]) [0, 1] hP hD hS hA rfl rfl rfl rfl) hS (fun hPc hDc => va_runV (As := [.int 0]) (rest := []) ⟨hx, hb, hml, hown, hts⟩ (mtX2_count l D t bh bk v240.1 nb v240.2.1 0 r37 h37 _) (cwV 1 hts (gBV kw45 kw46 kw47 kw2 kw48) rfl rfl rfl (by decide +kernel) ⟨Nat.le_of_ble_eq_true rfl, Nat.le_of_ble_eq_true rfl⟩) (sPc_V hPc hK hDc hE (va_recv hK hP (ci := 2) (q0 := 0) rfl rfl)) rfl rfl hl.1 rfl (lv_room (Nat.le_of_ble_eq_true rfl)) dL_law_286 ⟨hcc1, hss1⟩) (fun H locs hP hD hS => ?_)
                refine lv_iload hx hb dL_law_289 (lv_at hl 5 rfl) ?_
                refine lv_iload hx hb dL_law_291 (lv_at hl 8 rfl) ?_
                refine lv_iadd hx hb dL_law_293 ?_
                refine lv_icmp_ne (tgt := 349) hx hb dL_law_294 (by decide) (fun c38 => ?_) (fun c38 => ?_)
                · have h := it_n c38 h
                  refine lv_iconst (v := 0) hx hb dL_law_349 (by decide) ?_
                  refine lv_istore_n (lv' := [(2, .int 0), (0, .ref b), (1, .ref bh), (3, .int v240.2.2.2.2.2.1), (4, .int v240.2.2.2.2.2.2.1), (6, .int v240.2.2.2.2.2.2.2.1), (7, .int v240.2.2.2.2.2.2.2.2.1), (8, .int v240.2.2.2.2.2.2.2.2.2.1), (9, .int v240.2.2.2.2.2.2.2.2.2.2.1), (10, .int v240.2.2.2.2.2.2.2.2.2.2.2.1), (11, .int v240.2.2.2.2.2.2.2.2.2.2.2.2.1), (12, .int v240.2.2.2.2.2.2.2.2.2.2.2.2.2.1), (13, .int v240.2.2.2.2.2.2.2.2.2.2.2.2.2.2.1), (16, .int v240.2.2.2.2.2.2.2.2.2.2.2.2.2.2.2.1)]) hx hb dL_law_350 rfl hl (by decide) rfl (fun ls hl => ?_)
                  refine lv_iconst (v := 0) hx hb dL_law_351 (by decide) ?_
                  refine lv_istore (lv' := [(17, .int 0), (2, .int 0), (0, .ref b), (1, .ref bh), (3, .int v240.2.2.2.2.2.1), (4, .int v240.2.2.2.2.2.2.1), (6, .int v240.2.2.2.2.2.2.2.1), (7, .int v240.2.2.2.2.2.2.2.2.1), (8, .int v240.2.2.2.2.2.2.2.2.2.1), (9, .int v240.2.2.2.2.2.2.2.2.2.2.1), (10, .int v240.2.2.2.2.2.2.2.2.2.2.2.1), (11, .int v240.2.2.2.2.2.2.2.2.2.2.2.2.1), (12, .int v240.2.2.2.2.2.2.2.2.2.2.2.2.2.1), (13, .int v240.2.2.2.2.2.2.2.2.2.2.2.2.2.2.1), (16, .int v240.2.2.2.2.2.2.2.2.2.2.2.2.2.2.2.1)]) hx hb dL_law_352 hl (by decide) rfl (fun ls hl => ?_)
                  refine lv_iconst (v := 0) hx hb dL_law_354 (by decide) ?_
                  refine lv_istore (lv' := [(18, .int 0), (17, .int 0), (2, .int 0), (0, .ref b), (1, .ref bh), (3, .int v240.2.2.2.2.2.1), (4, .int v240.2.2.2.2.2.2.1), (6, .int v240.2.2.2.2.2.2.2.1), (7, .int v240.2.2.2.2.2.2.2.2.1), (8, .int v240.2.2.2.2.2.2.2.2.2.1), (9, .int v240.2.2.2.2.2.2.2.2.2.2.1), (10, .int v240.2.2.2.2.2.2.2.2.2.2.2.1), (11, .int v240.2.2.2.2.2.2.2.2.2.2.2.2.1), (12, .int v240.2.2.2.2.2.2.2.2.2.2.2.2.2.1), (13, .int v240.2.2.2.2.2.2.2.2.2.2.2.2.2.2.1), (16, .int v240.2.2.2.2.2.2.2.2.2.2.2.2.2.2.2.1)]) hx hb dL_law_355 hl (by decide) rfl (fun ls hl => ?_)
                  exact J357 2000 (v240.1, v240.2.1, v240.2.2.1, v240.2.2.2.1, v240.2.2.2.2.1, 0, v240.2.2.2.2.2.1, v240.2.2.2.2.2.2.1, v240.2.2.2.2.2.2.2.2.2.1, 0, 0) h _ _ hP hD hS _ (lv_sub hl [3, 4, 2, 5, 6, 9, 1, 0] rfl)
                · have h := it_p c38 h
                  refine lv_aload_n hx hb dL_law_297 rfl (lv_at hl 2 rfl) ?_
                  refine lv_iconst (v := 3) hx hb dL_law_298 (by decide) ?_
                  obtain ⟨r39, h39, h⟩ := tq_r h
                  refine call_i (v := r39) (wc := (gBo bh bk v240.1 ++ (gS t (bk 0) nb v240.2.1))) (wc' := (gBo bh bk v240.1 ++ (gS t (bk 0) nb v240.2.1))) (ws' := (gBo bh bk v240.1 ++ (gS t (bk 0) nb v240.2.1 ++ (gS t (bk 1) pb v240.2.2.1 ++ (gE t (bk 2) eb v240.2.2.2.1 ++ (gQ t (bk 3) sa ++ (g6 t sa sb v240.2.2.2.2.1))))))) (cutB (bs := [gBo bh bk v240.1, gS t (bk 0) nb v240.2.1, gS t (bk 1) pb v240.2.2.1, gE t (bk 2) eb v240.2.2.2.1, gQ t (bk 3) sa, g6 t sa sb v240.2.2.2.2.1]) (cs := [gBo bh bk v240.1, gS t (bk 0) nb v240.2.1]) (cs' := [gBo bh bk v240.1, gS t (bk 0) nb v240.2.1]) (bs' := [gBo bh bk v240.1, gS t (bk 0) nb v240.2.1, gS t (bk 1) pb v240.2.2.1, gE t (bk 2) eb v240.2.2.2.1, gQ t (bk 3) sa, g6 t sa sb v240.2.2.2.2.1]) [0, 1] hP hD hS hA rfl rfl rfl rfl) hS (fun hPc hDc => va_runV (As := [.int 3]) (rest := []) ⟨hx, hb, hml, hown, hts⟩ (mtX2_count l D t bh bk v240.1 nb v240.2.1 3 r39 h39 _) (cwV 1 hts (gBV kw45 kw46 kw47 kw2 kw48) rfl rfl rfl (by decide +kernel) ⟨Nat.le_of_ble_eq_true rfl, Nat.le_of_ble_eq_true rfl⟩) (sPc_V hPc hK hDc hE (va_recv hK hP (ci := 2) (q0 := 0) rfl rfl)) rfl rfl hl.1 rfl (lv_room (Nat.le_of_ble_eq_true rfl)) dL_law_299 ⟨hcc1, hss1⟩) (fun H locs hP hD hS => ?_)
                  refine lv_iload hx hb dL_law_302 (lv_at hl 9 rfl) ?_
                  refine lv_icmp_lt (tgt := 349) hx hb dL_law_304 (by decide) (fun c40 => ?_) (fun c40 => ?_)
                  · have h := it_p c40 h
                    refine lv_iconst (v := 0) hx hb dL_law_349 (by decide) ?_
                    refine lv_istore_n (lv' := [(2, .int 0), (0, .ref b), (1, .ref bh), (3, .int v240.2.2.2.2.2.1), (4, .int v240.2.2.2.2.2.2.1), (6, .int v240.2.2.2.2.2.2.2.1), (7, .int v240.2.2.2.2.2.2.2.2.1), (8, .int v240.2.2.2.2.2.2.2.2.2.1), (9, .int v240.2.2.2.2.2.2.2.2.2.2.1), (10, .int v240.2.2.2.2.2.2.2.2.2.2.2.1), (11, .int v240.2.2.2.2.2.2.2.2.2.2.2.2.1), (12, .int v240.2.2.2.2.2.2.2.2.2.2.2.2.2.1), (13, .int v240.2.2.2.2.2.2.2.2.2.2.2.2.2.2.1), (16, .int v240.2.2.2.2.2.2.2.2.2.2.2.2.2.2.2.1)]) hx hb dL_law_350 rfl hl (by decide) rfl (fun ls hl => ?_)
                    refine lv_iconst (v := 0) hx hb dL_law_351 (by decide) ?_
                    refine lv_istore (lv' := [(17, .int 0), (2, .int 0), (0, .ref b), (1, .ref bh), (3, .int v240.2.2.2.2.2.1), (4, .int v240.2.2.2.2.2.2.1), (6, .int v240.2.2.2.2.2.2.2.1), (7, .int v240.2.2.2.2.2.2.2.2.1), (8, .int v240.2.2.2.2.2.2.2.2.2.1), (9, .int v240.2.2.2.2.2.2.2.2.2.2.1), (10, .int v240.2.2.2.2.2.2.2.2.2.2.2.1), (11, .int v240.2.2.2.2.2.2.2.2.2.2.2.2.1), (12, .int v240.2.2.2.2.2.2.2.2.2.2.2.2.2.1), (13, .int v240.2.2.2.2.2.2.2.2.2.2.2.2.2.2.1), (16, .int v240.2.2.2.2.2.2.2.2.2.2.2.2.2.2.2.1)]) hx hb dL_law_352 hl (by decide) rfl (fun ls hl => ?_)
                    refine lv_iconst (v := 0) hx hb dL_law_354 (by decide) ?_
                    refine lv_istore (lv' := [(18, .int 0), (17, .int 0), (2, .int 0), (0, .ref b), (1, .ref bh), (3, .int v240.2.2.2.2.2.1), (4, .int v240.2.2.2.2.2.2.1), (6, .int v240.2.2.2.2.2.2.2.1), (7, .int v240.2.2.2.2.2.2.2.2.1), (8, .int v240.2.2.2.2.2.2.2.2.2.1), (9, .int v240.2.2.2.2.2.2.2.2.2.2.1), (10, .int v240.2.2.2.2.2.2.2.2.2.2.2.1), (11, .int v240.2.2.2.2.2.2.2.2.2.2.2.2.1), (12, .int v240.2.2.2.2.2.2.2.2.2.2.2.2.2.1), (13, .int v240.2.2.2.2.2.2.2.2.2.2.2.2.2.2.1), (16, .int v240.2.2.2.2.2.2.2.2.2.2.2.2.2.2.2.1)]) hx hb dL_law_355 hl (by decide) rfl (fun ls hl => ?_)
                    exact J357 2000 (v240.1, v240.2.1, v240.2.2.1, v240.2.2.2.1, v240.2.2.2.2.1, 0, v240.2.2.2.2.2.1, v240.2.2.2.2.2.2.1, v240.2.2.2.2.2.2.2.2.2.1, 0, 0) h _ _ hP hD hS _ (lv_sub hl [3, 4, 2, 5, 6, 9, 1, 0] rfl)
                  · have h := it_n c40 h
                    refine lv_aload_n hx hb dL_law_307 rfl (lv_at hl 2 rfl) ?_
                    refine lv_iconst (v := 3) hx hb dL_law_308 (by decide) ?_
                    obtain ⟨r41, h41, h⟩ := tq_r h
                    refine call_i (v := r41) (wc := (gBo bh bk v240.1 ++ (gS t (bk 0) nb v240.2.1))) (wc' := (gBo bh bk v240.1 ++ (gS t (bk 0) nb v240.2.1))) (ws' := (gBo bh bk v240.1 ++ (gS t (bk 0) nb v240.2.1 ++ (gS t (bk 1) pb v240.2.2.1 ++ (gE t (bk 2) eb v240.2.2.2.1 ++ (gQ t (bk 3) sa ++ (g6 t sa sb v240.2.2.2.2.1))))))) (cutB (bs := [gBo bh bk v240.1, gS t (bk 0) nb v240.2.1, gS t (bk 1) pb v240.2.2.1, gE t (bk 2) eb v240.2.2.2.1, gQ t (bk 3) sa, g6 t sa sb v240.2.2.2.2.1]) (cs := [gBo bh bk v240.1, gS t (bk 0) nb v240.2.1]) (cs' := [gBo bh bk v240.1, gS t (bk 0) nb v240.2.1]) (bs' := [gBo bh bk v240.1, gS t (bk 0) nb v240.2.1, gS t (bk 1) pb v240.2.2.1, gE t (bk 2) eb v240.2.2.2.1, gQ t (bk 3) sa, g6 t sa sb v240.2.2.2.2.1]) [0, 1] hP hD hS hA rfl rfl rfl rfl) hS (fun hPc hDc => va_runV (As := [.int 3]) (rest := []) ⟨hx, hb, hml, hown, hts⟩ (mtX2_count l D t bh bk v240.1 nb v240.2.1 3 r41 h41 _) (cwV 1 hts (gBV kw45 kw46 kw47 kw2 kw48) rfl rfl rfl (by decide +kernel) ⟨Nat.le_of_ble_eq_true rfl, Nat.le_of_ble_eq_true rfl⟩) (sPc_V hPc hK hDc hE (va_recv hK hP (ci := 2) (q0 := 0) rfl rfl)) rfl rfl hl.1 rfl (lv_room (Nat.le_of_ble_eq_true rfl)) dL_law_309 ⟨hcc1, hss1⟩) (fun H locs hP hD hS => ?_)
                    refine lv_iload hx hb dL_law_312 (lv_at hl 12 rfl) ?_
                    refine lv_icmp_lt (tgt := 349) hx hb dL_law_314 (by decide) (fun c42 => ?_) (fun c42 => ?_)
                    · have h := it_p c42 h
                      refine lv_iconst (v := 0) hx hb dL_law_349 (by decide) ?_
                      refine lv_istore_n (lv' := [(2, .int 0), (0, .ref b), (1, .ref bh), (3, .int v240.2.2.2.2.2.1), (4, .int v240.2.2.2.2.2.2.1), (6, .int v240.2.2.2.2.2.2.2.1), (7, .int v240.2.2.2.2.2.2.2.2.1), (8, .int v240.2.2.2.2.2.2.2.2.2.1), (9, .int v240.2.2.2.2.2.2.2.2.2.2.1), (10, .int v240.2.2.2.2.2.2.2.2.2.2.2.1), (11, .int v240.2.2.2.2.2.2.2.2.2.2.2.2.1), (12, .int v240.2.2.2.2.2.2.2.2.2.2.2.2.2.1), (13, .int v240.2.2.2.2.2.2.2.2.2.2.2.2.2.2.1), (16, .int v240.2.2.2.2.2.2.2.2.2.2.2.2.2.2.2.1)]) hx hb dL_law_350 rfl hl (by decide) rfl (fun ls hl => ?_)
                      refine lv_iconst (v := 0) hx hb dL_law_351 (by decide) ?_
                      refine lv_istore (lv' := [(17, .int 0), (2, .int 0), (0, .ref b), (1, .ref bh), (3, .int v240.2.2.2.2.2.1), (4, .int v240.2.2.2.2.2.2.1), (6, .int v240.2.2.2.2.2.2.2.1), (7, .int v240.2.2.2.2.2.2.2.2.1), (8, .int v240.2.2.2.2.2.2.2.2.2.1), (9, .int v240.2.2.2.2.2.2.2.2.2.2.1), (10, .int v240.2.2.2.2.2.2.2.2.2.2.2.1), (11, .int v240.2.2.2.2.2.2.2.2.2.2.2.2.1), (12, .int v240.2.2.2.2.2.2.2.2.2.2.2.2.2.1), (13, .int v240.2.2.2.2.2.2.2.2.2.2.2.2.2.2.1), (16, .int v240.2.2.2.2.2.2.2.2.2.2.2.2.2.2.2.1)]) hx hb dL_law_352 hl (by decide) rfl (fun ls hl => ?_)
                      refine lv_iconst (v := 0) hx hb dL_law_354 (by decide) ?_
                      refine lv_istore (lv' := [(18, .int 0), (17, .int 0), (2, .int 0), (0, .ref b), (1, .ref bh), (3, .int v240.2.2.2.2.2.1), (4, .int v240.2.2.2.2.2.2.1), (6, .int v240.2.2.2.2.2.2.2.1), (7, .int v240.2.2.2.2.2.2.2.2.1), (8, .int v240.2.2.2.2.2.2.2.2.2.1), (9, .int v240.2.2.2.2.2.2.2.2.2.2.1), (10, .int v240.2.2.2.2.2.2.2.2.2.2.2.1), (11, .int v240.2.2.2.2.2.2.2.2.2.2.2.2.1), (12, .int v240.2.2.2.2.2.2.2.2.2.2.2.2.2.1), (13, .int v240.2.2.2.2.2.2.2.2.2.2.2.2.2.2.1), (16, .int v240.2.2.2.2.2.2.2.2.2.2.2.2.2.2.2.1)]) hx hb dL_law_355 hl (by decide) rfl (fun ls hl => ?_)
                      exact J357 2000 (v240.1, v240.2.1, v240.2.2.1, v240.2.2.2.1, v240.2.2.2.2.1, 0, v240.2.2.2.2.2.1, v240.2.2.2.2.2.2.1, v240.2.2.2.2.2.2.2.2.2.1, 0, 0) h _ _ hP hD hS _ (lv_sub hl [3, 4, 2, 5, 6, 9, 1, 0] rfl)
                    · have h := it_n c42 h
                      exact J317 (v240.1, v240.2.1, v240.2.2.1, v240.2.2.2.1, v240.2.2.2.2.1, v240.2.2.2.2.2.1, v240.2.2.2.2.2.2.1, v240.2.2.2.2.2.2.2.2.1, v240.2.2.2.2.2.2.2.2.2.1) h _ _ hP hD hS _ (lv_sub hl [1, 2, 3, 4, 6, 7] rfl)
  have J179 : ∀ v179 : BoT × ShT × ShT × ExT × (Nat → ShT) × Int32 × Int32 × Int32 × Int32 × Int32 × Int32 × Int32 × Int32 × Int32 × Int32 × Int32 × Int32 × Int32, fL_law_j179 L xs K32 v179 = some true → ∀ (H : Heap) (locs : List Loc), va_P D vwCl (gBo bh bk v179.1 ++ (gS t (bk 0) nb v179.2.1 ++ (gS t (bk 1) pb v179.2.2.1 ++ (gE t (bk 2) eb v179.2.2.2.1 ++ (gQ t (bk 3) sa ++ (g6 t sa sb v179.2.2.2.2.1)))))) H → va_D A (gBo bh bk v179.1 ++ (gS t (bk 0) nb v179.2.1 ++ (gS t (bk 1) pb v179.2.2.1 ++ (gE t (bk 2) eb v179.2.2.2.1 ++ (gQ t (bk 3) sa ++ (g6 t sa sb v179.2.2.2.2.1)))))) → va_S A s.heap H locs → ∀ ls : Array Slot, lv_has ls 19 [(0, .ref b), (1, .ref bh), (3, .int v179.2.2.2.2.2.1), (4, .int v179.2.2.2.2.2.2.1), (5, .int v179.2.2.2.2.2.2.2.1), (6, .int v179.2.2.2.2.2.2.2.2.1), (7, .int v179.2.2.2.2.2.2.2.2.2.1), (8, .int v179.2.2.2.2.2.2.2.2.2.2.1), (9, .int v179.2.2.2.2.2.2.2.2.2.2.2.1), (10, .int v179.2.2.2.2.2.2.2.2.2.2.2.2.1), (11, .int v179.2.2.2.2.2.2.2.2.2.2.2.2.2.1), (12, .int v179.2.2.2.2.2.2.2.2.2.2.2.2.2.2.1), (13, .int v179.2.2.2.2.2.2.2.2.2.2.2.2.2.2.2.1), (14, .int v179.2.2.2.2.2.2.2.2.2.2.2.2.2.2.2.2.1)] → W p l e room_1 s m #[Value.ref b] below meth c H locs cc ss Q (F0 m 179 ls [.int v179.2.2.2.2.2.2.2.2.2.2.2.2.2.2.2.2.2]) := by
    intro v179 h H locs hP hD hS ls hl
    unfold fL_law_j179 at h
    refine lv_istore (lv' := [(15, .int v179.2.2.2.2.2.2.2.2.2.2.2.2.2.2.2.2.2), (0, .ref b), (1, .ref bh), (3, .int v179.2.2.2.2.2.1), (4, .int v179.2.2.2.2.2.2.1), (5, .int v179.2.2.2.2.2.2.2.1), (6, .int v179.2.2.2.2.2.2.2.2.1), (7, .int v179.2.2.2.2.2.2.2.2.2.1), (8, .int v179.2.2.2.2.2.2.2.2.2.2.1), (9, .int v179.2.2.2.2.2.2.2.2.2.2.2.1), (10, .int v179.2.2.2.2.2.2.2.2.2.2.2.2.1), (11, .int v179.2.2.2.2.2.2.2.2.2.2.2.2.2.1), (12, .int v179.2.2.2.2.2.2.2.2.2.2.2.2.2.2.1), (13, .int v179.2.2.2.2.2.2.2.2.2.2.2.2.2.2.2.1), (14, .int v179.2.2.2.2.2.2.2.2.2.2.2.2.2.2.2.2.1)]) hx hb dL_law_179 hl (by decide) rfl (fun ls hl => ?_)
    refine lv_aload_n hx hb dL_law_181 rfl (lv_at hl 2 rfl) ?_
    refine lv_aload_n hx hb dL_law_182 rfl (lv_at hl 1 rfl) ?_
    refine lv_iconst (v := 3) hx hb dL_law_183 (by decide) ?_
    refine lv_iload hx hb dL_law_184 (lv_at hl 4 rfl) ?_
    refine lv_imul hx hb dL_law_186 ?_
    obtain ⟨r21, h21, h⟩ := ob h
    refine call_w (v := r21.1) (wc := (gBo bh bk v179.1 ++ (gS t (bk 0) nb v179.2.1 ++ (gE t (bk 2) eb v179.2.2.2.1 ++ (gQ t (bk 3) sa ++ (g6 t sa sb v179.2.2.2.2.1)))))) (wc' := (gBo bh bk r21.2.1 ++ (gS t (bk 0) nb r21.2.2.1 ++ (gE t (bk 2) eb r21.2.2.2.1 ++ (gQ t (bk 3) sa ++ (g6 t sa sb r21.2.2.2.2)))))) (ws' := (gBo bh bk r21.2.1 ++ (gS t (bk 0) nb r21.2.2.1 ++ (gS t (bk 1) pb v179.2.2.1 ++ (gE t (bk 2) eb r21.2.2.2.1 ++ (gQ t (bk 3) sa ++ (g6 t sa sb r21.2.2.2.2))))))) (cutB (bs := [gBo bh bk v179.1, gS t (bk 0) nb v179.2.1, gS t (bk 1) pb v179.2.2.1, gE t (bk 2) eb v179.2.2.2.1, gQ t (bk 3) sa, g6 t sa sb v179.2.2.2.2.1]) (cs := [gBo bh bk v179.1, gS t (bk 0) nb v179.2.1, gE t (bk 2) eb v179.2.2.2.1, gQ t (bk 3) sa, g6 t sa sb v179.2.2.2.2.1]) (cs' := [gBo bh bk r21.2.1, gS t (bk 0) nb r21.2.2.1, gE t (bk 2) eb r21.2.2.2.1, gQ t (bk 3) sa, g6 t sa sb r21.2.2.2.2]) (bs' := [gBo bh bk r21.2.1, gS t (bk 0) nb r21.2.2.1, gS t (bk 1) pb v179.2.2.1, gE t (bk 2) eb r21.2.2.2.1, gQ t (bk 3) sa, g6 t sa sb r21.2.2.2.2]) [0, 1, 3, 4, 5] hP hD hS hA rfl rfl rfl rfl) hS (fun hPc hDc hAB => va_runS (As := [.ref bh, .ref b, .int (3 * v179.2.2.2.2.2.2.1)]) (rest := []) ⟨hx, hb, hml, hown, hts⟩ (mtL_act l hfl D t bh bk v179.1 nb v179.2.1 eb v179.2.2.2.1 sa sb v179.2.2.2.2.1 (3 * v179.2.2.2.2.2.2.1) b L xs r21 h21 _) (va_cwS 3 hts (gBS kw194 kw195 kw69 kw196) rfl rfl rfl (by decide +kernel) ⟨Nat.le_of_ble_eq_true rfl, Nat.le_of_ble_eq_true rfl⟩) (yPc_S hPc hK hDc hE hX hS hAB hXs hbl hbA) rfl rfl hl.1 rfl (lv_room (Nat.le_of_ble_eq_true rfl)) dL_law_187 ⟨hcc1, hss1⟩) (fun H locs hP hD hS => ?_)
    refine lv_istore (lv' := [(16, .int r21.1), (15, .int v179.2.2.2.2.2.2.2.2.2.2.2.2.2.2.2.2.2), (0, .ref b), (1, .ref bh), (3, .int v179.2.2.2.2.2.1), (4, .int v179.2.2.2.2.2.2.1), (5, .int v179.2.2.2.2.2.2.2.1), (6, .int v179.2.2.2.2.2.2.2.2.1), (7, .int v179.2.2.2.2.2.2.2.2.2.1), (8, .int v179.2.2.2.2.2.2.2.2.2.2.1), (9, .int v179.2.2.2.2.2.2.2.2.2.2.2.1), (10, .int v179.2.2.2.2.2.2.2.2.2.2.2.2.1), (11, .int v179.2.2.2.2.2.2.2.2.2.2.2.2.2.1), (12, .int v179.2.2.2.2.2.2.2.2.2.2.2.2.2.2.1), (13, .int v179.2.2.2.2.2.2.2.2.2.2.2.2.2.2.2.1), (14, .int v179.2.2.2.2.2.2.2.2.2.2.2.2.2.2.2.2.1)]) hx hb dL_law_190 hl (by decide) rfl (fun ls hl => ?_)
    refine lv_iload hx hb dL_law_192 (lv_at hl 15 rfl) ?_
    refine lv_iload hx hb dL_law_194 (lv_at hl 1 rfl) ?_
    refine lv_icmp_ne (tgt := 239) hx hb dL_law_196 (by decide) (fun c22 => ?_) (fun c22 => ?_)
    · have h := it_n c22 h
      refine lv_iconst (v := 0) hx hb dL_law_239 (by decide) ?_
      exact J240 (r21.2.1, r21.2.2.1, v179.2.2.1, r21.2.2.2.1, r21.2.2.2.2, v179.2.2.2.2.2.1, v179.2.2.2.2.2.2.1, v179.2.2.2.2.2.2.2.2.1, v179.2.2.2.2.2.2.2.2.2.1, v179.2.2.2.2.2.2.2.2.2.2.1, v179.2.2.2.2.2.2.2.2.2.2.2.1, v179.2.2.2.2.2.2.2.2.2.2.2.2.1, v179.2.2.2.2.2.2.2.2.2.2.2.2.2.1, v179.2.2.2.2.2.2.2.2.2.2.2.2.2.2.1, v179.2.2.2.2.2.2.2.2.2.2.2.2.2.2.2.1, r21.1, 0) h _ _ hP hD hS _ (lv_sub hl [2, 3, 4, 5, 7, 8, 9, 10, 11, 12, 13, 14, 0] rfl)
    · have h := it_p c22 h
      refine lv_iload hx hb dL_law_199 (lv_at hl 0 rfl) ?_
      refine lv_if_ge (tgt := 235) hx hb dL_law_201 (by decide) (fun c23 => ?_) (fun c23 => ?_)
      · have h := it_p c23 h
        refine lv_iconst (v := 1) hx hb dL_law_235 (by decide) ?_
        refine lv_goto (tgt := 240) hx hb dL_law_236 (by decide) ?_
        exact J240 (r21.2.1, r21.2.2.1, v179.2.2.1, r21.2.2.2.1, r21.2.2.2.2, v179.2.2.2.2.2.1, v179.2.2.2.2.2.2.1, v179.2.2.2.2.2.2.2.2.1, v179.2.2.2.2.2.2.2.2.2.1, v179.2.2.2.2.2.2.2.2.2.2.1, v179.2.2.2.2.2.2.2.2.2.2.2.1, v179.2.2.2.2.2.2.2.2.2.2.2.2.1, v179.2.2.2.2.2.2.2.2.2.2.2.2.2.1, v179.2.2.2.2.2.2.2.2.2.2.2.2.2.2.1, v179.2.2.2.2.2.2.2.2.2.2.2.2.2.2.2.1, r21.1, 1) h _ _ hP hD hS _ (lv_sub hl [2, 3, 4, 5, 7, 8, 9, 10, 11, 12, 13, 14, 0] rfl)
      · have h := it_n c23 h
        refine lv_aload_n hx hb dL_law_204 rfl (lv_at hl 3 rfl) ?_
        refine lv_iconst (v := 4) hx hb dL_law_205 (by decide) ?_
        obtain ⟨r24, h24, h⟩ := tq_r h
        refine call_i (v := r24) (wc := (gBo bh bk r21.2.1 ++ (gS t (bk 0) nb r21.2.2.1))) (wc' := (gBo bh bk r21.2.1 ++ (gS t (bk 0) nb r21.2.2.1))) (ws' := (gBo bh bk r21.2.1 ++ (gS t (bk 0) nb r21.2.2.1 ++ (gS t (bk 1) pb v179.2.2.1 ++ (gE t (bk 2) eb r21.2.2.2.1 ++ (gQ t (bk 3) sa ++ (g6 t sa sb r21.2.2.2.2))))))) (cutB (bs := [gBo bh bk r21.2.1, gS t (bk 0) nb r21.2.2.1, gS t (bk 1) pb v179.2.2.1, gE t (bk 2) eb r21.2.2.2.1, gQ t (bk 3) sa, g6 t sa sb r21.2.2.2.2]) (cs := [gBo bh bk r21.2.1, gS t (bk 0) nb r21.2.2.1]) (cs' := [gBo bh bk r21.2.1, gS t (bk 0) nb r21.2.2.1]) (bs' := [gBo bh bk r21.2.1, gS t (bk 0) nb r21.2.2.1, gS t (bk 1) pb v179.2.2.1, gE t (bk 2) eb r21.2.2.2.1, gQ t (bk 3) sa, g6 t sa sb r21.2.2.2.2]) [0, 1] hP hD hS hA rfl rfl rfl rfl) hS (fun hPc hDc => va_runV (As := [.int 4]) (rest := []) ⟨hx, hb, hml, hown, hts⟩ (mtX2_count l D t bh bk r21.2.1 nb r21.2.2.1 4 r24 h24 _) (cwV 1 hts (gBV kw45 kw46 kw47 kw2 kw48) rfl rfl rfl (by decide +kernel) ⟨Nat.le_of_ble_eq_true rfl, Nat.le_of_ble_eq_true rfl⟩) (sPc_V hPc hK hDc hE (va_recv hK hP (ci := 2) (q0 := 0) rfl rfl)) rfl rfl hl.1 rfl (lv_room (Nat.le_of_ble_eq_true rfl)) dL_law_206 ⟨hcc1, hss1⟩) (fun H locs hP hD hS => ?_)
        refine lv_iload hx hb dL_law_209 (lv_at hl 6 rfl) ?_
        refine lv_icmp_ne (tgt := 239) hx hb dL_law_211 (by decide) (fun c25 => ?_) (fun c25 => ?_)
        · have h := it_n c25 h
          refine lv_iconst (v := 0) hx hb dL_law_239 (by decide) ?_
          exact J240 (r21.2.1, r21.2.2.1, v179.2.2.1, r21.2.2.2.1, r21.2.2.2.2, v179.2.2.2.2.2.1, v179.2.2.2.2.2.2.1, v179.2.2.2.2.2.2.2.2.1, v179.2.2.2.2.2.2.2.2.2.1, v179.2.2.2.2.2.2.2.2.2.2.1, v179.2.2.2.2.2.2.2.2.2.2.2.1, v179.2.2.2.2.2.2.2.2.2.2.2.2.1, v179.2.2.2.2.2.2.2.2.2.2.2.2.2.1, v179.2.2.2.2.2.2.2.2.2.2.2.2.2.2.1, v179.2.2.2.2.2.2.2.2.2.2.2.2.2.2.2.1, r21.1, 0) h _ _ hP hD hS _ (lv_sub hl [2, 3, 4, 5, 7, 8, 9, 10, 11, 12, 13, 14, 0] rfl)
        · have h := it_p c25 h
          refine lv_aload_n hx hb dL_law_214 rfl (lv_at hl 3 rfl) ?_
          refine lv_iconst (v := 0) hx hb dL_law_215 (by decide) ?_
          obtain ⟨r26, h26, h⟩ := tq_r h
          refine call_i (v := r26) (wc := (gBo bh bk r21.2.1 ++ (gS t (bk 0) nb r21.2.2.1))) (wc' := (gBo bh bk r21.2.1 ++ (gS t (bk 0) nb r21.2.2.1))) (ws' := (gBo bh bk r21.2.1 ++ (gS t (bk 0) nb r21.2.2.1 ++ (gS t (bk 1) pb v179.2.2.1 ++ (gE t (bk 2) eb r21.2.2.2.1 ++ (gQ t (bk 3) sa ++ (g6 t sa sb r21.2.2.2.2))))))) (cutB (bs := [gBo bh bk r21.2.1, gS t (bk 0) nb r21.2.2.1, gS t (bk 1) pb v179.2.2.1, gE t (bk 2) eb r21.2.2.2.1, gQ t (bk 3) sa, g6 t sa sb r21.2.2.2.2]) (cs := [gBo bh bk r21.2.1, gS t (bk 0) nb r21.2.2.1]) (cs' := [gBo bh bk r21.2.1, gS t (bk 0) nb r21.2.2.1]) (bs' := [gBo bh bk r21.2.1, gS t (bk 0) nb r21.2.2.1, gS t (bk 1) pb v179.2.2.1, gE t (bk 2) eb r21.2.2.2.1, gQ t (bk 3) sa, g6 t sa sb r21.2.2.2.2]) [0, 1] hP hD hS hA rfl rfl rfl rfl) hS (fun hPc hDc => va_runV (As := [.int 0]) (rest := []) ⟨hx, hb, hml, hown, hts⟩ (mtX2_count l D t bh bk r21.2.1 nb r21.2.2.1 0 r26 h26 _) (cwV 1 hts (gBV kw45 kw46 kw47 kw2 kw48) rfl rfl rfl (by decide +kernel) ⟨Nat.le_of_ble_eq_true rfl, Nat.le_of_ble_eq_true rfl⟩) (sPc_V hPc hK hDc hE (va_recv hK hP (ci := 2) (q0 := 0) rfl rfl)) rfl rfl hl.1 rfl (lv_room (Nat.le_of_ble_eq_true rfl)) dL_law_216 ⟨hcc1, hss1⟩) (fun H locs hP hD hS => ?_)
          refine lv_iload hx hb dL_law_219 (lv_at hl 7 rfl) ?_
          refine lv_icmp_ne (tgt := 239) hx hb dL_law_221 (by decide) (fun c27 => ?_) (fun c27 => ?_)
          · have h := it_n c27 h
            refine lv_iconst (v := 0) hx hb dL_law_239 (by decide) ?_
            exact J240 (r21.2.1, r21.2.2.1, v179.2.2.1, r21.2.2.2.1, r21.2.2.2.2, v179.2.2.2.2.2.1, v179.2.2.2.2.2.2.1, v179.2.2.2.2.2.2.2.2.1, v179.2.2.2.2.2.2.2.2.2.1, v179.2.2.2.2.2.2.2.2.2.2.1, v179.2.2.2.2.2.2.2.2.2.2.2.1, v179.2.2.2.2.2.2.2.2.2.2.2.2.1, v179.2.2.2.2.2.2.2.2.2.2.2.2.2.1, v179.2.2.2.2.2.2.2.2.2.2.2.2.2.2.1, v179.2.2.2.2.2.2.2.2.2.2.2.2.2.2.2.1, r21.1, 0) h _ _ hP hD hS _ (lv_sub hl [2, 3, 4, 5, 7, 8, 9, 10, 11, 12, 13, 14, 0] rfl)
          · have h := it_p c27 h
            refine lv_aload_n hx hb dL_law_224 rfl (lv_at hl 3 rfl) ?_
            refine lv_iconst (v := 0) hx hb dL_law_225 (by decide) ?_
            refine lv_iconst (v := 0) hx hb dL_law_226 (by decide) ?_
            obtain ⟨r28, h28, h⟩ := tq_r h
            refine call_i (v := r28) (wc := (gBo bh bk r21.2.1 ++ (gS t (bk 0) nb r21.2.2.1))) (wc' := (gBo bh bk r21.2.1 ++ (gS t (bk 0) nb r21.2.2.1))) (ws' := (gBo bh bk r21.2.1 ++ (gS t (bk 0) nb r21.2.2.1 ++ (gS t (bk 1) pb v179.2.2.1 ++ (gE t (bk 2) eb r21.2.2.2.1 ++ (gQ t (bk 3) sa ++ (g6 t sa sb r21.2.2.2.2))))))) (cutB (bs := [gBo bh bk r21.2.1, gS t (bk 0) nb r21.2.2.1, gS t (bk 1) pb v179.2.2.1, gE t (bk 2) eb r21.2.2.2.1, gQ t (bk 3) sa, g6 t sa sb r21.2.2.2.2]) (cs := [gBo bh bk r21.2.1, gS t (bk 0) nb r21.2.2.1]) (cs' := [gBo bh bk r21.2.1, gS t (bk 0) nb r21.2.2.1]) (bs' := [gBo bh bk r21.2.1, gS t (bk 0) nb r21.2.2.1, gS t (bk 1) pb v179.2.2.1, gE t (bk 2) eb r21.2.2.2.1, gQ t (bk 3) sa, g6 t sa sb r21.2.2.2.2]) [0, 1] hP hD hS hA rfl rfl rfl rfl) hS (fun hPc hDc => va_runV (As := [.int 0, .int 0]) (rest := []) ⟨hx, hb, hml, hown, hts⟩ (mtX2_curtain l D t bh bk r21.2.1 nb r21.2.2.1 0 0 r28 h28 _) (cwV 2 hts (gBV kw158 kw159 kw160 kw2 kw161) rfl rfl rfl (by decide +kernel) ⟨Nat.le_of_ble_eq_true rfl, Nat.le_of_ble_eq_true rfl⟩) (sPc_V hPc hK hDc hE (va_recv hK hP (ci := 2) (q0 := 0) rfl rfl)) rfl rfl hl.1 rfl (lv_room (Nat.le_of_ble_eq_true rfl)) dL_law_227 ⟨hcc1, hss1⟩) (fun H locs hP hD hS => ?_)
            refine lv_iload hx hb dL_law_230 (lv_at hl 13 rfl) ?_
            refine lv_icmp_ne (tgt := 239) hx hb dL_law_232 (by decide) (fun c29 => ?_) (fun c29 => ?_)
            · have h := it_n c29 h
              refine lv_iconst (v := 0) hx hb dL_law_239 (by decide) ?_
              exact J240 (r21.2.1, r21.2.2.1, v179.2.2.1, r21.2.2.2.1, r21.2.2.2.2, v179.2.2.2.2.2.1, v179.2.2.2.2.2.2.1, v179.2.2.2.2.2.2.2.2.1, v179.2.2.2.2.2.2.2.2.2.1, v179.2.2.2.2.2.2.2.2.2.2.1, v179.2.2.2.2.2.2.2.2.2.2.2.1, v179.2.2.2.2.2.2.2.2.2.2.2.2.1, v179.2.2.2.2.2.2.2.2.2.2.2.2.2.1, v179.2.2.2.2.2.2.2.2.2.2.2.2.2.2.1, v179.2.2.2.2.2.2.2.2.2.2.2.2.2.2.2.1, r21.1, 0) h _ _ hP hD hS _ (lv_sub hl [2, 3, 4, 5, 7, 8, 9, 10, 11, 12, 13, 14, 0] rfl)
            · have h := it_p c29 h
              refine lv_iconst (v := 1) hx hb dL_law_235 (by decide) ?_
              refine lv_goto (tgt := 240) hx hb dL_law_236 (by decide) ?_
              exact J240 (r21.2.1, r21.2.2.1, v179.2.2.1, r21.2.2.2.1, r21.2.2.2.2, v179.2.2.2.2.2.1, v179.2.2.2.2.2.2.1, v179.2.2.2.2.2.2.2.2.1, v179.2.2.2.2.2.2.2.2.2.1, v179.2.2.2.2.2.2.2.2.2.2.1, v179.2.2.2.2.2.2.2.2.2.2.2.1, v179.2.2.2.2.2.2.2.2.2.2.2.2.1, v179.2.2.2.2.2.2.2.2.2.2.2.2.2.1, v179.2.2.2.2.2.2.2.2.2.2.2.2.2.2.1, v179.2.2.2.2.2.2.2.2.2.2.2.2.2.2.2.1, r21.1, 1) h _ _ hP hD hS _ (lv_sub hl [2, 3, 4, 5, 7, 8, 9, 10, 11, 12, 13, 14, 0] rfl)
  have J160 : ∀ v160 : BoT × ShT × ShT × ExT × (Nat → ShT) × Int32 × Int32 × Int32 × Int32 × Int32 × Int32 × Int32 × Int32 × Int32 × Int32 × Int32 × Int32, fL_law_j160 L xs K32 v160 = some true → ∀ (H : Heap) (locs : List Loc), va_P D vwCl (gBo bh bk v160.1 ++ (gS t (bk 0) nb v160.2.1 ++ (gS t (bk 1) pb v160.2.2.1 ++ (gE t (bk 2) eb v160.2.2.2.1 ++ (gQ t (bk 3) sa ++ (g6 t sa sb v160.2.2.2.2.1)))))) H → va_D A (gBo bh bk v160.1 ++ (gS t (bk 0) nb v160.2.1 ++ (gS t (bk 1) pb v160.2.2.1 ++ (gE t (bk 2) eb v160.2.2.2.1 ++ (gQ t (bk 3) sa ++ (g6 t sa sb v160.2.2.2.2.1)))))) → va_S A s.heap H locs → ∀ ls : Array Slot, lv_has ls 19 [(0, .ref b), (1, .ref bh), (3, .int v160.2.2.2.2.2.1), (4, .int v160.2.2.2.2.2.2.1), (5, .int v160.2.2.2.2.2.2.2.1), (6, .int v160.2.2.2.2.2.2.2.2.1), (7, .int v160.2.2.2.2.2.2.2.2.2.1), (8, .int v160.2.2.2.2.2.2.2.2.2.2.1), (9, .int v160.2.2.2.2.2.2.2.2.2.2.2.1), (10, .int v160.2.2.2.2.2.2.2.2.2.2.2.2.1), (11, .int v160.2.2.2.2.2.2.2.2.2.2.2.2.2.1), (12, .int v160.2.2.2.2.2.2.2.2.2.2.2.2.2.2.1), (13, .int v160.2.2.2.2.2.2.2.2.2.2.2.2.2.2.2.1)] → W p l e room_1 s m #[Value.ref b] below meth c H locs cc ss Q (F0 m 160 ls [.int v160.2.2.2.2.2.2.2.2.2.2.2.2.2.2.2.2]) := by
    intro v160 h H locs hP hD hS ls hl
    unfold fL_law_j160 at h
    refine lv_istore (lv' := [(14, .int v160.2.2.2.2.2.2.2.2.2.2.2.2.2.2.2.2), (0, .ref b), (1, .ref bh), (3, .int v160.2.2.2.2.2.1), (4, .int v160.2.2.2.2.2.2.1), (5, .int v160.2.2.2.2.2.2.2.1), (6, .int v160.2.2.2.2.2.2.2.2.1), (7, .int v160.2.2.2.2.2.2.2.2.2.1), (8, .int v160.2.2.2.2.2.2.2.2.2.2.1), (9, .int v160.2.2.2.2.2.2.2.2.2.2.2.1), (10, .int v160.2.2.2.2.2.2.2.2.2.2.2.2.1), (11, .int v160.2.2.2.2.2.2.2.2.2.2.2.2.2.1), (12, .int v160.2.2.2.2.2.2.2.2.2.2.2.2.2.2.1), (13, .int v160.2.2.2.2.2.2.2.2.2.2.2.2.2.2.2.1)]) hx hb dL_law_160 hl (by decide) rfl (fun ls hl => ?_)
    refine lv_aload_n hx hb dL_law_162 rfl (lv_at hl 2 rfl) ?_
    refine lv_iload hx hb dL_law_163 (lv_at hl 8 rfl) ?_
    refine lv_iconst (v := 5) hx hb dL_law_165 (by decide) ?_
    obtain ⟨r19, h19, h⟩ := tq_r h
    refine call_i (v := r19.1) (wc := (gBo bh bk v160.1 ++ (gS t (bk 0) nb v160.2.1 ++ (gE t (bk 2) eb v160.2.2.2.1)))) (wc' := (gBo bh bk v160.1 ++ (gS t (bk 0) nb v160.2.1 ++ (gE t (bk 2) eb r19.2)))) (ws' := (gBo bh bk v160.1 ++ (gS t (bk 0) nb v160.2.1 ++ (gS t (bk 1) pb v160.2.2.1 ++ (gE t (bk 2) eb r19.2 ++ (gQ t (bk 3) sa ++ (g6 t sa sb v160.2.2.2.2.1))))))) (cutB (bs := [gBo bh bk v160.1, gS t (bk 0) nb v160.2.1, gS t (bk 1) pb v160.2.2.1, gE t (bk 2) eb v160.2.2.2.1, gQ t (bk 3) sa, g6 t sa sb v160.2.2.2.2.1]) (cs := [gBo bh bk v160.1, gS t (bk 0) nb v160.2.1, gE t (bk 2) eb v160.2.2.2.1]) (cs' := [gBo bh bk v160.1, gS t (bk 0) nb v160.2.1, gE t (bk 2) eb r19.2]) (bs' := [gBo bh bk v160.1, gS t (bk 0) nb v160.2.1, gS t (bk 1) pb v160.2.2.1, gE t (bk 2) eb r19.2, gQ t (bk 3) sa, g6 t sa sb v160.2.2.2.2.1]) [0, 1, 3] hP hD hS hA rfl rfl rfl rfl) hS (fun hPc hDc => va_runV (As := [.int v160.2.2.2.2.2.2.2.2.2.2.1, .int 5]) (rest := []) ⟨hx, hb, hml, hown, hts⟩ (mtX2_speed l D t bh bk v160.1 nb v160.2.1 eb v160.2.2.2.1 v160.2.2.2.2.2.2.2.2.2.2.1 5 r19 h19 _) (cwV 2 hts (gBV kw183 kw184 kw185 kw2 kw186) rfl rfl rfl (by decide +kernel) ⟨Nat.le_of_ble_eq_true rfl, Nat.le_of_ble_eq_true rfl⟩) (sPc_V hPc hK hDc hE (va_recv hK hP (ci := 2) (q0 := 0) rfl rfl)) rfl rfl hl.1 rfl (lv_room (Nat.le_of_ble_eq_true rfl)) dL_law_166 ⟨Nat.le_of_succ_le hcc1, Nat.le_trans (Nat.le_add_right _ _) hss1⟩) (fun H locs hP hD hS => ?_)
    refine lv_bipush (v := 100) hx hb dL_law_169 (by decide) ?_
    refine lv_icmp_gt (tgt := 178) hx hb dL_law_171 (by decide) (fun c20 => ?_) (fun c20 => ?_)
    · have h := it_p c20 h
      refine lv_iconst (v := 0) hx hb dL_law_178 (by decide) ?_
      exact J179 (v160.1, v160.2.1, v160.2.2.1, r19.2, v160.2.2.2.2.1, v160.2.2.2.2.2.1, v160.2.2.2.2.2.2.1, v160.2.2.2.2.2.2.2.1, v160.2.2.2.2.2.2.2.2.1, v160.2.2.2.2.2.2.2.2.2.1, v160.2.2.2.2.2.2.2.2.2.2.1, v160.2.2.2.2.2.2.2.2.2.2.2.1, v160.2.2.2.2.2.2.2.2.2.2.2.2.1, v160.2.2.2.2.2.2.2.2.2.2.2.2.2.1, v160.2.2.2.2.2.2.2.2.2.2.2.2.2.2.1, v160.2.2.2.2.2.2.2.2.2.2.2.2.2.2.2.1, v160.2.2.2.2.2.2.2.2.2.2.2.2.2.2.2.2, 0) h _ _ hP hD hS _ (lv_sub hl [1, 2, 3, 4, 5, 6, 7, 8, 9, 10, 11, 12, 13, 0] rfl)
    · have h := it_n c20 h
      refine lv_iconst (v := 1) hx hb dL_law_174 (by decide) ?_
      refine lv_goto (tgt := 179) hx hb dL_law_175 (by decide) ?_
      exact J179 (v160.1, v160.2.1, v160.2.2.1, r19.2, v160.2.2.2.2.1, v160.2.2.2.2.2.1, v160.2.2.2.2.2.2.1, v160.2.2.2.2.2.2.2.1, v160.2.2.2.2.2.2.2.2.1, v160.2.2.2.2.2.2.2.2.2.1, v160.2.2.2.2.2.2.2.2.2.2.1, v160.2.2.2.2.2.2.2.2.2.2.2.1, v160.2.2.2.2.2.2.2.2.2.2.2.2.1, v160.2.2.2.2.2.2.2.2.2.2.2.2.2.1, v160.2.2.2.2.2.2.2.2.2.2.2.2.2.2.1, v160.2.2.2.2.2.2.2.2.2.2.2.2.2.2.2.1, v160.2.2.2.2.2.2.2.2.2.2.2.2.2.2.2.2, 1) h _ _ hP hD hS _ (lv_sub hl [1, 2, 3, 4, 5, 6, 7, 8, 9, 10, 11, 12, 13, 0] rfl)
  refine lv_iload hx hb dL_law_32 (lv_at hl 4 rfl) ?_
  refine lv_iload_n hx hb dL_law_34 rfl (lv_at hl 3 rfl) ?_
  refine lv_icmp_ge (tgt := 438) hx hb dL_law_35 (by decide) (fun c1 => ?_) (fun c1 => ?_)
  · have h := it_p c1 h
    refine lv_iload_n hx hb dL_law_438 rfl (lv_at hl 2 rfl) ?_
    by_cases c2 : v.2.2.2.2.2.1 = 1
    · rw [c2]
      exact hend (v.1, v.2.1, v.2.2.1, v.2.2.2.1, v.2.2.2.2.1) _ _ _ _ (Nat.le_of_succ_le hcc1) (Nat.le_trans (Nat.le_add_right _ _) hss1) hP hD hS _
    · have h := it_n c2 h
      cases h
  · have h := it_n c1 h
    refine lv_iload_n hx hb dL_law_38 rfl (lv_at hl 2 rfl) ?_
    refine lv_if_eq (tgt := 438) hx hb dL_law_39 (by decide) (fun c3 => ?_) (fun c3 => ?_)
    · have h := it_p c3 h
      refine lv_iload_n hx hb dL_law_438 rfl (lv_at hl 2 rfl) ?_
      by_cases c4 : v.2.2.2.2.2.1 = 1
      · rw [c4]
        exact hend (v.1, v.2.1, v.2.2.1, v.2.2.2.1, v.2.2.2.2.1) _ _ _ _ (Nat.le_of_succ_le hcc1) (Nat.le_trans (Nat.le_add_right _ _) hss1) hP hD hS _
      · have h := it_n c4 h
        cases h
    · have h := it_n c3 h
      refine lv_aload_n hx hb dL_law_42 rfl (lv_at hl 1 rfl) ?_
      refine lv_iconst (v := 4) hx hb dL_law_43 (by decide) ?_
      obtain ⟨r5, h5, h⟩ := tq_r h
      refine call_i (v := r5) (wc := (gBo bh bk v.1 ++ (gS t (bk 0) nb v.2.1))) (wc' := (gBo bh bk v.1 ++ (gS t (bk 0) nb v.2.1))) (ws' := (gBo bh bk v.1 ++ (gS t (bk 0) nb v.2.1 ++ (gS t (bk 1) pb v.2.2.1 ++ (gE t (bk 2) eb v.2.2.2.1 ++ (gQ t (bk 3) sa ++ (g6 t sa sb v.2.2.2.2.1))))))) (cutB (bs := [gBo bh bk v.1, gS t (bk 0) nb v.2.1, gS t (bk 1) pb v.2.2.1, gE t (bk 2) eb v.2.2.2.1, gQ t (bk 3) sa, g6 t sa sb v.2.2.2.2.1]) (cs := [gBo bh bk v.1, gS t (bk 0) nb v.2.1]) (cs' := [gBo bh bk v.1, gS t (bk 0) nb v.2.1]) (bs' := [gBo bh bk v.1, gS t (bk 0) nb v.2.1, gS t (bk 1) pb v.2.2.1, gE t (bk 2) eb v.2.2.2.1, gQ t (bk 3) sa, g6 t sa sb v.2.2.2.2.1]) [0, 1] hP hD hS hA rfl rfl rfl rfl) hS (fun hPc hDc => va_runV (As := [.int 4]) (rest := []) ⟨hx, hb, hml, hown, hts⟩ (mtX2_count l D t bh bk v.1 nb v.2.1 4 r5 h5 _) (cwV 1 hts (gBV kw45 kw46 kw47 kw2 kw48) rfl rfl rfl (by decide +kernel) ⟨Nat.le_of_ble_eq_true rfl, Nat.le_of_ble_eq_true rfl⟩) (sPc_V hPc hK hDc hE (va_recv hK hP (ci := 2) (q0 := 0) rfl rfl)) rfl rfl hl.1 rfl (lv_room (Nat.le_of_ble_eq_true rfl)) dL_law_44 ⟨Nat.le_of_succ_le hcc1, Nat.le_trans (Nat.le_add_right _ _) hss1⟩) (fun H locs hP hD hS => ?_)
      refine lv_istore (lv' := [(5, .int r5), (0, .ref b), (1, .ref bh), (2, .int v.2.2.2.2.2.1), (3, .int v.2.2.2.2.2.2.1), (4, .int v.2.2.2.2.2.2.2)]) hx hb dL_law_47 hl (by decide) rfl (fun ls hl => ?_)
      refine lv_aload_n hx hb dL_law_49 rfl (lv_at hl 2 rfl) ?_
      refine lv_iconst (v := 0) hx hb dL_law_50 (by decide) ?_
      obtain ⟨r6, h6, h⟩ := tq_r h
      refine call_i (v := r6) (wc := (gBo bh bk v.1 ++ (gS t (bk 0) nb v.2.1))) (wc' := (gBo bh bk v.1 ++ (gS t (bk 0) nb v.2.1))) (ws' := (gBo bh bk v.1 ++ (gS t (bk 0) nb v.2.1 ++ (gS t (bk 1) pb v.2.2.1 ++ (gE t (bk 2) eb v.2.2.2.1 ++ (gQ t (bk 3) sa ++ (g6 t sa sb v.2.2.2.2.1))))))) (cutB (bs := [gBo bh bk v.1, gS t (bk 0) nb v.2.1, gS t (bk 1) pb v.2.2.1, gE t (bk 2) eb v.2.2.2.1, gQ t (bk 3) sa, g6 t sa sb v.2.2.2.2.1]) (cs := [gBo bh bk v.1, gS t (bk 0) nb v.2.1]) (cs' := [gBo bh bk v.1, gS t (bk 0) nb v.2.1]) (bs' := [gBo bh bk v.1, gS t (bk 0) nb v.2.1, gS t (bk 1) pb v.2.2.1, gE t (bk 2) eb v.2.2.2.1, gQ t (bk 3) sa, g6 t sa sb v.2.2.2.2.1]) [0, 1] hP hD hS hA rfl rfl rfl rfl) hS (fun hPc hDc => va_runV (As := [.int 0]) (rest := []) ⟨hx, hb, hml, hown, hts⟩ (mtX2_count l D t bh bk v.1 nb v.2.1 0 r6 h6 _) (cwV 1 hts (gBV kw45 kw46 kw47 kw2 kw48) rfl rfl rfl (by decide +kernel) ⟨Nat.le_of_ble_eq_true rfl, Nat.le_of_ble_eq_true rfl⟩) (sPc_V hPc hK hDc hE (va_recv hK hP (ci := 2) (q0 := 0) rfl rfl)) rfl rfl hl.1 rfl (lv_room (Nat.le_of_ble_eq_true rfl)) dL_law_51 ⟨Nat.le_of_succ_le hcc1, Nat.le_trans (Nat.le_add_right _ _) hss1⟩) (fun H locs hP hD hS => ?_)
      refine lv_istore (lv' := [(6, .int r6), (5, .int r5), (0, .ref b), (1, .ref bh), (2, .int v.2.2.2.2.2.1), (3, .int v.2.2.2.2.2.2.1), (4, .int v.2.2.2.2.2.2.2)]) hx hb dL_law_54 hl (by decide) rfl (fun ls hl => ?_)
      refine lv_aload_n hx hb dL_law_56 rfl (lv_at hl 2 rfl) ?_
      refine lv_iconst (v := 3) hx hb dL_law_57 (by decide) ?_
      refine lv_iload hx hb dL_law_58 (lv_at hl 6 rfl) ?_
      refine lv_imul hx hb dL_law_60 ?_
      obtain ⟨r7, h7, h⟩ := ob h
      refine call_y (v := r7) (wc := ([] : va_W)) (wc' := ([] : va_W)) (ws' := (gBo bh bk v.1 ++ (gS t (bk 0) nb v.2.1 ++ (gS t (bk 1) pb v.2.2.1 ++ (gE t (bk 2) eb v.2.2.2.1 ++ (gQ t (bk 3) sa ++ (g6 t sa sb v.2.2.2.2.1))))))) (cutB (bs := [gBo bh bk v.1, gS t (bk 0) nb v.2.1, gS t (bk 1) pb v.2.2.1, gE t (bk 2) eb v.2.2.2.1, gQ t (bk 3) sa, g6 t sa sb v.2.2.2.2.1]) (cs := []) (cs' := []) (bs' := [gBo bh bk v.1, gS t (bk 0) nb v.2.1, gS t (bk 1) pb v.2.2.1, gE t (bk 2) eb v.2.2.2.1, gQ t (bk 3) sa, g6 t sa sb v.2.2.2.2.1]) [] hP hD hS hA rfl rfl rfl rfl) hS (fun hPc hDc hAB => va_runS (As := [.ref b, .int (3 * v.2.2.2.2.2.2.2)]) (rest := []) ⟨hx, hb, hml, hown, hts⟩ (mtL_cell l D t (3 * v.2.2.2.2.2.2.2) b L xs r7 h7 _) (va_cwS 2 hts (gBS kw67 kw68 kw69 kw70) rfl rfl rfl (by decide +kernel) ⟨Nat.le_of_ble_eq_true rfl, Nat.le_of_ble_eq_true rfl⟩) (yPc_S hPc hK hDc hE hX hS hAB hXs hbl hbA) rfl rfl hl.1 rfl (lv_room (Nat.le_of_ble_eq_true rfl)) dL_law_61 ⟨Nat.le_of_succ_le hcc1, Nat.le_trans (Nat.le_add_right _ _) hss1⟩) (fun H locs hP hD hS => ?_)
      refine lv_bipush (v := 16) hx hb dL_law_64 (by decide) ?_
      obtain ⟨r8, h8, h⟩ := ob h
      refine call_i (v := r8) (wc := ([] : va_W)) (wc' := ([] : va_W)) (ws' := (gBo bh bk v.1 ++ (gS t (bk 0) nb v.2.1 ++ (gS t (bk 1) pb v.2.2.1 ++ (gE t (bk 2) eb v.2.2.2.1 ++ (gQ t (bk 3) sa ++ (g6 t sa sb v.2.2.2.2.1))))))) (cutB (bs := [gBo bh bk v.1, gS t (bk 0) nb v.2.1, gS t (bk 1) pb v.2.2.1, gE t (bk 2) eb v.2.2.2.1, gQ t (bk 3) sa, g6 t sa sb v.2.2.2.2.1]) (cs := []) (cs' := []) (bs' := [gBo bh bk v.1, gS t (bk 0) nb v.2.1, gS t (bk 1) pb v.2.2.1, gE t (bk 2) eb v.2.2.2.1, gQ t (bk 3) sa, g6 t sa sb v.2.2.2.2.1]) [] hP hD hS hA rfl rfl rfl rfl) hS (fun hPc hDc => va_runS (As := [.int r7, .int 16]) (rest := []) ⟨hx, hb, hml, hown, hts⟩ (mtL_low l D t r7 16 r8 h8 _) (va_cwS 2 hts (gBS kw72 kw73 kw69 kw74) rfl rfl rfl (by decide +kernel) ⟨Nat.le_of_ble_eq_true rfl, Nat.le_of_ble_eq_true rfl⟩) (sPc_S hPc hK hDc hE) rfl rfl hl.1 rfl (lv_room (Nat.le_of_ble_eq_true rfl)) dL_law_66 ⟨Nat.le_of_succ_le hcc1, Nat.le_trans (Nat.le_add_right _ _) hss1⟩) (fun H locs hP hD hS => ?_)
      refine lv_istore (lv' := [(7, .int r8), (6, .int r6), (5, .int r5), (0, .ref b), (1, .ref bh), (2, .int v.2.2.2.2.2.1), (3, .int v.2.2.2.2.2.2.1), (4, .int v.2.2.2.2.2.2.2)]) hx hb dL_law_69 hl (by decide) rfl (fun ls hl => ?_)
      refine lv_aload_n hx hb dL_law_71 rfl (lv_at hl 3 rfl) ?_
      refine lv_iconst (v := 3) hx hb dL_law_72 (by decide) ?_
      refine lv_iload hx hb dL_law_73 (lv_at hl 7 rfl) ?_
      refine lv_imul hx hb dL_law_75 ?_
      refine lv_iconst (v := 1) hx hb dL_law_76 (by decide) ?_
      refine lv_iadd hx hb dL_law_77 ?_
      obtain ⟨r9, h9, h⟩ := ob h
      refine call_y (v := r9) (wc := ([] : va_W)) (wc' := ([] : va_W)) (ws' := (gBo bh bk v.1 ++ (gS t (bk 0) nb v.2.1 ++ (gS t (bk 1) pb v.2.2.1 ++ (gE t (bk 2) eb v.2.2.2.1 ++ (gQ t (bk 3) sa ++ (g6 t sa sb v.2.2.2.2.1))))))) (cutB (bs := [gBo bh bk v.1, gS t (bk 0) nb v.2.1, gS t (bk 1) pb v.2.2.1, gE t (bk 2) eb v.2.2.2.1, gQ t (bk 3) sa, g6 t sa sb v.2.2.2.2.1]) (cs := []) (cs' := []) (bs' := [gBo bh bk v.1, gS t (bk 0) nb v.2.1, gS t (bk 1) pb v.2.2.1, gE t (bk 2) eb v.2.2.2.1, gQ t (bk 3) sa, g6 t sa sb v.2.2.2.2.1]) [] hP hD hS hA rfl rfl rfl rfl) hS (fun hPc hDc hAB => va_runS (As := [.ref b, .int ((3 * v.2.2.2.2.2.2.2) + 1)]) (rest := []) ⟨hx, hb, hml, hown, hts⟩ (mtL_cell l D t ((3 * v.2.2.2.2.2.2.2) + 1) b L xs r9 h9 _) (va_cwS 2 hts (gBS kw67 kw68 kw69 kw70) rfl rfl rfl (by decide +kernel) ⟨Nat.le_of_ble_eq_true rfl, Nat.le_of_ble_eq_true rfl⟩) (yPc_S hPc hK hDc hE hX hS hAB hXs hbl hbA) rfl rfl hl.1 rfl (lv_room (Nat.le_of_ble_eq_true rfl)) dL_law_78 ⟨Nat.le_of_succ_le hcc1, Nat.le_trans (Nat.le_add_right _ _) hss1⟩) (fun H locs hP hD hS => ?_)
      refine lv_bipush (v := 6) hx hb dL_law_81 (by decide) ?_
      obtain ⟨r10, h10, h⟩ := ob h
      refine call_i (v := r10) (wc := ([] : va_W)) (wc' := ([] : va_W)) (ws' := (gBo bh bk v.1 ++ (gS t (bk 0) nb v.2.1 ++ (gS t (bk 1) pb v.2.2.1 ++ (gE t (bk 2) eb v.2.2.2.1 ++ (gQ t (bk 3) sa ++ (g6 t sa sb v.2.2.2.2.1))))))) (cutB (bs := [gBo bh bk v.1, gS t (bk 0) nb v.2.1, gS t (bk 1) pb v.2.2.1, gE t (bk 2) eb v.2.2.2.1, gQ t (bk 3) sa, g6 t sa sb v.2.2.2.2.1]) (cs := []) (cs' := []) (bs' := [gBo bh bk v.1, gS t (bk 0) nb v.2.1, gS t (bk 1) pb v.2.2.1, gE t (bk 2) eb v.2.2.2.1, gQ t (bk 3) sa, g6 t sa sb v.2.2.2.2.1]) [] hP hD hS hA rfl rfl rfl rfl) hS (fun hPc hDc => va_runS (As := [.int r9, .int 6]) (rest := []) ⟨hx, hb, hml, hown, hts⟩ (mtL_low l D t r9 6 r10 h10 _) (va_cwS 2 hts (gBS kw72 kw73 kw69 kw74) rfl rfl rfl (by decide +kernel) ⟨Nat.le_of_ble_eq_true rfl, Nat.le_of_ble_eq_true rfl⟩) (sPc_S hPc hK hDc hE) rfl rfl hl.1 rfl (lv_room (Nat.le_of_ble_eq_true rfl)) dL_law_83 ⟨Nat.le_of_succ_le hcc1, Nat.le_trans (Nat.le_add_right _ _) hss1⟩) (fun H locs hP hD hS => ?_)
      refine lv_istore (lv' := [(8, .int r10), (7, .int r8), (6, .int r6), (5, .int r5), (0, .ref b), (1, .ref bh), (2, .int v.2.2.2.2.2.1), (3, .int v.2.2.2.2.2.2.1), (4, .int v.2.2.2.2.2.2.2)]) hx hb dL_law_86 hl (by decide) rfl (fun ls hl => ?_)
      refine lv_iconst (v := 1) hx hb dL_law_88 (by decide) ?_
      refine lv_aload_n hx hb dL_law_89 rfl (lv_at hl 4 rfl) ?_
      refine lv_iconst (v := 3) hx hb dL_law_90 (by decide) ?_
      refine lv_iload hx hb dL_law_91 (lv_at hl 8 rfl) ?_
      refine lv_imul hx hb dL_law_93 ?_
      refine lv_iconst (v := 2) hx hb dL_law_94 (by decide) ?_
      refine lv_iadd hx hb dL_law_95 ?_
      obtain ⟨r11, h11, h⟩ := ob h
      refine call_y (v := r11) (wc := ([] : va_W)) (wc' := ([] : va_W)) (ws' := (gBo bh bk v.1 ++ (gS t (bk 0) nb v.2.1 ++ (gS t (bk 1) pb v.2.2.1 ++ (gE t (bk 2) eb v.2.2.2.1 ++ (gQ t (bk 3) sa ++ (g6 t sa sb v.2.2.2.2.1))))))) (cutB (bs := [gBo bh bk v.1, gS t (bk 0) nb v.2.1, gS t (bk 1) pb v.2.2.1, gE t (bk 2) eb v.2.2.2.1, gQ t (bk 3) sa, g6 t sa sb v.2.2.2.2.1]) (cs := []) (cs' := []) (bs' := [gBo bh bk v.1, gS t (bk 0) nb v.2.1, gS t (bk 1) pb v.2.2.1, gE t (bk 2) eb v.2.2.2.1, gQ t (bk 3) sa, g6 t sa sb v.2.2.2.2.1]) [] hP hD hS hA rfl rfl rfl rfl) hS (fun hPc hDc hAB => va_runS (As := [.ref b, .int ((3 * v.2.2.2.2.2.2.2) + 2)]) (rest := [.int 1]) ⟨hx, hb, hml, hown, hts⟩ (mtL_cell l D t ((3 * v.2.2.2.2.2.2.2) + 2) b L xs r11 h11 _) (va_cwS 2 hts (gBS kw67 kw68 kw69 kw70) rfl rfl rfl (by decide +kernel) ⟨Nat.le_of_ble_eq_true rfl, Nat.le_of_ble_eq_true rfl⟩) (yPc_S hPc hK hDc hE hX hS hAB hXs hbl hbA) rfl rfl hl.1 rfl (lv_room (Nat.le_of_ble_eq_true rfl)) dL_law_96 ⟨Nat.le_of_succ_le hcc1, Nat.le_trans (Nat.le_add_right _ _) hss1⟩) (fun H locs hP hD hS => ?_)
      refine lv_bipush (v := 12) hx hb dL_law_99 (by decide) ?_
      obtain ⟨r12, h12, h⟩ := ob h
      refine call_i (v := r12) (wc := ([] : va_W)) (wc' := ([] : va_W)) (ws' := (gBo bh bk v.1 ++ (gS t (bk 0) nb v.2.1 ++ (gS t (bk 1) pb v.2.2.1 ++ (gE t (bk 2) eb v.2.2.2.1 ++ (gQ t (bk 3) sa ++ (g6 t sa sb v.2.2.2.2.1))))))) (cutB (bs := [gBo bh bk v.1, gS t (bk 0) nb v.2.1, gS t (bk 1) pb v.2.2.1, gE t (bk 2) eb v.2.2.2.1, gQ t (bk 3) sa, g6 t sa sb v.2.2.2.2.1]) (cs := []) (cs' := []) (bs' := [gBo bh bk v.1, gS t (bk 0) nb v.2.1, gS t (bk 1) pb v.2.2.1, gE t (bk 2) eb v.2.2.2.1, gQ t (bk 3) sa, g6 t sa sb v.2.2.2.2.1]) [] hP hD hS hA rfl rfl rfl rfl) hS (fun hPc hDc => va_runS (As := [.int r11, .int 12]) (rest := [.int 1]) ⟨hx, hb, hml, hown, hts⟩ (mtL_low l D t r11 12 r12 h12 _) (va_cwS 2 hts (gBS kw72 kw73 kw69 kw74) rfl rfl rfl (by decide +kernel) ⟨Nat.le_of_ble_eq_true rfl, Nat.le_of_ble_eq_true rfl⟩) (sPc_S hPc hK hDc hE) rfl rfl hl.1 rfl (lv_room (Nat.le_of_ble_eq_true rfl)) dL_law_101 ⟨Nat.le_of_succ_le hcc1, Nat.le_trans (Nat.le_add_right _ _) hss1⟩) (fun H locs hP hD hS => ?_)
      refine lv_iadd hx hb dL_law_104 ?_
      refine lv_istore (lv' := [(9, .int (1 + r12)), (8, .int r10), (7, .int r8), (6, .int r6), (5, .int r5), (0, .ref b), (1, .ref bh), (2, .int v.2.2.2.2.2.1), (3, .int v.2.2.2.2.2.2.1), (4, .int v.2.2.2.2.2.2.2)]) hx hb dL_law_105 hl (by decide) rfl (fun ls hl => ?_)
      refine lv_aload_n hx hb dL_law_107 rfl (lv_at hl 6 rfl) ?_
      refine lv_iload hx hb dL_law_108 (lv_at hl 1 rfl) ?_
      refine lv_iload hx hb dL_law_110 (lv_at hl 0 rfl) ?_
      refine lv_iconst (v := 0) hx hb dL_law_112 (by decide) ?_
      obtain ⟨r13, h13, h⟩ := tq_r h
      refine call_i (v := r13.1) (wc := (gBo bh bk v.1 ++ (gS t (bk 0) nb v.2.1 ++ (gS t (bk 1) pb v.2.2.1 ++ (gE t (bk 2) eb v.2.2.2.1))))) (wc' := (gBo bh bk v.1 ++ (gS t (bk 0) nb v.2.1 ++ (gS t (bk 1) pb r13.2.1 ++ (gE t (bk 2) eb r13.2.2))))) (ws' := (gBo bh bk v.1 ++ (gS t (bk 0) nb v.2.1 ++ (gS t (bk 1) pb r13.2.1 ++ (gE t (bk 2) eb r13.2.2 ++ (gQ t (bk 3) sa ++ (g6 t sa sb v.2.2.2.2.1))))))) (cutB (bs := [gBo bh bk v.1, gS t (bk 0) nb v.2.1, gS t (bk 1) pb v.2.2.1, gE t (bk 2) eb v.2.2.2.1, gQ t (bk 3) sa, g6 t sa sb v.2.2.2.2.1]) (cs := [gBo bh bk v.1, gS t (bk 0) nb v.2.1, gS t (bk 1) pb v.2.2.1, gE t (bk 2) eb v.2.2.2.1]) (cs' := [gBo bh bk v.1, gS t (bk 0) nb v.2.1, gS t (bk 1) pb r13.2.1, gE t (bk 2) eb r13.2.2]) (bs' := [gBo bh bk v.1, gS t (bk 0) nb v.2.1, gS t (bk 1) pb r13.2.1, gE t (bk 2) eb r13.2.2, gQ t (bk 3) sa, g6 t sa sb v.2.2.2.2.1]) [0, 1, 2, 3] hP hD hS hA rfl rfl rfl rfl) hS (fun hPc hDc => va_runV (As := [.int r10, .int (1 + r12), .int 0]) (rest := []) ⟨hx, hb, hml, hown, hts⟩ (mtX2_ifShot l D t bh bk v.1 nb v.2.1 pb v.2.2.1 eb v.2.2.2.1 r10 (1 + r12) 0 r13 h13 _) (cwV 3 hts (gBV kw76 kw77 kw78 kw2 kw79) rfl rfl rfl (by decide +kernel) ⟨Nat.le_of_ble_eq_true rfl, Nat.le_of_ble_eq_true rfl⟩) (sPc_V hPc hK hDc hE (va_recv hK hP (ci := 2) (q0 := 0) rfl rfl)) rfl rfl hl.1 rfl (lv_room (Nat.le_of_ble_eq_true rfl)) dL_law_113 ⟨Nat.le_of_succ_le hcc1, Nat.le_trans (Nat.le_add_right _ _) hss1⟩) (fun H locs hP hD hS => ?_)
      refine lv_istore (lv' := [(10, .int r13.1), (9, .int (1 + r12)), (8, .int r10), (7, .int r8), (6, .int r6), (5, .int r5), (0, .ref b), (1, .ref bh), (2, .int v.2.2.2.2.2.1), (3, .int v.2.2.2.2.2.2.1), (4, .int v.2.2.2.2.2.2.2)]) hx hb dL_law_116 hl (by decide) rfl (fun ls hl => ?_)
      refine lv_aload_n hx hb dL_law_118 rfl (lv_at hl 7 rfl) ?_
      refine lv_iload hx hb dL_law_119 (lv_at hl 2 rfl) ?_
      refine lv_iload hx hb dL_law_121 (lv_at hl 1 rfl) ?_
      refine lv_iconst (v := 1) hx hb dL_law_123 (by decide) ?_
      obtain ⟨r14, h14, h⟩ := tq_r h
      refine call_i (v := r14.1) (wc := (gBo bh bk v.1 ++ (gS t (bk 0) nb v.2.1 ++ (gS t (bk 1) pb r13.2.1 ++ (gE t (bk 2) eb r13.2.2))))) (wc' := (gBo bh bk v.1 ++ (gS t (bk 0) nb v.2.1 ++ (gS t (bk 1) pb r14.2.1 ++ (gE t (bk 2) eb r14.2.2))))) (ws' := (gBo bh bk v.1 ++ (gS t (bk 0) nb v.2.1 ++ (gS t (bk 1) pb r14.2.1 ++ (gE t (bk 2) eb r14.2.2 ++ (gQ t (bk 3) sa ++ (g6 t sa sb v.2.2.2.2.1))))))) (cutB (bs := [gBo bh bk v.1, gS t (bk 0) nb v.2.1, gS t (bk 1) pb r13.2.1, gE t (bk 2) eb r13.2.2, gQ t (bk 3) sa, g6 t sa sb v.2.2.2.2.1]) (cs := [gBo bh bk v.1, gS t (bk 0) nb v.2.1, gS t (bk 1) pb r13.2.1, gE t (bk 2) eb r13.2.2]) (cs' := [gBo bh bk v.1, gS t (bk 0) nb v.2.1, gS t (bk 1) pb r14.2.1, gE t (bk 2) eb r14.2.2]) (bs' := [gBo bh bk v.1, gS t (bk 0) nb v.2.1, gS t (bk 1) pb r14.2.1, gE t (bk 2) eb r14.2.2, gQ t (bk 3) sa, g6 t sa sb v.2.2.2.2.1]) [0, 1, 2, 3] hP hD hS hA rfl rfl rfl rfl) hS (fun hPc hDc => va_runV (As := [.int r10, .int (1 + r12), .int 1]) (rest := []) ⟨hx, hb, hml, hown, hts⟩ (mtX2_ifShot l D t bh bk v.1 nb v.2.1 pb r13.2.1 eb r13.2.2 r10 (1 + r12) 1 r14 h14 _) (cwV 3 hts (gBV kw76 kw77 kw78 kw2 kw79) rfl rfl rfl (by decide +kernel) ⟨Nat.le_of_ble_eq_true rfl, Nat.le_of_ble_eq_true rfl⟩) (sPc_V hPc hK hDc hE (va_recv hK hP (ci := 2) (q0 := 0) rfl rfl)) rfl rfl hl.1 rfl (lv_room (Nat.le_of_ble_eq_true rfl)) dL_law_124 ⟨Nat.le_of_succ_le hcc1, Nat.le_trans (Nat.le_add_right _ _) hss1⟩) (fun H locs hP hD hS => ?_)
      refine lv_istore (lv' := [(11, .int r14.1), (10, .int r13.1), (9, .int (1 + r12)), (8, .int r10), (7, .int r8), (6, .int r6), (5, .int r5), (0, .ref b), (1, .ref bh), (2, .int v.2.2.2.2.2.1), (3, .int v.2.2.2.2.2.2.1), (4, .int v.2.2.2.2.2.2.2)]) hx hb dL_law_127 hl (by decide) rfl (fun ls hl => ?_)
      refine lv_aload_n hx hb dL_law_129 rfl (lv_at hl 8 rfl) ?_
      refine lv_iconst (v := 0) hx hb dL_law_130 (by decide) ?_
      refine lv_iconst (v := 0) hx hb dL_law_131 (by decide) ?_
      obtain ⟨r15, h15, h⟩ := tq_r h
      refine call_i (v := r15) (wc := (gBo bh bk v.1 ++ (gS t (bk 0) nb v.2.1))) (wc' := (gBo bh bk v.1 ++ (gS t (bk 0) nb v.2.1))) (ws' := (gBo bh bk v.1 ++ (gS t (bk 0) nb v.2.1 ++ (gS t (bk 1) pb r14.2.1 ++ (gE t (bk 2) eb r14.2.2 ++ (gQ t (bk 3) sa ++ (g6 t sa sb v.2.2.2.2.1))))))) (cutB (bs := [gBo bh bk v.1, gS t (bk 0) nb v.2.1, gS t (bk 1) pb r14.2.1, gE t (bk 2) eb r14.2.2, gQ t (bk 3) sa, g6 t sa sb v.2.2.2.2.1]) (cs := [gBo bh bk v.1, gS t (bk 0) nb v.2.1]) (cs' := [gBo bh bk v.1, gS t (bk 0) nb v.2.1]) (bs' := [gBo bh bk v.1, gS t (bk 0) nb v.2.1, gS t (bk 1) pb r14.2.1, gE t (bk 2) eb r14.2.2, gQ t (bk 3) sa, g6 t sa sb v.2.2.2.2.1]) [0, 1] hP hD hS hA rfl rfl rfl rfl) hS (fun hPc hDc => va_runV (As := [.int 0, .int 0]) (rest := []) ⟨hx, hb, hml, hown, hts⟩ (mtX2_curtain l D t bh bk v.1 nb v.2.1 0 0 r15 h15 _) (cwV 2 hts (gBV kw158 kw159 kw160 kw2 kw161) rfl rfl rfl (by decide +kernel) ⟨Nat.le_of_ble_eq_true rfl, Nat.le_of_ble_eq_true rfl⟩) (sPc_V hPc hK hDc hE (va_recv hK hP (ci := 2) (q0 := 0) rfl rfl)) rfl rfl hl.1 rfl (lv_room (Nat.le_of_ble_eq_true rfl)) dL_law_132 ⟨Nat.le_of_succ_le hcc1, Nat.le_trans (Nat.le_add_right _ _) hss1⟩) (fun H locs hP hD hS => ?_)
      refine lv_istore (lv' := [(12, .int r15), (11, .int r14.1), (10, .int r13.1), (9, .int (1 + r12)), (8, .int r10), (7, .int r8), (6, .int r6), (5, .int r5), (0, .ref b), (1, .ref bh), (2, .int v.2.2.2.2.2.1), (3, .int v.2.2.2.2.2.2.1), (4, .int v.2.2.2.2.2.2.2)]) hx hb dL_law_135 hl (by decide) rfl (fun ls hl => ?_)
      refine lv_aload_n hx hb dL_law_137 rfl (lv_at hl 9 rfl) ?_
      refine lv_iconst (v := 3) hx hb dL_law_138 (by decide) ?_
      obtain ⟨r16, h16, h⟩ := tq_r h
      refine call_i (v := r16) (wc := (gBo bh bk v.1 ++ (gS t (bk 0) nb v.2.1))) (wc' := (gBo bh bk v.1 ++ (gS t (bk 0) nb v.2.1))) (ws' := (gBo bh bk v.1 ++ (gS t (bk 0) nb v.2.1 ++ (gS t (bk 1) pb r14.2.1 ++ (gE t (bk 2) eb r14.2.2 ++ (gQ t (bk 3) sa ++ (g6 t sa sb v.2.2.2.2.1))))))) (cutB (bs := [gBo bh bk v.1, gS t (bk 0) nb v.2.1, gS t (bk 1) pb r14.2.1, gE t (bk 2) eb r14.2.2, gQ t (bk 3) sa, g6 t sa sb v.2.2.2.2.1]) (cs := [gBo bh bk v.1, gS t (bk 0) nb v.2.1]) (cs' := [gBo bh bk v.1, gS t (bk 0) nb v.2.1]) (bs' := [gBo bh bk v.1, gS t (bk 0) nb v.2.1, gS t (bk 1) pb r14.2.1, gE t (bk 2) eb r14.2.2, gQ t (bk 3) sa, g6 t sa sb v.2.2.2.2.1]) [0, 1] hP hD hS hA rfl rfl rfl rfl) hS (fun hPc hDc => va_runV (As := [.int 3]) (rest := []) ⟨hx, hb, hml, hown, hts⟩ (mtX2_count l D t bh bk v.1 nb v.2.1 3 r16 h16 _) (cwV 1 hts (gBV kw45 kw46 kw47 kw2 kw48) rfl rfl rfl (by decide +kernel) ⟨Nat.le_of_ble_eq_true rfl, Nat.le_of_ble_eq_true rfl⟩) (sPc_V hPc hK hDc hE (va_recv hK hP (ci := 2) (q0 := 0) rfl rfl)) rfl rfl hl.1 rfl (lv_room (Nat.le_of_ble_eq_true rfl)) dL_law_139 ⟨Nat.le_of_succ_le hcc1, Nat.le_trans (Nat.le_add_right _ _) hss1⟩) (fun H locs hP hD hS => ?_)
      refine lv_istore (lv' := [(13, .int r16), (12, .int r15), (11, .int r14.1), (10, .int r13.1), (9, .int (1 + r12)), (8, .int r10), (7, .int r8), (6, .int r6), (5, .int r5), (0, .ref b), (1, .ref bh), (2, .int v.2.2.2.2.2.1), (3, .int v.2.2.2.2.2.2.1), (4, .int v.2.2.2.2.2.2.2)]) hx hb dL_law_142 hl (by decide) rfl (fun ls hl => ?_)
      refine lv_aload_n hx hb dL_law_144 rfl (lv_at hl 10 rfl) ?_
      refine lv_iload hx hb dL_law_145 (lv_at hl 5 rfl) ?_
      refine lv_bipush (v := 100) hx hb dL_law_147 (by decide) ?_
      obtain ⟨r17, h17, h⟩ := tq_r h
      refine call_i (v := r17.1) (wc := (gBo bh bk v.1 ++ (gS t (bk 0) nb v.2.1 ++ (gS t (bk 1) pb r14.2.1 ++ (gE t (bk 2) eb r14.2.2))))) (wc' := (gBo bh bk v.1 ++ (gS t (bk 0) nb v.2.1 ++ (gS t (bk 1) pb r17.2.1 ++ (gE t (bk 2) eb r17.2.2))))) (ws' := (gBo bh bk v.1 ++ (gS t (bk 0) nb v.2.1 ++ (gS t (bk 1) pb r17.2.1 ++ (gE t (bk 2) eb r17.2.2 ++ (gQ t (bk 3) sa ++ (g6 t sa sb v.2.2.2.2.1))))))) (cutB (bs := [gBo bh bk v.1, gS t (bk 0) nb v.2.1, gS t (bk 1) pb r14.2.1, gE t (bk 2) eb r14.2.2, gQ t (bk 3) sa, g6 t sa sb v.2.2.2.2.1]) (cs := [gBo bh bk v.1, gS t (bk 0) nb v.2.1, gS t (bk 1) pb r14.2.1, gE t (bk 2) eb r14.2.2]) (cs' := [gBo bh bk v.1, gS t (bk 0) nb v.2.1, gS t (bk 1) pb r17.2.1, gE t (bk 2) eb r17.2.2]) (bs' := [gBo bh bk v.1, gS t (bk 0) nb v.2.1, gS t (bk 1) pb r17.2.1, gE t (bk 2) eb r17.2.2, gQ t (bk 3) sa, g6 t sa sb v.2.2.2.2.1]) [0, 1, 2, 3] hP hD hS hA rfl rfl rfl rfl) hS (fun hPc hDc => va_runV (As := [.int r10, .int 100]) (rest := []) ⟨hx, hb, hml, hown, hts⟩ (mtX2_goodFor l D t bh bk v.1 nb v.2.1 pb r14.2.1 eb r14.2.2 r10 100 r17 h17 _) (cwV 2 hts (gBV kw179 kw180 kw181 kw2 kw182) rfl rfl rfl (by decide +kernel) ⟨Nat.le_of_ble_eq_true rfl, Nat.le_of_ble_eq_true rfl⟩) (sPc_V hPc hK hDc hE (va_recv hK hP (ci := 2) (q0 := 0) rfl rfl)) rfl rfl hl.1 rfl (lv_room (Nat.le_of_ble_eq_true rfl)) dL_law_149 ⟨Nat.le_of_succ_le hcc1, Nat.le_trans (Nat.le_add_right _ _) hss1⟩) (fun H locs hP hD hS => ?_)
      refine lv_if_le (tgt := 159) hx hb dL_law_152 (by decide) (fun c18 => ?_) (fun c18 => ?_)
      · have h := it_p c18 h
        refine lv_iconst (v := 0) hx hb dL_law_159 (by decide) ?_
        exact J160 (v.1, v.2.1, r17.2.1, r17.2.2, v.2.2.2.2.1, v.2.2.2.2.2.2.1, v.2.2.2.2.2.2.2, r5, r6, r8, r10, 1 + r12, r13.1, r14.1, r15, r16, 0) h _ _ hP hD hS _ (lv_sub hl [9, 10, 12, 13, 8, 7, 6, 5, 4, 3, 2, 1, 0] rfl)
      · have h := it_n c18 h
        refine lv_iconst (v := 1) hx hb dL_law_155 (by decide) ?_
        refine lv_goto (tgt := 160) hx hb dL_law_156 (by decide) ?_
        exact J160 (v.1, v.2.1, r17.2.1, r17.2.2, v.2.2.2.2.1, v.2.2.2.2.2.2.1, v.2.2.2.2.2.2.2, r5, r6, r8, r10, 1 + r12, r13.1, r14.1, r15, r16, 1) h _ _ hP hD hS _ (lv_sub hl [9, 10, 12, 13, 8, 7, 6, 5, 4, 3, 2, 1, 0] rfl)
theorem la_loop {p : Program} {l : Launch} (hfl : l.stackTraces = false) {e : Env} {s : State} {m : MethodId} {below : List Frame} {meth : Method} {c : Code} {b L : Nat} {xs : Nat → Int32} {D : va_G} {t : Nat → ClassId} {A : Nat → Prop} {Q : State → Prop} (bh : Nat) (bk nb pb eb : Nat → Nat) (sa : Nat → Nat) (sb : Nat → Nat → Nat) (hx : p.tables.exec = Jvm.exec) (hb : c.code = code) (hml : c.maxLocals = 19) (hown : s.vm.findClass RL = some m.cls) (htB : ∀ w ∈ BIG, w.before #[Value.ref b] s = true) (hA : ∀ q, s.heap.size ≤ q → A q) (hK : va_K D vwCl (TY t) s) (hE : xE s) (hX : xS A s s.heap) (hXs : va_X b L xs s s.heap) (hbl : b < s.heap.size) (hbA : ¬ A b) (hend : ∀ (w : LwE) (H : Heap) (locs : List Loc) (cc ss : Nat), cc ≤ 600104 → ss ≤ 7301314 → va_P D vwCl (gBo bh bk w.1 ++ (gS t (bk 0) nb w.2.1 ++ (gS t (bk 1) pb w.2.2.1 ++ (gE t (bk 2) eb w.2.2.2.1 ++ (gQ t (bk 3) sa ++ (g6 t sa sb w.2.2.2.2)))))) H → va_D A (gBo bh bk w.1 ++ (gS t (bk 0) nb w.2.1 ++ (gS t (bk 1) pb w.2.2.1 ++ (gE t (bk 2) eb w.2.2.2.1 ++ (gQ t (bk 3) sa ++ (g6 t sa sb w.2.2.2.2)))))) → va_S A s.heap H locs → ∀ ls : Array Slot, W p l e room_1 s m #[Value.ref b] below meth c H locs cc ss Q (F0 m 439 ls [.int 1])) :
    ∀ (fu : Nat) (v : LwT) (cc ss : Nat), cc + fu ≤ 600104 → ss + 6 * fu ≤ 7301314 → lp (fL_law_l32 L xs) fu v = some true → ∀ (H : Heap) (locs : List Loc), va_P D vwCl (gBo bh bk v.1 ++ (gS t (bk 0) nb v.2.1 ++ (gS t (bk 1) pb v.2.2.1 ++ (gE t (bk 2) eb v.2.2.2.1 ++ (gQ t (bk 3) sa ++ (g6 t sa sb v.2.2.2.2.1)))))) H → va_D A (gBo bh bk v.1 ++ (gS t (bk 0) nb v.2.1 ++ (gS t (bk 1) pb v.2.2.1 ++ (gE t (bk 2) eb v.2.2.2.1 ++ (gQ t (bk 3) sa ++ (g6 t sa sb v.2.2.2.2.1)))))) → va_S A s.heap H locs → ∀ ls : Array Slot, lv_has ls 19 [(0, .ref b), (1, .ref bh), (2, .int v.2.2.2.2.2.1), (3, .int v.2.2.2.2.2.2.1), (4, .int v.2.2.2.2.2.2.2)] → W p l e room_1 s m #[Value.ref b] below meth c H locs cc ss Q (F0 m 32 ls []) := by
  intro fu
  induction fu with
  | zero => intro v cc ss _ _ h; cases h
  | succ fu ih0 =>
    intro v cc ss hcc hss h
    exact la_body hfl bh bk nb pb eb sa sb hx hb hml hown htB hA hK hE hX hXs hbl hbA hend (lp (fL_law_l32 L xs) fu) cc ss (by omega) (by omega) (fun v h => ih0 v (cc + 1) (ss + 6) (by omega) (by omega) h) v h
