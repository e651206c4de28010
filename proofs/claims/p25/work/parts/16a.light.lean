theorem dL_light_0 : decode cL_light 0 = .ok (.iconst 0, 1) := by decide +kernel
theorem dL_light_1 : decode cL_light 1 = .ok (.istore_n 2, 1) := by decide +kernel
theorem dL_light_2 : decode cL_light 2 = .ok (.iconst 0, 1) := by decide +kernel
theorem dL_light_3 : decode cL_light 3 = .ok (.istore_n 3, 1) := by decide +kernel
theorem dL_light_4 : decode cL_light 4 = .ok (.ldc 17, 2) := by decide +kernel
theorem dL_light_6 : decode cL_light 6 = .ok (.istore 4, 2) := by decide +kernel
theorem dL_light_8 : decode cL_light 8 = .ok (.iconst 0, 1) := by decide +kernel
theorem dL_light_9 : decode cL_light 9 = .ok (.istore 5, 2) := by decide +kernel
theorem dL_light_11 : decode cL_light 11 = .ok (.iconst 0, 1) := by decide +kernel
theorem dL_light_12 : decode cL_light 12 = .ok (.istore 6, 2) := by decide +kernel
theorem dL_light_14 : decode cL_light 14 = .ok (.aload_n 0, 1) := by decide +kernel
theorem dL_light_15 : decode cL_light 15 = .ok (.iconst 2, 1) := by decide +kernel
theorem dL_light_16 : decode cL_light 16 = .ok (.invokevirtual 18, 3) := by decide +kernel
theorem dL_light_19 : decode cL_light 19 = .ok (.istore 7, 2) := by decide +kernel
theorem dL_light_21 : decode cL_light 21 = .ok (.iload 7, 2) := by decide +kernel
theorem dL_light_23 : decode cL_light 23 = .ok (.ifCond .lt 50, 3) := by decide +kernel
theorem dL_light_26 : decode cL_light 26 = .ok (.iload 7, 2) := by decide +kernel
theorem dL_light_28 : decode cL_light 28 = .ok (.bipush 6, 2) := by decide +kernel
theorem dL_light_30 : decode cL_light 30 = .ok (.if_icmp .gt 43, 3) := by decide +kernel
theorem dL_light_33 : decode cL_light 33 = .ok (.aload_n 0, 1) := by decide +kernel
theorem dL_light_34 : decode cL_light 34 = .ok (.iconst 0, 1) := by decide +kernel
theorem dL_light_35 : decode cL_light 35 = .ok (.iconst 0, 1) := by decide +kernel
theorem dL_light_36 : decode cL_light 36 = .ok (.invokevirtual 22, 3) := by decide +kernel
theorem dL_light_39 : decode cL_light 39 = .ok (.aload_n 0, 1) := by decide +kernel
theorem dL_light_40 : decode cL_light 40 = .ok (.iconst 1, 1) := by decide +kernel
theorem dL_light_41 : decode cL_light 41 = .ok (.invokevirtual 26, 3) := by decide +kernel
theorem dL_light_44 : decode cL_light 44 = .ok (.if_icmp .gt 8, 3) := by decide +kernel
theorem dL_light_47 : decode cL_light 47 = .ok (.iload 7, 2) := by decide +kernel
theorem dL_light_49 : decode cL_light 49 = .ok (.ifCond .ne 24, 3) := by decide +kernel
theorem dL_light_52 : decode cL_light 52 = .ok (.aload_n 0, 1) := by decide +kernel
theorem dL_light_53 : decode cL_light 53 = .ok (.iload_n 1, 1) := by decide +kernel
theorem dL_light_54 : decode cL_light 54 = .ok (.bipush 23, 2) := by decide +kernel
theorem dL_light_56 : decode cL_light 56 = .ok (.iconst 0, 1) := by decide +kernel
theorem dL_light_57 : decode cL_light 57 = .ok (.invokevirtual 29, 3) := by decide +kernel
theorem dL_light_60 : decode cL_light 60 = .ok (.aload_n 0, 1) := by decide +kernel
theorem dL_light_61 : decode cL_light 61 = .ok (.iconst 0, 1) := by decide +kernel
theorem dL_light_62 : decode cL_light 62 = .ok (.iconst 2, 1) := by decide +kernel
theorem dL_light_63 : decode cL_light 63 = .ok (.invokevirtual 22, 3) := by decide +kernel
theorem dL_light_66 : decode cL_light 66 = .ok (.if_icmp .ne 7, 3) := by decide +kernel
theorem dL_light_69 : decode cL_light 69 = .ok (.iconst 1, 1) := by decide +kernel
theorem dL_light_70 : decode cL_light 70 = .ok (.goto 4, 3) := by decide +kernel
theorem dL_light_73 : decode cL_light 73 = .ok (.iconst 0, 1) := by decide +kernel
theorem dL_light_74 : decode cL_light 74 = .ok (.istore 8, 2) := by decide +kernel
theorem dL_light_76 : decode cL_light 76 = .ok (.iconst 0, 1) := by decide +kernel
theorem dL_light_77 : decode cL_light 77 = .ok (.istore 9, 2) := by decide +kernel
theorem dL_light_79 : decode cL_light 79 = .ok (.iload 9, 2) := by decide +kernel
theorem dL_light_81 : decode cL_light 81 = .ok (.bipush 24, 2) := by decide +kernel
theorem dL_light_83 : decode cL_light 83 = .ok (.if_icmp .ge 224, 3) := by decide +kernel
theorem dL_light_86 : decode cL_light 86 = .ok (.iload 8, 2) := by decide +kernel
theorem dL_light_88 : decode cL_light 88 = .ok (.ifCond .eq 219, 3) := by decide +kernel
theorem dL_light_91 : decode cL_light 91 = .ok (.aload_n 0, 1) := by decide +kernel
theorem dL_light_92 : decode cL_light 92 = .ok (.iload_n 1, 1) := by decide +kernel
theorem dL_light_93 : decode cL_light 93 = .ok (.iload 9, 2) := by decide +kernel
theorem dL_light_95 : decode cL_light 95 = .ok (.iconst 2, 1) := by decide +kernel
theorem dL_light_96 : decode cL_light 96 = .ok (.invokevirtual 29, 3) := by decide +kernel
theorem dL_light_99 : decode cL_light 99 = .ok (.istore 10, 2) := by decide +kernel
theorem dL_light_101 : decode cL_light 101 = .ok (.aload_n 0, 1) := by decide +kernel
theorem dL_light_102 : decode cL_light 102 = .ok (.iload_n 1, 1) := by decide +kernel
theorem dL_light_103 : decode cL_light 103 = .ok (.iload 9, 2) := by decide +kernel
theorem dL_light_105 : decode cL_light 105 = .ok (.iconst 1, 1) := by decide +kernel
theorem dL_light_106 : decode cL_light 106 = .ok (.invokevirtual 29, 3) := by decide +kernel
theorem dL_light_109 : decode cL_light 109 = .ok (.aload_n 0, 1) := by decide +kernel
theorem dL_light_110 : decode cL_light 110 = .ok (.iload_n 1, 1) := by decide +kernel
theorem dL_light_111 : decode cL_light 111 = .ok (.iload 9, 2) := by decide +kernel
theorem dL_light_113 : decode cL_light 113 = .ok (.iconst 0, 1) := by decide +kernel
theorem dL_light_114 : decode cL_light 114 = .ok (.invokevirtual 29, 3) := by decide +kernel
theorem dL_light_117 : decode cL_light 117 = .ok (.isub, 1) := by decide +kernel
theorem dL_light_118 : decode cL_light 118 = .ok (.istore 11, 2) := by decide +kernel
theorem dL_light_120 : decode cL_light 120 = .ok (.aload_n 0, 1) := by decide +kernel
theorem dL_light_121 : decode cL_light 121 = .ok (.iload_n 1, 1) := by decide +kernel
theorem dL_light_122 : decode cL_light 122 = .ok (.iload 9, 2) := by decide +kernel
theorem dL_light_124 : decode cL_light 124 = .ok (.iconst 3, 1) := by decide +kernel
theorem dL_light_125 : decode cL_light 125 = .ok (.invokevirtual 29, 3) := by decide +kernel
theorem dL_light_128 : decode cL_light 128 = .ok (.istore 12, 2) := by decide +kernel
theorem dL_light_130 : decode cL_light 130 = .ok (.iload_n 2, 1) := by decide +kernel
theorem dL_light_131 : decode cL_light 131 = .ok (.iload 10, 2) := by decide +kernel
theorem dL_light_133 : decode cL_light 133 = .ok (.iadd, 1) := by decide +kernel
theorem dL_light_134 : decode cL_light 134 = .ok (.istore_n 2, 1) := by decide +kernel
theorem dL_light_135 : decode cL_light 135 = .ok (.iload_n 3, 1) := by decide +kernel
theorem dL_light_136 : decode cL_light 136 = .ok (.iload 10, 2) := by decide +kernel
theorem dL_light_138 : decode cL_light 138 = .ok (.ifCond .ne 7, 3) := by decide +kernel
theorem dL_light_141 : decode cL_light 141 = .ok (.iconst 1, 1) := by decide +kernel
theorem dL_light_142 : decode cL_light 142 = .ok (.goto 4, 3) := by decide +kernel
theorem dL_light_145 : decode cL_light 145 = .ok (.iconst 0, 1) := by decide +kernel
theorem dL_light_146 : decode cL_light 146 = .ok (.iadd, 1) := by decide +kernel
theorem dL_light_147 : decode cL_light 147 = .ok (.istore_n 3, 1) := by decide +kernel
theorem dL_light_148 : decode cL_light 148 = .ok (.iload 10, 2) := by decide +kernel
theorem dL_light_150 : decode cL_light 150 = .ok (.iload 4, 2) := by decide +kernel
theorem dL_light_152 : decode cL_light 152 = .ok (.if_icmp .ge 8, 3) := by decide +kernel
theorem dL_light_155 : decode cL_light 155 = .ok (.iload 10, 2) := by decide +kernel
theorem dL_light_157 : decode cL_light 157 = .ok (.goto 5, 3) := by decide +kernel
theorem dL_light_160 : decode cL_light 160 = .ok (.iload 4, 2) := by decide +kernel
theorem dL_light_162 : decode cL_light 162 = .ok (.istore 4, 2) := by decide +kernel
theorem dL_light_164 : decode cL_light 164 = .ok (.iload 10, 2) := by decide +kernel
theorem dL_light_166 : decode cL_light 166 = .ok (.iload 5, 2) := by decide +kernel
theorem dL_light_168 : decode cL_light 168 = .ok (.if_icmp .le 8, 3) := by decide +kernel
theorem dL_light_171 : decode cL_light 171 = .ok (.iload 10, 2) := by decide +kernel
theorem dL_light_173 : decode cL_light 173 = .ok (.goto 5, 3) := by decide +kernel
theorem dL_light_176 : decode cL_light 176 = .ok (.iload 5, 2) := by decide +kernel
theorem dL_light_178 : decode cL_light 178 = .ok (.istore 5, 2) := by decide +kernel
theorem dL_light_180 : decode cL_light 180 = .ok (.iload 12, 2) := by decide +kernel
theorem dL_light_182 : decode cL_light 182 = .ok (.iload 6, 2) := by decide +kernel
theorem dL_light_184 : decode cL_light 184 = .ok (.if_icmp .le 8, 3) := by decide +kernel
theorem dL_light_187 : decode cL_light 187 = .ok (.iload 12, 2) := by decide +kernel
theorem dL_light_189 : decode cL_light 189 = .ok (.goto 5, 3) := by decide +kernel
theorem dL_light_192 : decode cL_light 192 = .ok (.iload 6, 2) := by decide +kernel
theorem dL_light_194 : decode cL_light 194 = .ok (.istore 6, 2) := by decide +kernel
theorem dL_light_196 : decode cL_light 196 = .ok (.iload 11, 2) := by decide +kernel
theorem dL_light_198 : decode cL_light 198 = .ok (.ifCond .lt 100, 3) := by decide +kernel
theorem dL_light_201 : decode cL_light 201 = .ok (.iload 10, 2) := by decide +kernel
theorem dL_light_203 : decode cL_light 203 = .ok (.ifCond .lt 95, 3) := by decide +kernel
theorem dL_light_206 : decode cL_light 206 = .ok (.iload 10, 2) := by decide +kernel
theorem dL_light_208 : decode cL_light 208 = .ok (.iload 11, 2) := by decide +kernel
theorem dL_light_210 : decode cL_light 210 = .ok (.if_icmp .gt 88, 3) := by decide +kernel
theorem dL_light_213 : decode cL_light 213 = .ok (.iload 9, 2) := by decide +kernel
theorem dL_light_215 : decode cL_light 215 = .ok (.bipush 24, 2) := by decide +kernel
theorem dL_light_217 : decode cL_light 217 = .ok (.iload 7, 2) := by decide +kernel
theorem dL_light_219 : decode cL_light 219 = .ok (.isub, 1) := by decide +kernel
theorem dL_light_220 : decode cL_light 220 = .ok (.if_icmp .ge 10, 3) := by decide +kernel
theorem dL_light_223 : decode cL_light 223 = .ok (.iload 10, 2) := by decide +kernel
theorem dL_light_225 : decode cL_light 225 = .ok (.iload 11, 2) := by decide +kernel
theorem dL_light_227 : decode cL_light 227 = .ok (.if_icmp .ne 71, 3) := by decide +kernel
theorem dL_light_230 : decode cL_light 230 = .ok (.iload 12, 2) := by decide +kernel
theorem dL_light_232 : decode cL_light 232 = .ok (.iload 10, 2) := by decide +kernel
theorem dL_light_234 : decode cL_light 234 = .ok (.aload_n 0, 1) := by decide +kernel
theorem dL_light_235 : decode cL_light 235 = .ok (.iload_n 1, 1) := by decide +kernel
theorem dL_light_236 : decode cL_light 236 = .ok (.iconst 0, 1) := by decide +kernel
theorem dL_light_237 : decode cL_light 237 = .ok (.invokevirtual 33, 3) := by decide +kernel
theorem dL_light_240 : decode cL_light 240 = .ok (.isub, 1) := by decide +kernel
theorem dL_light_241 : decode cL_light 241 = .ok (.invokestatic 36, 3) := by decide +kernel
theorem dL_light_244 : decode cL_light 244 = .ok (.if_icmp .ne 54, 3) := by decide +kernel
theorem dL_light_247 : decode cL_light 247 = .ok (.iload 9, 2) := by decide +kernel
theorem dL_light_249 : decode cL_light 249 = .ok (.ifCond .eq 45, 3) := by decide +kernel
theorem dL_light_252 : decode cL_light 252 = .ok (.aload_n 0, 1) := by decide +kernel
theorem dL_light_253 : decode cL_light 253 = .ok (.iload_n 1, 1) := by decide +kernel
theorem dL_light_254 : decode cL_light 254 = .ok (.iload 9, 2) := by decide +kernel
theorem dL_light_256 : decode cL_light 256 = .ok (.iconst 0, 1) := by decide +kernel
theorem dL_light_257 : decode cL_light 257 = .ok (.invokevirtual 29, 3) := by decide +kernel
theorem dL_light_260 : decode cL_light 260 = .ok (.aload_n 0, 1) := by decide +kernel
theorem dL_light_261 : decode cL_light 261 = .ok (.iload_n 1, 1) := by decide +kernel
theorem dL_light_262 : decode cL_light 262 = .ok (.iload 9, 2) := by decide +kernel
theorem dL_light_264 : decode cL_light 264 = .ok (.iconst 1, 1) := by decide +kernel
theorem dL_light_265 : decode cL_light 265 = .ok (.isub, 1) := by decide +kernel
theorem dL_light_266 : decode cL_light 266 = .ok (.iconst 0, 1) := by decide +kernel
theorem dL_light_267 : decode cL_light 267 = .ok (.invokevirtual 29, 3) := by decide +kernel
theorem dL_light_270 : decode cL_light 270 = .ok (.if_icmp .le 28, 3) := by decide +kernel
theorem dL_light_273 : decode cL_light 273 = .ok (.aload_n 0, 1) := by decide +kernel
theorem dL_light_274 : decode cL_light 274 = .ok (.iload_n 1, 1) := by decide +kernel
theorem dL_light_275 : decode cL_light 275 = .ok (.iload 9, 2) := by decide +kernel
theorem dL_light_277 : decode cL_light 277 = .ok (.iconst 1, 1) := by decide +kernel
theorem dL_light_278 : decode cL_light 278 = .ok (.invokevirtual 29, 3) := by decide +kernel
theorem dL_light_281 : decode cL_light 281 = .ok (.aload_n 0, 1) := by decide +kernel
theorem dL_light_282 : decode cL_light 282 = .ok (.iload_n 1, 1) := by decide +kernel
theorem dL_light_283 : decode cL_light 283 = .ok (.iload 9, 2) := by decide +kernel
theorem dL_light_285 : decode cL_light 285 = .ok (.iconst 1, 1) := by decide +kernel
theorem dL_light_286 : decode cL_light 286 = .ok (.isub, 1) := by decide +kernel
theorem dL_light_287 : decode cL_light 287 = .ok (.iconst 1, 1) := by decide +kernel
theorem dL_light_288 : decode cL_light 288 = .ok (.invokevirtual 29, 3) := by decide +kernel
theorem dL_light_291 : decode cL_light 291 = .ok (.if_icmp .le 7, 3) := by decide +kernel
theorem dL_light_294 : decode cL_light 294 = .ok (.iconst 1, 1) := by decide +kernel
theorem dL_light_295 : decode cL_light 295 = .ok (.goto 4, 3) := by decide +kernel
theorem dL_light_298 : decode cL_light 298 = .ok (.iconst 0, 1) := by decide +kernel
theorem dL_light_299 : decode cL_light 299 = .ok (.istore 8, 2) := by decide +kernel
theorem dL_light_301 : decode cL_light 301 = .ok (.iinc 9 1, 3) := by decide +kernel
theorem dL_light_304 : decode cL_light 304 = .ok (.goto (-225), 3) := by decide +kernel
theorem dL_light_307 : decode cL_light 307 = .ok (.iload 8, 2) := by decide +kernel
theorem dL_light_309 : decode cL_light 309 = .ok (.ifCond .eq 100, 3) := by decide +kernel
theorem dL_light_312 : decode cL_light 312 = .ok (.iload_n 2, 1) := by decide +kernel
theorem dL_light_313 : decode cL_light 313 = .ok (.aload_n 0, 1) := by decide +kernel
theorem dL_light_314 : decode cL_light 314 = .ok (.iload_n 1, 1) := by decide +kernel
theorem dL_light_315 : decode cL_light 315 = .ok (.iconst 3, 1) := by decide +kernel
theorem dL_light_316 : decode cL_light 316 = .ok (.invokevirtual 33, 3) := by decide +kernel
theorem dL_light_319 : decode cL_light 319 = .ok (.if_icmp .ne 90, 3) := by decide +kernel
theorem dL_light_322 : decode cL_light 322 = .ok (.iload 5, 2) := by decide +kernel
theorem dL_light_324 : decode cL_light 324 = .ok (.iload 4, 2) := by decide +kernel
theorem dL_light_326 : decode cL_light 326 = .ok (.isub, 1) := by decide +kernel
theorem dL_light_327 : decode cL_light 327 = .ok (.aload_n 0, 1) := by decide +kernel
theorem dL_light_328 : decode cL_light 328 = .ok (.iload_n 1, 1) := by decide +kernel
theorem dL_light_329 : decode cL_light 329 = .ok (.iconst 4, 1) := by decide +kernel
theorem dL_light_330 : decode cL_light 330 = .ok (.invokevirtual 33, 3) := by decide +kernel
theorem dL_light_333 : decode cL_light 333 = .ok (.if_icmp .ne 76, 3) := by decide +kernel
theorem dL_light_336 : decode cL_light 336 = .ok (.iload 6, 2) := by decide +kernel
theorem dL_light_338 : decode cL_light 338 = .ok (.aload_n 0, 1) := by decide +kernel
theorem dL_light_339 : decode cL_light 339 = .ok (.iload_n 1, 1) := by decide +kernel
theorem dL_light_340 : decode cL_light 340 = .ok (.iconst 5, 1) := by decide +kernel
theorem dL_light_341 : decode cL_light 341 = .ok (.invokevirtual 33, 3) := by decide +kernel
theorem dL_light_344 : decode cL_light 344 = .ok (.if_icmp .ne 65, 3) := by decide +kernel
theorem dL_light_347 : decode cL_light 347 = .ok (.aload_n 0, 1) := by decide +kernel
theorem dL_light_348 : decode cL_light 348 = .ok (.iload_n 1, 1) := by decide +kernel
theorem dL_light_349 : decode cL_light 349 = .ok (.aload_n 0, 1) := by decide +kernel
theorem dL_light_350 : decode cL_light 350 = .ok (.iload_n 1, 1) := by decide +kernel
theorem dL_light_351 : decode cL_light 351 = .ok (.bipush 6, 2) := by decide +kernel
theorem dL_light_353 : decode cL_light 353 = .ok (.invokevirtual 33, 3) := by decide +kernel
theorem dL_light_356 : decode cL_light 356 = .ok (.iconst 3, 1) := by decide +kernel
theorem dL_light_357 : decode cL_light 357 = .ok (.invokevirtual 29, 3) := by decide +kernel
theorem dL_light_360 : decode cL_light 360 = .ok (.iload 6, 2) := by decide +kernel
theorem dL_light_362 : decode cL_light 362 = .ok (.if_icmp .ne 47, 3) := by decide +kernel
theorem dL_light_365 : decode cL_light 365 = .ok (.iload_n 3, 1) := by decide +kernel
theorem dL_light_366 : decode cL_light 366 = .ok (.aload_n 0, 1) := by decide +kernel
theorem dL_light_367 : decode cL_light 367 = .ok (.iload_n 1, 1) := by decide +kernel
theorem dL_light_368 : decode cL_light 368 = .ok (.bipush 7, 2) := by decide +kernel
theorem dL_light_370 : decode cL_light 370 = .ok (.invokevirtual 33, 3) := by decide +kernel
theorem dL_light_373 : decode cL_light 373 = .ok (.if_icmp .ne 36, 3) := by decide +kernel
theorem dL_light_376 : decode cL_light 376 = .ok (.aload_n 0, 1) := by decide +kernel
theorem dL_light_377 : decode cL_light 377 = .ok (.iload_n 1, 1) := by decide +kernel
theorem dL_light_378 : decode cL_light 378 = .ok (.iconst 2, 1) := by decide +kernel
theorem dL_light_379 : decode cL_light 379 = .ok (.invokevirtual 33, 3) := by decide +kernel
theorem dL_light_382 : decode cL_light 382 = .ok (.ifCond .lt 27, 3) := by decide +kernel
theorem dL_light_385 : decode cL_light 385 = .ok (.aload_n 0, 1) := by decide +kernel
theorem dL_light_386 : decode cL_light 386 = .ok (.iload_n 1, 1) := by decide +kernel
theorem dL_light_387 : decode cL_light 387 = .ok (.invokevirtual 41, 3) := by decide +kernel
theorem dL_light_390 : decode cL_light 390 = .ok (.dconst 0, 1) := by decide +kernel
theorem dL_light_391 : decode cL_light 391 = .ok (.dcmp .l, 1) := by decide +kernel
theorem dL_light_392 : decode cL_light 392 = .ok (.ifCond .lt 17, 3) := by decide +kernel
theorem dL_light_395 : decode cL_light 395 = .ok (.aload_n 0, 1) := by decide +kernel
theorem dL_light_396 : decode cL_light 396 = .ok (.iload_n 1, 1) := by decide +kernel
theorem dL_light_397 : decode cL_light 397 = .ok (.invokevirtual 41, 3) := by decide +kernel
theorem dL_light_400 : decode cL_light 400 = .ok (.dconst 1, 1) := by decide +kernel
theorem dL_light_401 : decode cL_light 401 = .ok (.dcmp .g, 1) := by decide +kernel
theorem dL_light_402 : decode cL_light 402 = .ok (.ifCond .gt 7, 3) := by decide +kernel
theorem dL_light_405 : decode cL_light 405 = .ok (.iconst 1, 1) := by decide +kernel
theorem dL_light_406 : decode cL_light 406 = .ok (.goto 4, 3) := by decide +kernel
theorem dL_light_409 : decode cL_light 409 = .ok (.iconst 0, 1) := by decide +kernel
theorem dL_light_410 : decode cL_light 410 = .ok (.ireturn, 1) := by decide +kernel
abbrev zL_light : List Cond := .code yL_light cL_light 13 (some .boolean) :: BIG
def fL_light_j230 (bo : BoT) (now : ShT) (K79 : (ExT × Int32 × Int32 × Int32 × Int32 × Int32 × Int32 × Int32 × Int32 × Int32) → Option (Bool × ExT)) (v230 : ExT × Int32 × Int32 × Int32 × Int32 × Int32 × Int32 × Int32 × Int32 × Int32 × Int32) : Option (Bool × ExT) := tq (fX2_speed bo now v230.1 v230.2.1 0) (fun r28 => (fL_size (v230.2.2.2.2.2.2.2.2.2.1 - r28.1)).bind (fun r29 => (if v230.2.2.2.2.2.2.2.2.2.2 = r29 then (if v230.2.2.2.2.2.2.2.2.1 = 0 then K79 (r28.2, v230.2.1, v230.2.2.1, v230.2.2.2.1, v230.2.2.2.2.1, v230.2.2.2.2.2.1, v230.2.2.2.2.2.2.1, v230.2.2.2.2.2.2.2.1, 1, v230.2.2.2.2.2.2.2.2.1 + 1) else tq (fX2_column bo now r28.2 v230.2.1 v230.2.2.2.2.2.2.2.2.1 0) (fun r32 => tq (fX2_column bo now r32.2 v230.2.1 (v230.2.2.2.2.2.2.2.2.1 - 1) 0) (fun r33 => (if r32.1 ≤ r33.1 then K79 (r33.2, v230.2.1, v230.2.2.1, v230.2.2.2.1, v230.2.2.2.2.1, v230.2.2.2.2.2.1, v230.2.2.2.2.2.2.1, v230.2.2.2.2.2.2.2.1, 0, v230.2.2.2.2.2.2.2.2.1 + 1) else tq (fX2_column bo now r33.2 v230.2.1 v230.2.2.2.2.2.2.2.2.1 1) (fun r35 => tq (fX2_column bo now r35.2 v230.2.1 (v230.2.2.2.2.2.2.2.2.1 - 1) 1) (fun r36 => (if r35.1 ≤ r36.1 then K79 (r36.2, v230.2.1, v230.2.2.1, v230.2.2.2.1, v230.2.2.2.2.1, v230.2.2.2.2.2.1, v230.2.2.2.2.2.2.1, v230.2.2.2.2.2.2.2.1, 0, v230.2.2.2.2.2.2.2.2.1 + 1) else K79 (r36.2, v230.2.1, v230.2.2.1, v230.2.2.2.1, v230.2.2.2.2.1, v230.2.2.2.2.2.1, v230.2.2.2.2.2.2.1, v230.2.2.2.2.2.2.2.1, 1, v230.2.2.2.2.2.2.2.2.1 + 1)))))))) else K79 (r28.2, v230.2.1, v230.2.2.1, v230.2.2.2.1, v230.2.2.2.2.1, v230.2.2.2.2.2.1, v230.2.2.2.2.2.2.1, v230.2.2.2.2.2.2.2.1, 0, v230.2.2.2.2.2.2.2.2.1 + 1))))
def fL_light_j194 (bo : BoT) (now : ShT) (K79 : (ExT × Int32 × Int32 × Int32 × Int32 × Int32 × Int32 × Int32 × Int32 × Int32) → Option (Bool × ExT)) (v194 : ExT × Int32 × Int32 × Int32 × Int32 × Int32 × Int32 × Int32 × Int32 × Int32 × Int32 × Int32) : Option (Bool × ExT) := (if v194.2.2.2.2.2.2.2.2.2.1 < 0 then K79 (v194.1, v194.2.1, v194.2.2.1, v194.2.2.2.1, v194.2.2.2.2.1, v194.2.2.2.2.2.1, v194.2.2.2.2.2.2.2.2.2.2.2, v194.2.2.2.2.2.2.1, 0, v194.2.2.2.2.2.2.2.1 + 1) else (if v194.2.2.2.2.2.2.2.2.1 < 0 then K79 (v194.1, v194.2.1, v194.2.2.1, v194.2.2.2.1, v194.2.2.2.2.1, v194.2.2.2.2.2.1, v194.2.2.2.2.2.2.2.2.2.2.2, v194.2.2.2.2.2.2.1, 0, v194.2.2.2.2.2.2.2.1 + 1) else (if v194.2.2.2.2.2.2.2.2.2.1 < v194.2.2.2.2.2.2.2.2.1 then K79 (v194.1, v194.2.1, v194.2.2.1, v194.2.2.2.1, v194.2.2.2.2.1, v194.2.2.2.2.2.1, v194.2.2.2.2.2.2.2.2.2.2.2, v194.2.2.2.2.2.2.1, 0, v194.2.2.2.2.2.2.2.1 + 1) else (if (24 - v194.2.2.2.2.2.2.1) ≤ v194.2.2.2.2.2.2.2.1 then fL_light_j230 bo now K79 (v194.1, v194.2.1, v194.2.2.1, v194.2.2.2.1, v194.2.2.2.2.1, v194.2.2.2.2.2.1, v194.2.2.2.2.2.2.2.2.2.2.2, v194.2.2.2.2.2.2.1, v194.2.2.2.2.2.2.2.1, v194.2.2.2.2.2.2.2.2.1, v194.2.2.2.2.2.2.2.2.2.2.1) else (if v194.2.2.2.2.2.2.2.2.1 = v194.2.2.2.2.2.2.2.2.2.1 then fL_light_j230 bo now K79 (v194.1, v194.2.1, v194.2.2.1, v194.2.2.2.1, v194.2.2.2.2.1, v194.2.2.2.2.2.1, v194.2.2.2.2.2.2.2.2.2.2.2, v194.2.2.2.2.2.2.1, v194.2.2.2.2.2.2.2.1, v194.2.2.2.2.2.2.2.2.1, v194.2.2.2.2.2.2.2.2.2.2.1) else K79 (v194.1, v194.2.1, v194.2.2.1, v194.2.2.2.1, v194.2.2.2.2.1, v194.2.2.2.2.2.1, v194.2.2.2.2.2.2.2.2.2.2.2, v194.2.2.2.2.2.2.1, 0, v194.2.2.2.2.2.2.2.1 + 1))))))
def fL_light_j162 (bo : BoT) (now : ShT) (K79 : (ExT × Int32 × Int32 × Int32 × Int32 × Int32 × Int32 × Int32 × Int32 × Int32) → Option (Bool × ExT)) (v162 : ExT × Int32 × Int32 × Int32 × Int32 × Int32 × Int32 × Int32 × Int32 × Int32 × Int32 × Int32) : Option (Bool × ExT) := (if v162.2.2.2.2.2.2.2.2.1 ≤ v162.2.2.2.2.1 then (if v162.2.2.2.2.2.2.2.2.2.2.1 ≤ v162.2.2.2.2.2.1 then fL_light_j194 bo now K79 (v162.1, v162.2.1, v162.2.2.1, v162.2.2.2.1, v162.2.2.2.2.2.2.2.2.2.2.2, v162.2.2.2.2.1, v162.2.2.2.2.2.2.1, v162.2.2.2.2.2.2.2.1, v162.2.2.2.2.2.2.2.2.1, v162.2.2.2.2.2.2.2.2.2.1, v162.2.2.2.2.2.2.2.2.2.2.1, v162.2.2.2.2.2.1) else fL_light_j194 bo now K79 (v162.1, v162.2.1, v162.2.2.1, v162.2.2.2.1, v162.2.2.2.2.2.2.2.2.2.2.2, v162.2.2.2.2.1, v162.2.2.2.2.2.2.1, v162.2.2.2.2.2.2.2.1, v162.2.2.2.2.2.2.2.2.1, v162.2.2.2.2.2.2.2.2.2.1, v162.2.2.2.2.2.2.2.2.2.2.1, v162.2.2.2.2.2.2.2.2.2.2.1)) else (if v162.2.2.2.2.2.2.2.2.2.2.1 ≤ v162.2.2.2.2.2.1 then fL_light_j194 bo now K79 (v162.1, v162.2.1, v162.2.2.1, v162.2.2.2.1, v162.2.2.2.2.2.2.2.2.2.2.2, v162.2.2.2.2.2.2.2.2.1, v162.2.2.2.2.2.2.1, v162.2.2.2.2.2.2.2.1, v162.2.2.2.2.2.2.2.2.1, v162.2.2.2.2.2.2.2.2.2.1, v162.2.2.2.2.2.2.2.2.2.2.1, v162.2.2.2.2.2.1) else fL_light_j194 bo now K79 (v162.1, v162.2.1, v162.2.2.1, v162.2.2.2.1, v162.2.2.2.2.2.2.2.2.2.2.2, v162.2.2.2.2.2.2.2.2.1, v162.2.2.2.2.2.2.1, v162.2.2.2.2.2.2.2.1, v162.2.2.2.2.2.2.2.2.1, v162.2.2.2.2.2.2.2.2.2.1, v162.2.2.2.2.2.2.2.2.2.2.1, v162.2.2.2.2.2.2.2.2.2.2.1)))
def fL_light_j307 (bo : BoT) (now : ShT)  (v307 : ExT × Int32 × Int32 × Int32 × Int32 × Int32 × Int32 × Int32) : Option (Bool × ExT) := (if v307.2.2.2.2.2.2.2 = 0 then some (false, v307.1) else tq (fX2_speed bo now v307.1 v307.2.1 3) (fun r39 => (if v307.2.2.1 = r39.1 then tq (fX2_speed bo now r39.2 v307.2.1 4) (fun r41 => (if (v307.2.2.2.2.2.1 - v307.2.2.2.2.1) = r41.1 then tq (fX2_speed bo now r41.2 v307.2.1 5) (fun r43 => (if v307.2.2.2.2.2.2.1 = r43.1 then tq (fX2_speed bo now r43.2 v307.2.1 6) (fun r45 => tq (fX2_column bo now r45.2 v307.2.1 r45.1 3) (fun r46 => (if r46.1 = v307.2.2.2.2.2.2.1 then tq (fX2_speed bo now r46.2 v307.2.1 7) (fun r48 => (if v307.2.2.2.1 = r48.1 then tq (fX2_speed bo now r48.2 v307.2.1 2) (fun r50 => (if r50.1 < 0 then some (false, r50.2) else tq (fX2_evenness bo now r50.2 v307.2.1) (fun r52 => (if (Op.cmpValue (FP.dcmp r52.1 FP.dconst0) CmpOp.l) < 0 then some (false, r52.2) else tq (fX2_evenness bo now r52.2 v307.2.1) (fun r54 => (if 0 < (Op.cmpValue (FP.dcmp r54.1 FP.dconst1) CmpOp.g) then some (false, r54.2) else some (true, r54.2))))))) else some (false, r48.2))) else some (false, r46.2)))) else some (false, r43.2))) else some (false, r41.2))) else some (false, r39.2))))
def fL_light_l79 (bo : BoT) (now : ShT)  (K79 : (ExT × Int32 × Int32 × Int32 × Int32 × Int32 × Int32 × Int32 × Int32 × Int32) → Option (Bool × ExT)) (v79 : ExT × Int32 × Int32 × Int32 × Int32 × Int32 × Int32 × Int32 × Int32 × Int32) : Option (Bool × ExT) := (if 24 ≤ v79.2.2.2.2.2.2.2.2.2 then fL_light_j307 bo now (v79.1, v79.2.1, v79.2.2.1, v79.2.2.2.1, v79.2.2.2.2.1, v79.2.2.2.2.2.1, v79.2.2.2.2.2.2.1, v79.2.2.2.2.2.2.2.2.1) else (if v79.2.2.2.2.2.2.2.2.1 = 0 then fL_light_j307 bo now (v79.1, v79.2.1, v79.2.2.1, v79.2.2.2.1, v79.2.2.2.2.1, v79.2.2.2.2.2.1, v79.2.2.2.2.2.2.1, v79.2.2.2.2.2.2.2.2.1) else tq (fX2_column bo now v79.1 v79.2.1 v79.2.2.2.2.2.2.2.2.2 2) (fun r13 => tq (fX2_column bo now r13.2 v79.2.1 v79.2.2.2.2.2.2.2.2.2 1) (fun r14 => tq (fX2_column bo now r14.2 v79.2.1 v79.2.2.2.2.2.2.2.2.2 0) (fun r15 => tq (fX2_column bo now r15.2 v79.2.1 v79.2.2.2.2.2.2.2.2.2 3) (fun r16 => (if r13.1 = 0 then (if v79.2.2.2.2.1 ≤ r13.1 then fL_light_j162 bo now K79 (r16.2, v79.2.1, v79.2.2.1 + r13.1, v79.2.2.2.1 + 1, v79.2.2.2.2.2.1, v79.2.2.2.2.2.2.1, v79.2.2.2.2.2.2.2.1, v79.2.2.2.2.2.2.2.2.2, r13.1, r14.1 - r15.1, r16.1, v79.2.2.2.2.1) else fL_light_j162 bo now K79 (r16.2, v79.2.1, v79.2.2.1 + r13.1, v79.2.2.2.1 + 1, v79.2.2.2.2.2.1, v79.2.2.2.2.2.2.1, v79.2.2.2.2.2.2.2.1, v79.2.2.2.2.2.2.2.2.2, r13.1, r14.1 - r15.1, r16.1, r13.1)) else (if v79.2.2.2.2.1 ≤ r13.1 then fL_light_j162 bo now K79 (r16.2, v79.2.1, v79.2.2.1 + r13.1, v79.2.2.2.1 + 0, v79.2.2.2.2.2.1, v79.2.2.2.2.2.2.1, v79.2.2.2.2.2.2.2.1, v79.2.2.2.2.2.2.2.2.2, r13.1, r14.1 - r15.1, r16.1, v79.2.2.2.2.1) else fL_light_j162 bo now K79 (r16.2, v79.2.1, v79.2.2.1 + r13.1, v79.2.2.2.1 + 0, v79.2.2.2.2.2.1, v79.2.2.2.2.2.2.1, v79.2.2.2.2.2.2.2.1, v79.2.2.2.2.2.2.2.2.2, r13.1, r14.1 - r15.1, r16.1, r13.1)))))))))
def fL_light_j52 (bo : BoT) (now : ShT)  (v52 : ExT × Int32 × Int32 × Int32 × Int32 × Int32 × Int32 × Int32) : Option (Bool × ExT) := tq (fX2_column bo now v52.1 v52.2.1 23 0) (fun r8 => tq (fX2_curtain bo now 0 2) (fun r9 => (if r8.1 = r9 then lp (fL_light_l79 bo now) 2000 (r8.2, v52.2.1, v52.2.2.1, v52.2.2.2.1, v52.2.2.2.2.1, v52.2.2.2.2.2.1, v52.2.2.2.2.2.2.1, v52.2.2.2.2.2.2.2, 1, 0) else lp (fL_light_l79 bo now) 2000 (r8.2, v52.2.1, v52.2.2.1, v52.2.2.2.1, v52.2.2.2.2.1, v52.2.2.2.2.2.1, v52.2.2.2.2.2.2.1, v52.2.2.2.2.2.2.2, 0, 0))))
def fL_light (bo : BoT) (now : ShT) (ex : ExT) (v : Int32) : Option (Bool × ExT) := tq (fX2_count bo now 2) (fun r1 => (if r1 < 0 then lp (fL_light_l79 bo now) 2000 (ex, v, 0, 0, 100000, 0, 0, r1, 0, 0) else (if 6 < r1 then lp (fL_light_l79 bo now) 2000 (ex, v, 0, 0, 100000, 0, 0, r1, 0, 0) else tq (fX2_curtain bo now 0 0) (fun r4 => tq (fX2_setting bo now 1) (fun r5 => (if r5 < r4 then fL_light_j52 bo now (ex, v, 0, 0, 100000, 0, 0, r1) else (if r1 = 0 then fL_light_j52 bo now (ex, v, 0, 0, 100000, 0, 0, r1) else lp (fL_light_l79 bo now) 2000 (ex, v, 0, 0, 100000, 0, 0, r1, 0, 0))))))))
set_option maxHeartbeats 4000000 in
set_option maxRecDepth 100000 in
theorem mtL_light (l : Launch) (D : va_G) (t : Nat → ClassId) (bh : Nat) (bk : Nat → Nat) (bo : BoT) (nb : Nat → Nat) (now : ShT) (eb : Nat → Nat) (ex : ExT) (v : Int32) (out : Bool × ExT) (h : fL_light bo now ex v = some out)  (sz : Nat) : Met l yL_light zL_light ({ frames := 5, cells := 0, slots := 0, locals := 116 }) (sPc D t (gBo bh bk bo ++ (gS t (bk 0) nb now ++ (gE t (bk 2) eb ex))) sz [.ref bh, .int v]) (qI D t (gBo bh bk bo ++ (gS t (bk 0) nb now ++ (gE t (bk 2) eb out.2))) (b2i out.1) (va_A (gBo bh bk bo ++ (gS t (bk 0) nb now ++ (gE t (bk 2) eb ex))) sz)) 0 0 (va_A (gBo bh bk bo ++ (gS t (bk 0) nb now ++ (gE t (bk 2) eb ex))) sz) := by
  refine met_of (Qf := fun A => qI D t (gBo bh bk bo ++ (gS t (bk 0) nb now ++ (gE t (bk 2) eb out.2))) (b2i out.1) A) (cc := cL_light) (maxL := 13) (ret := some .boolean) (by decide) rfl (Nat.le_of_ble_eq_true rfl) ?_
  intro p e s m args below meth c A hx hb hr hml hts hown hlocks hA hP hK hD hE hS ls hl
  have htB : ∀ w ∈ BIG, w.before args s = true := fun w h => hts w (List.mem_cons_of_mem _ h)
  have hown : s.vm.findClass RL = some m.cls := hown
  have hl : lv_has ls 13 [(0, .ref bh), (1, .int v)] := hl
  unfold fL_light at h
  have J307 : ∀ v307 : ExT × Int32 × Int32 × Int32 × Int32 × Int32 × Int32 × Int32, fL_light_j307 bo now v307 = some out → ∀ (H : Heap) (locs : List Loc), va_P D vwCl (gBo bh bk bo ++ (gS t (bk 0) nb now ++ (gE t (bk 2) eb v307.1))) H → va_D A (gBo bh bk bo ++ (gS t (bk 0) nb now ++ (gE t (bk 2) eb v307.1))) → va_S A s.heap H locs → ∀ ls : Array Slot, lv_has ls 13 [(0, .ref bh), (1, .int v307.2.1), (2, .int v307.2.2.1), (3, .int v307.2.2.2.1), (4, .int v307.2.2.2.2.1), (5, .int v307.2.2.2.2.2.1), (6, .int v307.2.2.2.2.2.2.1), (8, .int v307.2.2.2.2.2.2.2)] → W p l e ({ frames := 5, cells := 0, slots := 0, locals := 116 }) s m args below meth c H locs 0 0 (MQ below (qI D t (gBo bh bk bo ++ (gS t (bk 0) nb now ++ (gE t (bk 2) eb out.2))) (b2i out.1) A) args s 0 0 A) (F0 m 307 ls []) := by
    intro v307 h H locs hP hD hS ls hl
    unfold fL_light_j307 at h
    refine lv_iload hx hb dL_light_307 (lv_at hl 7 rfl) ?_
    refine lv_if_eq (tgt := 409) hx hb dL_light_309 (by decide) (fun c38 => ?_) (fun c38 => ?_)
    · have h := it_p c38 h
      refine lv_iconst (v := 0) hx hb dL_light_409 (by decide) ?_
      obtain rfl := os h
      exact ret_z hx hb hr hlocks hP hK hD hS dL_light_410
    · have h := it_n c38 h
      refine lv_iload_n hx hb dL_light_312 rfl (lv_at hl 2 rfl) ?_
      refine lv_aload_n hx hb dL_light_313 rfl (lv_at hl 0 rfl) ?_
      refine lv_iload_n hx hb dL_light_314 rfl (lv_at hl 1 rfl) ?_
      refine lv_iconst (v := 3) hx hb dL_light_315 (by decide) ?_
      obtain ⟨r39, h39, h⟩ := tq_r h
      refine call_i (v := r39.1) (wc := (gBo bh bk bo ++ (gS t (bk 0) nb now ++ (gE t (bk 2) eb v307.1)))) (wc' := (gBo bh bk bo ++ (gS t (bk 0) nb now ++ (gE t (bk 2) eb r39.2)))) (ws' := (gBo bh bk bo ++ (gS t (bk 0) nb now ++ (gE t (bk 2) eb r39.2)))) (cutB (bs := [gBo bh bk bo, gS t (bk 0) nb now, gE t (bk 2) eb v307.1]) (cs := [gBo bh bk bo, gS t (bk 0) nb now, gE t (bk 2) eb v307.1]) (cs' := [gBo bh bk bo, gS t (bk 0) nb now, gE t (bk 2) eb r39.2]) (bs' := [gBo bh bk bo, gS t (bk 0) nb now, gE t (bk 2) eb r39.2]) [0, 1, 2] hP hD hS hA rfl rfl rfl rfl) hS (fun hPc hDc => va_runV (As := [.int v307.2.1, .int 3]) (rest := [.int v307.2.2.1]) ⟨hx, hb, hml, hown, hts⟩ (mtX2_speed l D t bh bk bo nb now eb v307.1 v307.2.1 3 r39 h39 _) (cwV 2 hts (gBV kw183 kw184 kw185 kw2 kw186) rfl rfl rfl (by decide +kernel) ⟨Nat.le_of_ble_eq_true rfl, Nat.le_of_ble_eq_true rfl⟩) (sPc_V hPc hK hDc hE (va_recv hK hP (ci := 2) (q0 := 0) rfl rfl)) rfl rfl hl.1 rfl (lv_room (Nat.le_of_ble_eq_true rfl)) dL_light_316 ⟨Nat.zero_le _, Nat.zero_le _⟩) (fun H locs hP hD hS => ?_)
      refine lv_icmp_ne (tgt := 409) hx hb dL_light_319 (by decide) (fun c40 => ?_) (fun c40 => ?_)
      · have h := it_n c40 h
        refine lv_iconst (v := 0) hx hb dL_light_409 (by decide) ?_
        obtain rfl := os h
        exact ret_z hx hb hr hlocks hP hK hD hS dL_light_410
      · have h := it_p c40 h
        refine lv_iload hx hb dL_light_322 (lv_at hl 5 rfl) ?_
        refine lv_iload hx hb dL_light_324 (lv_at hl 4 rfl) ?_
        refine lv_isub hx hb dL_light_326 ?_
        refine lv_aload_n hx hb dL_light_327 rfl (lv_at hl 0 rfl) ?_
        refine lv_iload_n hx hb dL_light_328 rfl (lv_at hl 1 rfl) ?_
        refine lv_iconst (v := 4) hx hb dL_light_329 (by decide) ?_
        obtain ⟨r41, h41, h⟩ := tq_r h
        refine call_i (v := r41.1) (wc := (gBo bh bk bo ++ (gS t (bk 0) nb now ++ (gE t (bk 2) eb r39.2)))) (wc' := (gBo bh bk bo ++ (gS t (bk 0) nb now ++ (gE t (bk 2) eb r41.2)))) (ws' := (gBo bh bk bo ++ (gS t (bk 0) nb now ++ (gE t (bk 2) eb r41.2)))) (cutB (bs := [gBo bh bk bo, gS t (bk 0) nb now, gE t (bk 2) eb r39.2]) (cs := [gBo bh bk bo, gS t (bk 0) nb now, gE t (bk 2) eb r39.2]) (cs' := [gBo bh bk bo, gS t (bk 0) nb now, gE t (bk 2) eb r41.2]) (bs' := [gBo bh bk bo, gS t (bk 0) nb now, gE t (bk 2) eb r41.2]) [0, 1, 2] hP hD hS hA rfl rfl rfl rfl) hS (fun hPc hDc => va_runV (As := [.int v307.2.1, .int 4]) (rest := [.int (v307.2.2.2.2.2.1 - v307.2.2.2.2.1)]) ⟨hx, hb, hml, hown, hts⟩ (mtX2_speed l D t bh bk bo nb now eb r39.2 v307.2.1 4 r41 h41 _) (cwV 2 hts (gBV kw183 kw184 kw185 kw2 kw186) rfl rfl rfl (by decide +kernel) ⟨Nat.le_of_ble_eq_true rfl, Nat.le_of_ble_eq_true rfl⟩) (sPc_V hPc hK hDc hE (va_recv hK hP (ci := 2) (q0 := 0) rfl rfl)) rfl rfl hl.1 rfl (lv_room (Nat.le_of_ble_eq_true rfl)) dL_light_330 ⟨Nat.zero_le _, Nat.zero_le _⟩) (fun H locs hP hD hS => ?_)
        refine lv_icmp_ne (tgt := 409) hx hb dL_light_333 (by decide) (fun c42 => ?_) (fun c42 => ?_)
        · have h := it_n c42 h
          refine lv_iconst (v := 0) hx hb dL_light_409 (by decide) ?_
          obtain rfl := os h
          exact ret_z hx hb hr hlocks hP hK hD hS dL_light_410
        · have h := it_p c42 h
          refine lv_iload hx hb dL_light_336 (lv_at hl 6 rfl) ?_
          refine lv_aload_n hx hb dL_light_338 rfl (lv_at hl 0 rfl) ?_
          refine lv_iload_n hx hb dL_light_339 rfl (lv_at hl 1 rfl) ?_
          refine lv_iconst (v := 5) hx hb dL_light_340 (by decide) ?_
          obtain ⟨r43, h43, h⟩ := tq_r h
          refine call_i (v := r43.1) (wc := (gBo bh bk bo ++ (gS t (bk 0) nb now ++ (gE t (bk 2) eb r41.2)))) (wc' := (gBo bh bk bo ++ (gS t (bk 0) nb now ++ (gE t (bk 2) eb r43.2)))) (ws' := (gBo bh bk bo ++ (gS t (bk 0) nb now ++ (gE t (bk 2) eb r43.2)))) (cutB (bs := [gBo bh bk bo, gS t (bk 0) nb now, gE t (bk 2) eb r41.2]) (cs := [gBo bh bk bo, gS t (bk 0) nb now, gE t (bk 2) eb r41.2]) (cs' := [gBo bh bk bo, gS t (bk 0) nb now, gE t (bk 2) eb r43.2]) (bs' := [gBo bh bk bo, gS t (bk 0) nb now, gE t (bk 2) eb r43.2]) [0, 1, 2] hP hD hS hA rfl rfl rfl rfl) hS (fun hPc hDc => va_runV (As := [.int v307.2.1, .int 5]) (rest := [.int v307.2.2.2.2.2.2.1]) ⟨hx, hb, hml, hown, hts⟩ (mtX2_speed l D t bh bk bo nb now eb r41.2 v307.2.1 5 r43 h43 _) (cwV 2 hts (gBV kw183 kw184 kw185 kw2 kw186) rfl rfl rfl (by decide +kernel) ⟨Nat.le_of_ble_eq_true rfl, Nat.le_of_ble_eq_true rfl⟩) (sPc_V hPc hK hDc hE (va_recv hK hP (ci := 2) (q0 := 0) rfl rfl)) rfl rfl hl.1 rfl (lv_room (Nat.le_of_ble_eq_true rfl)) dL_light_341 ⟨Nat.zero_le _, Nat.zero_le _⟩) (fun H locs hP hD hS => ?_)
          refine lv_icmp_ne (tgt := 409) hx hb dL_light_344 (by decide) (fun c44 => ?_) (fun c44 => ?_)
          · have h := it_n c44 h
            refine lv_iconst (v := 0) hx hb dL_light_409 (by decide) ?_
            obtain rfl := os h
            exact ret_z hx hb hr hlocks hP hK hD hS dL_light_410
          · have h := it_p c44 h
            refine lv_aload_n hx hb dL_light_347 rfl (lv_at hl 0 rfl) ?_
            refine lv_iload_n hx hb dL_light_348 rfl (lv_at hl 1 rfl) ?_
            refine lv_aload_n hx hb dL_light_349 rfl (lv_at hl 0 rfl) ?_
            refine lv_iload_n hx hb dL_light_350 rfl (lv_at hl 1 rfl) ?_
            refine lv_bipush (v := 6) hx hb dL_light_351 (by decide) ?_
            obtain ⟨r45, h45, h⟩ := tq_r h
            refine call_i (v := r45.1) (wc := (gBo bh bk bo ++ (gS t (bk 0) nb now ++ (gE t (bk 2) eb r43.2)))) (wc' := (gBo bh bk bo ++ (gS t (bk 0) nb now ++ (gE t (bk 2) eb r45.2)))) (ws' := (gBo bh bk bo ++ (gS t (bk 0) nb now ++ (gE t (bk 2) eb r45.2)))) (cutB (bs := [gBo bh bk bo, gS t (bk 0) nb now, gE t (bk 2) eb r43.2]) (cs := [gBo bh bk bo, gS t (bk 0) nb now, gE t (bk 2) eb r43.2]) (cs' := [gBo bh bk bo, gS t (bk 0) nb now, gE t (bk 2) eb r45.2]) (bs' := [gBo bh bk bo, gS t (bk 0) nb now, gE t (bk 2) eb r45.2]) [0, 1, 2] hP hD hS hA rfl rfl rfl rfl) hS (fun hPc hDc => va_runV (As := [.int v307.2.1, .int 6]) (rest := [.int v307.2.1, .ref bh]) ⟨hx, hb, hml, hown, hts⟩ (mtX2_speed l D t bh bk bo nb now eb r43.2 v307.2.1 6 r45 h45 _) (cwV 2 hts (gBV kw183 kw184 kw185 kw2 kw186) rfl rfl rfl (by decide +kernel) ⟨Nat.le_of_ble_eq_true rfl, Nat.le_of_ble_eq_true rfl⟩) (sPc_V hPc hK hDc hE (va_recv hK hP (ci := 2) (q0 := 0) rfl rfl)) rfl rfl hl.1 rfl (lv_room (Nat.le_of_ble_eq_true rfl)) dL_light_353 ⟨Nat.zero_le _, Nat.zero_le _⟩) (fun H locs hP hD hS => ?_)
            refine lv_iconst (v := 3) hx hb dL_light_356 (by decide) ?_
            obtain ⟨r46, h46, h⟩ := tq_r h
            refine call_i (v := r46.1) (wc := (gBo bh bk bo ++ (gS t (bk 0) nb now ++ (gE t (bk 2) eb r45.2)))) (wc' := (gBo bh bk bo ++ (gS t (bk 0) nb now ++ (gE t (bk 2) eb r46.2)))) (ws' := (gBo bh bk bo ++ (gS t (bk 0) nb now ++ (gE t (bk 2) eb r46.2)))) (cutB (bs := [gBo bh bk bo, gS t (bk 0) nb now, gE t (bk 2) eb r45.2]) (cs := [gBo bh bk bo, gS t (bk 0) nb now, gE t (bk 2) eb r45.2]) (cs' := [gBo bh bk bo, gS t (bk 0) nb now, gE t (bk 2) eb r46.2]) (bs' := [gBo bh bk bo, gS t (bk 0) nb now, gE t (bk 2) eb r46.2]) [0, 1, 2] hP hD hS hA rfl rfl rfl rfl) hS (fun hPc hDc => va_runV (As := [.int v307.2.1, .int r45.1, .int 3]) (rest := []) ⟨hx, hb, hml, hown, hts⟩ (mtX2_column l D t bh bk bo nb now eb r45.2 v307.2.1 r45.1 3 r46 h46 _) (cwV 3 hts (gBV kw260 kw261 kw262 kw2 kw263) rfl rfl rfl (by decide +kernel) ⟨Nat.le_of_ble_eq_true rfl, Nat.le_of_ble_eq_true rfl⟩) (sPc_V hPc hK hDc hE (va_recv hK hP (ci := 2) (q0 := 0) rfl rfl)) rfl rfl hl.1 rfl (lv_room (Nat.le_of_ble_eq_true rfl)) dL_light_357 ⟨Nat.zero_le _, Nat.zero_le _⟩) (fun H locs hP hD hS => ?_)
            refine lv_iload hx hb dL_light_360 (lv_at hl 6 rfl) ?_
            refine lv_icmp_ne (tgt := 409) hx hb dL_light_362 (by decide) (fun c47 => ?_) (fun c47 => ?_)
            · have h := it_n c47 h
              refine lv_iconst (v := 0) hx hb dL_light_409 (by decide) ?_
              obtain rfl := os h
              exact ret_z hx hb hr hlocks hP hK hD hS dL_light_410
            · have h := it_p c47 h
              refine lv_iload_n hx hb dL_light_365 rfl (lv_at hl 3 rfl) ?_
              refine lv_aload_n hx hb dL_light_366 rfl (lv_at hl 0 rfl) ?_
              refine lv_iload_n hx hb dL_light_367 rfl (lv_at hl 1 rfl) ?_
              refine lv_bipush (v := 7) hx hb dL_light_368 (by decide) ?_
              obtain ⟨r48, h48, h⟩ := tq_r h
              refine call_i (v := r48.1) (wc := (gBo bh bk bo ++ (gS t (bk 0) nb now ++ (gE t (bk 2) eb r46.2)))) (wc' := (gBo bh bk bo ++ (gS t (bk 0) nb now ++ (gE t (bk 2) eb r48.2)))) (ws' := (gBo bh bk bo ++ (gS t (bk 0) nb now ++ (gE t (bk 2) eb r48.2)))) (cutB (bs := [gBo bh bk bo, gS t (bk 0) nb now, gE t (bk 2) eb r46.2]) (cs := [gBo bh bk bo, gS t (bk 0) nb now, gE t (bk 2) eb r46.2]) (cs' := [gBo bh bk bo, gS t (bk 0) nb now, gE t (bk 2) eb r48.2]) (bs' := [gBo bh bk bo, gS t (bk 0) nb now, gE t (bk 2) eb r48.2]) [0, 1, 2] hP hD hS hA rfl rfl rfl rfl) hS (fun hPc hDc => va_runV (As := [.int v307.2.1, .int 7]) (rest := [.int v307.2.2.2.1]) ⟨hx, hb, hml, hown, hts⟩ (mtX2_speed l D t bh bk bo nb now eb r46.2 v307.2.1 7 r48 h48 _) (cwV 2 hts (gBV kw183 kw184 kw185 kw2 kw186) rfl rfl rfl (by decide +kernel) ⟨Nat.le_of_ble_eq_true rfl, Nat.le_of_ble_eq_true rfl⟩) (sPc_V hPc hK hDc hE (va_recv hK hP (ci := 2) (q0 := 0) rfl rfl)) rfl rfl hl.1 rfl (lv_room (Nat.le_of_ble_eq_true rfl)) dL_light_370 ⟨Nat.zero_le _, Nat.zero_le _⟩) (fun H locs hP hD hS => ?_)
              refine lv_icmp_ne (tgt := 409) hx hb dL_light_373 (by decide) (fun c49 => ?_) (fun c49 => ?_)
              · have h := it_n c49 h
                refine lv_iconst (v := 0) hx hb dL_light_409 (by decide) ?_
                obtain rfl := os h
                exact ret_z hx hb hr hlocks hP hK hD hS dL_light_410
              · have h := it_p c49 h
                refine lv_aload_n hx hb dL_light_376 rfl (lv_at hl 0 rfl) ?_
                refine lv_iload_n hx hb dL_light_377 rfl (lv_at hl 1 rfl) ?_
                refine lv_iconst (v := 2) hx hb dL_light_378 (by decide) ?_
                obtain ⟨r50, h50, h⟩ := tq_r h
                refine call_i (v := r50.1) (wc := (gBo bh bk bo ++ (gS t (bk 0) nb now ++ (gE t (bk 2) eb r48.2)))) (wc' := (gBo bh bk bo ++ (gS t (bk 0) nb now ++ (gE t (bk 2) eb r50.2)))) (ws' := (gBo bh bk bo ++ (gS t (bk 0) nb now ++ (gE t (bk 2) eb r50.2)))) (cutB (bs := [gBo bh bk bo, gS t (bk 0) nb now, gE t (bk 2) eb r48.2]) (cs := [gBo bh bk bo, gS t (bk 0) nb now, gE t (bk 2) eb r48.2]) (cs' := [gBo bh bk bo, gS t (bk 0) nb now, gE t (bk 2) eb r50.2]) (bs' := [gBo bh bk bo, gS t (bk 0) nb now, gE t (bk 2) eb r50.2]) [0, 1, 2] hP hD hS hA rfl rfl rfl rfl) hS (fun hPc hDc => va_runV (As := [.int v307.2.1, .int 2]) (rest := []) ⟨hx, hb, hml, hown, hts⟩ (mtX2_speed l D t bh bk bo nb now eb r48.2 v307.2.1 2 r50 h50 _) (cwV 2 hts (gBV kw183 kw184 kw185 kw2 kw186) rfl rfl rfl (by decide +kernel) ⟨Nat.le_of_ble_eq_true rfl, Nat.le_of_ble_eq_true rfl⟩) (sPc_V hPc hK hDc hE (va_recv hK hP (ci := 2) (q0 := 0) rfl rfl)) rfl rfl hl.1 rfl (lv_room (Nat.le_of_ble_eq_true rfl)) dL_light_379 ⟨Nat.zero_le _, Nat.zero_le _⟩) (fun H locs hP hD hS => ?_)
                refine lv_if_lt (tgt := 409) hx hb dL_light_382 (by decide) (fun c51 => ?_) (fun c51 => ?_)
                · have h := it_p c51 h
                  refine lv_iconst (v := 0) hx hb dL_light_409 (by decide) ?_
                  obtain rfl := os h
                  exact ret_z hx hb hr hlocks hP hK hD hS dL_light_410
                · have h := it_n c51 h
                  refine lv_aload_n hx hb dL_light_385 rfl (lv_at hl 0 rfl) ?_
                  refine lv_iload_n hx hb dL_light_386 rfl (lv_at hl 1 rfl) ?_
                  obtain ⟨r52, h52, h⟩ := tq_r h
                  refine call_d (v := r52.1) (wc := (gBo bh bk bo ++ (gS t (bk 0) nb now ++ (gE t (bk 2) eb r50.2)))) (wc' := (gBo bh bk bo ++ (gS t (bk 0) nb now ++ (gE t (bk 2) eb r52.2)))) (ws' := (gBo bh bk bo ++ (gS t (bk 0) nb now ++ (gE t (bk 2) eb r52.2)))) (cutB (bs := [gBo bh bk bo, gS t (bk 0) nb now, gE t (bk 2) eb r50.2]) (cs := [gBo bh bk bo, gS t (bk 0) nb now, gE t (bk 2) eb r50.2]) (cs' := [gBo bh bk bo, gS t (bk 0) nb now, gE t (bk 2) eb r52.2]) (bs' := [gBo bh bk bo, gS t (bk 0) nb now, gE t (bk 2) eb r52.2]) [0, 1, 2] hP hD hS hA rfl rfl rfl rfl) hS (fun hPc hDc => va_runV (As := [.int v307.2.1]) (rest := []) ⟨hx, hb, hml, hown, hts⟩ (mtX2_evenness l D t bh bk bo nb now eb r50.2 v307.2.1 r52 h52 _) (cwV 1 hts (gBV kw271 kw272 kw273 kw2 kw274) rfl rfl rfl (by decide +kernel) ⟨Nat.le_of_ble_eq_true rfl, Nat.le_of_ble_eq_true rfl⟩) (sPc_V hPc hK hDc hE (va_recv hK hP (ci := 2) (q0 := 0) rfl rfl)) rfl rfl hl.1 rfl (lv_room (Nat.le_of_ble_eq_true rfl)) dL_light_387 ⟨Nat.zero_le _, Nat.zero_le _⟩) (fun H locs hP hD hS => ?_)
                  refine lv_dconst0 hx hb dL_light_390 ?_
                  refine lv_dcmp hx hb dL_light_391 ?_
                  refine lv_if_lt (tgt := 409) hx hb dL_light_392 (by decide) (fun c53 => ?_) (fun c53 => ?_)
                  · have h := it_p c53 h
                    refine lv_iconst (v := 0) hx hb dL_light_409 (by decide) ?_
                    obtain rfl := os h
                    exact ret_z hx hb hr hlocks hP hK hD hS dL_light_410
                  · have h := it_n c53 h
                    refine lv_aload_n hx hb dL_light_395 rfl (lv_at hl 0 rfl) ?_
                    refine lv_iload_n hx hb dL_light_396 rfl (lv_at hl 1 rfl) ?_
                    obtain ⟨r54, h54, h⟩ := tq_r h
                    refine call_d (v := r54.1) (wc := (gBo bh bk bo ++ (gS t (bk 0) nb now ++ (gE t (bk 2) eb r52.2)))) (wc' := (gBo bh bk bo ++ (gS t (bk 0) nb now ++ (gE t (bk 2) eb r54.2)))) (ws' := (gBo bh bk bo ++ (gS t (bk 0) nb now ++ (gE t (bk 2) eb r54.2)))) (cutB (bs := [gBo bh bk bo, gS t (bk 0) nb now, gE t (bk 2) eb r52.2]) (cs := [gBo bh bk bo, gS t (bk 0) nb now, gE t (bk 2) eb r52.2]) (cs' := [gBo bh bk bo, gS t (bk 0) nb now, gE t (bk 2) eb r54.2]) (bs' := [gBo bh bk bo, gS t (bk 0) nb now, gE t (bk 2) eb r54.2]) [0, 1, 2] hP hD hS hA rfl rfl rfl rfl) hS (fun hPc hDc => va_runV (As := [.int v307.2.1]) (rest := []) ⟨hx, hb, hml, hown, hts⟩ (mtX2_evenness l D t bh bk bo nb now eb r52.2 v307.2.1 r54 h54 _) (cwV 1 hts (gBV kw271 kw272 kw273 kw2 kw274) rfl rfl rfl (by decide +kernel) ⟨Nat.le_of_ble_eq_true rfl, Nat.le_of_ble_eq_true rfl⟩) (sPc_V hPc hK hDc hE (va_recv hK hP (ci := 2) (q0 := 0) rfl rfl)) rfl rfl hl.1 rfl (lv_room (Nat.le_of_ble_eq_true rfl)) dL_light_397 ⟨Nat.zero_le _, Nat.zero_le _⟩) (fun H locs hP hD hS => ?_)
                    refine lv_dconst1 hx hb dL_light_400 ?_
                    refine lv_dcmp hx hb dL_light_401 ?_
                    refine lv_if_gt (tgt := 409) hx hb dL_light_402 (by decide) (fun c55 => ?_) (fun c55 => ?_)
                    · have h := it_p c55 h
                      refine lv_iconst (v := 0) hx hb dL_light_409 (by decide) ?_
                      obtain rfl := os h
                      exact ret_z hx hb hr hlocks hP hK hD hS dL_light_410
                    · have h := it_n c55 h
                      refine lv_iconst (v := 1) hx hb dL_light_405 (by decide) ?_
                      refine lv_goto (tgt := 410) hx hb dL_light_406 (by decide) ?_
                      obtain rfl := os h
                      exact ret_z hx hb hr hlocks hP hK hD hS dL_light_410
  have J79 : ∀ (fu79 : Nat) (v79 : ExT × Int32 × Int32 × Int32 × Int32 × Int32 × Int32 × Int32 × Int32 × Int32), lp (fL_light_l79 bo now) fu79 v79 = some out → ∀ (H : Heap) (locs : List Loc), va_P D vwCl (gBo bh bk bo ++ (gS t (bk 0) nb now ++ (gE t (bk 2) eb v79.1))) H → va_D A (gBo bh bk bo ++ (gS t (bk 0) nb now ++ (gE t (bk 2) eb v79.1))) → va_S A s.heap H locs → ∀ ls : Array Slot, lv_has ls 13 [(0, .ref bh), (1, .int v79.2.1), (2, .int v79.2.2.1), (3, .int v79.2.2.2.1), (4, .int v79.2.2.2.2.1), (5, .int v79.2.2.2.2.2.1), (6, .int v79.2.2.2.2.2.2.1), (7, .int v79.2.2.2.2.2.2.2.1), (8, .int v79.2.2.2.2.2.2.2.2.1), (9, .int v79.2.2.2.2.2.2.2.2.2)] → W p l e ({ frames := 5, cells := 0, slots := 0, locals := 116 }) s m args below meth c H locs 0 0 (MQ below (qI D t (gBo bh bk bo ++ (gS t (bk 0) nb now ++ (gE t (bk 2) eb out.2))) (b2i out.1) A) args s 0 0 A) (F0 m 79 ls []) := by
    intro fu79
    induction fu79 with
    | zero => intro v79 h; cases h
    | succ fu79 ih79 =>
      intro v79 h H locs hP hD hS ls hl
      have h : fL_light_l79 bo now (lp (fL_light_l79 bo now) fu79) v79 = some out := h
      unfold fL_light_l79 at h
      have J230 : ∀ v230 : ExT × Int32 × Int32 × Int32 × Int32 × Int32 × Int32 × Int32 × Int32 × Int32 × Int32, fL_light_j230 bo now (lp (fL_light_l79 bo now) fu79) v230 = some out → ∀ (H : Heap) (locs : List Loc), va_P D vwCl (gBo bh bk bo ++ (gS t (bk 0) nb now ++ (gE t (bk 2) eb v230.1))) H → va_D A (gBo bh bk bo ++ (gS t (bk 0) nb now ++ (gE t (bk 2) eb v230.1))) → va_S A s.heap H locs → ∀ ls : Array Slot, lv_has ls 13 [(0, .ref bh), (1, .int v230.2.1), (2, .int v230.2.2.1), (3, .int v230.2.2.2.1), (4, .int v230.2.2.2.2.1), (5, .int v230.2.2.2.2.2.1), (6, .int v230.2.2.2.2.2.2.1), (7, .int v230.2.2.2.2.2.2.2.1), (9, .int v230.2.2.2.2.2.2.2.2.1), (10, .int v230.2.2.2.2.2.2.2.2.2.1), (12, .int v230.2.2.2.2.2.2.2.2.2.2)] → W p l e ({ frames := 5, cells := 0, slots := 0, locals := 116 }) s m args below meth c H locs 0 0 (MQ below (qI D t (gBo bh bk bo ++ (gS t (bk 0) nb now ++ (gE t (bk 2) eb out.2))) (b2i out.1) A) args s 0 0 A) (F0 m 230 ls []) := by
        intro v230 h H locs hP hD hS ls hl
        unfold fL_light_j230 at h
        refine lv_iload hx hb dL_light_230 (lv_at hl 10 rfl) ?_
        refine lv_iload hx hb dL_light_232 (lv_at hl 9 rfl) ?_
        refine lv_aload_n hx hb dL_light_234 rfl (lv_at hl 0 rfl) ?_
        refine lv_iload_n hx hb dL_light_235 rfl (lv_at hl 1 rfl) ?_
        refine lv_iconst (v := 0) hx hb dL_light_236 (by decide) ?_
        obtain ⟨r28, h28, h⟩ := tq_r h
        refine call_i (v := r28.1) (wc := (gBo bh bk bo ++ (gS t (bk 0) nb now ++ (gE t (bk 2) eb v230.1)))) (wc' := (gBo bh bk bo ++ (gS t (bk 0) nb now ++ (gE t (bk 2) eb r28.2)))) (ws' := (gBo bh bk bo ++ (gS t (bk 0) nb now ++ (gE t (bk 2) eb r28.2)))) (cutB (bs := [gBo bh bk bo, gS t (bk 0) nb now, gE t (bk 2) eb v230.1]) (cs := [gBo bh bk bo, gS t (bk 0) nb now, gE t (bk 2) eb v230.1]) (cs' := [gBo bh bk bo, gS t (bk 0) nb now, gE t (bk 2) eb r28.2]) (bs' := [gBo bh bk bo, gS t (bk 0) nb now, gE t (bk 2) eb r28.2]) [0, 1, 2] hP hD hS hA rfl rfl rfl rfl) hS (fun hPc hDc => va_runV (As := [.int v230.2.1, .int 0]) (rest := [.int v230.2.2.2.2.2.2.2.2.2.1, .int v230.2.2.2.2.2.2.2.2.2.2]) ⟨hx, hb, hml, hown, hts⟩ (mtX2_speed l D t bh bk bo nb now eb v230.1 v230.2.1 0 r28 h28 _) (cwV 2 hts (gBV kw183 kw184 kw185 kw2 kw186) rfl rfl rfl (by decide +kernel) ⟨Nat.le_of_ble_eq_true rfl, Nat.le_of_ble_eq_true rfl⟩) (sPc_V hPc hK hDc hE (va_recv hK hP (ci := 2) (q0 := 0) rfl rfl)) rfl rfl hl.1 rfl (lv_room (Nat.le_of_ble_eq_true rfl)) dL_light_237 ⟨Nat.zero_le _, Nat.zero_le _⟩) (fun H locs hP hD hS => ?_)
        refine lv_isub hx hb dL_light_240 ?_
        obtain ⟨r29, h29, h⟩ := ob h
        refine call_i (v := r29) (wc := ([] : va_W)) (wc' := ([] : va_W)) (ws' := (gBo bh bk bo ++ (gS t (bk 0) nb now ++ (gE t (bk 2) eb r28.2)))) (cutB (bs := [gBo bh bk bo, gS t (bk 0) nb now, gE t (bk 2) eb r28.2]) (cs := []) (cs' := []) (bs' := [gBo bh bk bo, gS t (bk 0) nb now, gE t (bk 2) eb r28.2]) [] hP hD hS hA rfl rfl rfl rfl) hS (fun hPc hDc => va_runS (As := [.int (v230.2.2.2.2.2.2.2.2.2.1 - r28.1)]) (rest := [.int v230.2.2.2.2.2.2.2.2.2.2]) ⟨hx, hb, hml, hown, hts⟩ (mtL_size l D t (v230.2.2.2.2.2.2.2.2.2.1 - r28.1) r29 h29 _) (va_cwS 1 hts (gBS kw268 kw269 kw69 kw270) rfl rfl rfl (by decide +kernel) ⟨Nat.le_of_ble_eq_true rfl, Nat.le_of_ble_eq_true rfl⟩) (sPc_S hPc hK hDc hE) rfl rfl hl.1 rfl (lv_room (Nat.le_of_ble_eq_true rfl)) dL_light_241 ⟨Nat.zero_le _, Nat.zero_le _⟩) (fun H locs hP hD hS => ?_)
        refine lv_icmp_ne (tgt := 298) hx hb dL_light_244 (by decide) (fun c30 => ?_) (fun c30 => ?_)
        · have h := it_n c30 h
          refine lv_iconst (v := 0) hx hb dL_light_298 (by decide) ?_
          refine lv_istore (lv' := [(8, .int 0), (0, .ref bh), (1, .int v230.2.1), (2, .int v230.2.2.1), (3, .int v230.2.2.2.1), (4, .int v230.2.2.2.2.1), (5, .int v230.2.2.2.2.2.1), (6, .int v230.2.2.2.2.2.2.1), (7, .int v230.2.2.2.2.2.2.2.1), (9, .int v230.2.2.2.2.2.2.2.2.1), (10, .int v230.2.2.2.2.2.2.2.2.2.1), (12, .int v230.2.2.2.2.2.2.2.2.2.2)]) hx hb dL_light_299 hl (by decide) rfl (fun ls hl => ?_)
          refine lv_iinc (v := v230.2.2.2.2.2.2.2.2.1 + 1) (lv' := [(9, .int (v230.2.2.2.2.2.2.2.2.1 + 1)), (8, .int 0), (0, .ref bh), (1, .int v230.2.1), (2, .int v230.2.2.1), (3, .int v230.2.2.2.1), (4, .int v230.2.2.2.2.1), (5, .int v230.2.2.2.2.2.1), (6, .int v230.2.2.2.2.2.2.1), (7, .int v230.2.2.2.2.2.2.2.1), (10, .int v230.2.2.2.2.2.2.2.2.2.1), (12, .int v230.2.2.2.2.2.2.2.2.2.2)]) hx hb dL_light_301 hl (k := 9) rfl rfl (by decide) rfl (fun ls hl => ?_)
          refine lv_goto (tgt := 79) hx hb dL_light_304 (by decide) ?_
          exact ih79 (r28.2, v230.2.1, v230.2.2.1, v230.2.2.2.1, v230.2.2.2.2.1, v230.2.2.2.2.2.1, v230.2.2.2.2.2.2.1, v230.2.2.2.2.2.2.2.1, 0, v230.2.2.2.2.2.2.2.2.1 + 1) h _ _ hP hD hS _ (lv_sub hl [2, 3, 4, 5, 6, 7, 8, 9, 1, 0] rfl)
        · have h := it_p c30 h
          refine lv_iload hx hb dL_light_247 (lv_at hl 8 rfl) ?_
          refine lv_if_eq (tgt := 294) hx hb dL_light_249 (by decide) (fun c31 => ?_) (fun c31 => ?_)
          · have h := it_p c31 h
            refine lv_iconst (v := 1) hx hb dL_light_294 (by decide) ?_
            refine lv_goto (tgt := 299) hx hb dL_light_295 (by decide) ?_
            refine lv_istore (lv' := [(8, .int 1), (0, .ref bh), (1, .int v230.2.1), (2, .int v230.2.2.1), (3, .int v230.2.2.2.1), (4, .int v230.2.2.2.2.1), (5, .int v230.2.2.2.2.2.1), (6, .int v230.2.2.2.2.2.2.1), (7, .int v230.2.2.2.2.2.2.2.1), (9, .int v230.2.2.2.2.2.2.2.2.1), (10, .int v230.2.2.2.2.2.2.2.2.2.1), (12, .int v230.2.2.2.2.2.2.2.2.2.2)]) hx hb dL_light_299 hl (by decide) rfl (fun ls hl => ?_)
            refine lv_iinc (v := v230.2.2.2.2.2.2.2.2.1 + 1) (lv' := [(9, .int (v230.2.2.2.2.2.2.2.2.1 + 1)), (8, .int 1), (0, .ref bh), (1, .int v230.2.1), (2, .int v230.2.2.1), (3, .int v230.2.2.2.1), (4, .int v230.2.2.2.2.1), (5, .int v230.2.2.2.2.2.1), (6, .int v230.2.2.2.2.2.2.1), (7, .int v230.2.2.2.2.2.2.2.1), (10, .int v230.2.2.2.2.2.2.2.2.2.1), (12, .int v230.2.2.2.2.2.2.2.2.2.2)]) hx hb dL_light_301 hl (k := 9) rfl rfl (by decide) rfl (fun ls hl => ?_)
            refine lv_goto (tgt := 79) hx hb dL_light_304 (by decide) ?_
            exact ih79 (r28.2, v230.2.1, v230.2.2.1, v230.2.2.2.1, v230.2.2.2.2.1, v230.2.2.2.2.2.1, v230.2.2.2.2.2.2.1, v230.2.2.2.2.2.2.2.1, 1, v230.2.2.2.2.2.2.2.2.1 + 1) h _ _ hP hD hS _ (lv_sub hl [2, 3, 4, 5, 6, 7, 8, 9, 1, 0] rfl)
          · have h := it_n c31 h
            refine lv_aload_n hx hb dL_light_252 rfl (lv_at hl 0 rfl) ?_
            refine lv_iload_n hx hb dL_light_253 rfl (lv_at hl 1 rfl) ?_
            refine lv_iload hx hb dL_light_254 (lv_at hl 8 rfl) ?_
            refine lv_iconst (v := 0) hx hb dL_light_256 (by decide) ?_
            obtain ⟨r32, h32, h⟩ := tq_r h
            refine call_i (v := r32.1) (wc := (gBo bh bk bo ++ (gS t (bk 0) nb now ++ (gE t (bk 2) eb r28.2)))) (wc' := (gBo bh bk bo ++ (gS t (bk 0) nb now ++ (gE t (bk 2) eb r32.2)))) (ws' := (gBo bh bk bo ++ (gS t (bk 0) nb now ++ (gE t (bk 2) eb r32.2)))) (cutB (bs := [gBo bh bk bo, gS t (bk 0) nb now, gE t (bk 2) eb r28.2]) (cs := [gBo bh bk bo, gS t (bk 0) nb now, gE t (bk 2) eb r28.2]) (cs' := [gBo bh bk bo, gS t (bk 0) nb now, gE t (bk 2) eb r32.2]) (bs' := [gBo bh bk bo, gS t (bk 0) nb now, gE t (bk 2) eb r32.2]) [0, 1, 2] hP hD hS hA rfl rfl rfl rfl) hS (fun hPc hDc => va_runV (As := [.int v230.2.1, .int v230.2.2.2.2.2.2.2.2.1, .int 0]) (rest := []) ⟨hx, hb, hml, hown, hts⟩ (mtX2_column l D t bh bk bo nb now eb r28.2 v230.2.1 v230.2.2.2.2.2.2.2.2.1 0 r32 h32 _) (cwV 3 hts (gBV kw260 kw261 kw262 kw2 kw263) rfl rfl rfl (by decide +kernel) ⟨Nat.le_of_ble_eq_true rfl, Nat.le_of_ble_eq_true rfl⟩) (sPc_V hPc hK hDc hE (va_recv hK hP (ci := 2) (q0 := 0) rfl rfl)) rfl rfl hl.1 rfl (lv_room (Nat.le_of_ble_eq_true rfl)) dL_light_257 ⟨Nat.zero_le _, Nat.zero_le _⟩) (fun H locs hP hD hS => ?_)
            refine lv_aload_n hx hb dL_light_260 rfl (lv_at hl 0 rfl) ?_
            refine lv_iload_n hx hb dL_light_261 rfl (lv_at hl 1 rfl) ?_
            refine lv_iload hx hb dL_light_262 (lv_at hl 8 rfl) ?_
            refine lv_iconst (v := 1) hx hb dL_light_264 (by decide) ?_
            refine lv_isub hx hb dL_light_265 ?_
            refine lv_iconst (v := 0) hx hb dL_light_266 (by decide) ?_
            obtain ⟨r33, h33, h⟩ := tq_r h
            refine call_i (v := r33.1) (wc := (gBo bh bk bo ++ (gS t (bk 0) nb now ++ (gE t (bk 2) eb r32.2)))) (wc' := (gBo bh bk bo ++ (gS t (bk 0) nb now ++ (gE t (bk 2) eb r33.2)))) (ws' := (gBo bh bk bo ++ (gS t (bk 0) nb now ++ (gE t (bk 2) eb r33.2)))) (cutB (bs := [gBo bh bk bo, gS t (bk 0) nb now, gE t (bk 2) eb r32.2]) (cs := [gBo bh bk bo, gS t (bk 0) nb now, gE t (bk 2) eb r32.2]) (cs' := [gBo bh bk bo, gS t (bk 0) nb now, gE t (bk 2) eb r33.2]) (bs' := [gBo bh bk bo, gS t (bk 0) nb now, gE t (bk 2) eb r33.2]) [0, 1, 2] hP hD hS hA rfl rfl rfl rfl) hS (fun hPc hDc => va_runV (As := [.int v230.2.1, .int (v230.2.2.2.2.2.2.2.2.1 - 1), .int 0]) (rest := [.int r32.1]) ⟨hx, hb, hml, hown, hts⟩ (mtX2_column l D t bh bk bo nb now eb r32.2 v230.2.1 (v230.2.2.2.2.2.2.2.2.1 - 1) 0 r33 h33 _) (cwV 3 hts (gBV kw260 kw261 kw262 kw2 kw263) rfl rfl rfl (by decide +kernel) ⟨Nat.le_of_ble_eq_true rfl, Nat.le_of_ble_eq_true rfl⟩) (sPc_V hPc hK hDc hE (va_recv hK hP (ci := 2) (q0 := 0) rfl rfl)) rfl rfl hl.1 rfl (lv_room (Nat.le_of_ble_eq_true rfl)) dL_light_267 ⟨Nat.zero_le _, Nat.zero_le _⟩) (fun H locs hP hD hS => ?_)
            refine lv_icmp_le (tgt := 298) hx hb dL_light_270 (by decide) (fun c34 => ?_) (fun c34 => ?_)
            · have h := it_p c34 h
              refine lv_iconst (v := 0) hx hb dL_light_298 (by decide) ?_
              refine lv_istore (lv' := [(8, .int 0), (0, .ref bh), (1, .int v230.2.1), (2, .int v230.2.2.1), (3, .int v230.2.2.2.1), (4, .int v230.2.2.2.2.1), (5, .int v230.2.2.2.2.2.1), (6, .int v230.2.2.2.2.2.2.1), (7, .int v230.2.2.2.2.2.2.2.1), (9, .int v230.2.2.2.2.2.2.2.2.1), (10, .int v230.2.2.2.2.2.2.2.2.2.1), (12, .int v230.2.2.2.2.2.2.2.2.2.2)]) hx hb dL_light_299 hl (by decide) rfl (fun ls hl => ?_)
              refine lv_iinc (v := v230.2.2.2.2.2.2.2.2.1 + 1) (lv' := [(9, .int (v230.2.2.2.2.2.2.2.2.1 + 1)), (8, .int 0), (0, .ref bh), (1, .int v230.2.1), (2, .int v230.2.2.1), (3, .int v230.2.2.2.1), (4, .int v230.2.2.2.2.1), (5, .int v230.2.2.2.2.2.1), (6, .int v230.2.2.2.2.2.2.1), (7, .int v230.2.2.2.2.2.2.2.1), (10, .int v230.2.2.2.2.2.2.2.2.2.1), (12, .int v230.2.2.2.2.2.2.2.2.2.2)]) hx hb dL_light_301 hl (k := 9) rfl rfl (by decide) rfl (fun ls hl => ?_)
              refine lv_goto (tgt := 79) hx hb dL_light_304 (by decide) ?_
              exact ih79 (r33.2, v230.2.1, v230.2.2.1, v230.2.2.2.1, v230.2.2.2.2.1, v230.2.2.2.2.2.1, v230.2.2.2.2.2.2.1, v230.2.2.2.2.2.2.2.1, 0, v230.2.2.2.2.2.2.2.2.1 + 1) h _ _ hP hD hS _ (lv_sub hl [2, 3, 4, 5, 6, 7, 8, 9, 1, 0] rfl)
            · have h := it_n c34 h
              refine lv_aload_n hx hb dL_light_273 rfl (lv_at hl 0 rfl) ?_
              refine lv_iload_n hx hb dL_light_274 rfl (lv_at hl 1 rfl) ?_
              refine lv_iload hx hb dL_light_275 (lv_at hl 8 rfl) ?_
              refine lv_iconst (v := 1) hx hb dL_light_277 (by decide) ?_
              obtain ⟨r35, h35, h⟩ := tq_r h
              refine call_i (v := r35.1) (wc := (gBo bh bk bo ++ (gS t (bk 0) nb now ++ (gE t (bk 2) eb r33.2)))) (wc' := (gBo bh bk bo ++ (gS t (bk 0) nb now ++ (gE t (bk 2) eb r35.2)))) (ws' := (gBo bh bk bo ++ (gS t (bk 0) nb now ++ (gE t (bk 2) eb r35.2)))) (cutB (bs := [gBo bh bk bo, gS t (bk 0) nb now, gE t (bk 2) eb r33.2]) (cs := [gBo bh bk bo, gS t (bk 0) nb now, gE t (bk 2) eb r33.2]) (cs' := [gBo bh bk bo, gS t (bk 0) nb now, gE t (bk 2) eb r35.2]) (bs' := [gBo bh bk bo, gS t (bk 0) nb now, gE t (bk 2) eb r35.2]) [0, 1, 2] hP hD hS hA rfl rfl rfl rfl) hS (fun hPc hDc => va_runV (As := [.int v230.2.1, .int v230.2.2.2.2.2.2.2.2.1, .int 1]) (rest := []) ⟨hx, hb, hml, hown, hts⟩ (mtX2_column l D t bh bk bo nb now eb r33.2 v230.2.1 v230.2.2.2.2.2.2.2.2.1 1 r35 h35 _) (cwV 3 hts (gBV kw260 kw261 kw262 kw2 kw263) rfl rfl rfl (by decide +kernel) ⟨Nat.le_of_ble_eq_true rfl, Nat.le_of_ble_eq_true rfl⟩) (sPc_V hPc hK hDc hE (va_recv hK hP (ci := 2) (q0 := 0) rfl rfl)) rfl rfl hl.1 rfl (lv_room (Nat.le_of_ble_eq_true rfl)) dL_light_278 ⟨Nat.zero_le _, Nat.zero_le _⟩) (fun H locs hP hD hS => ?_)
              refine lv_aload_n hx hb dL_light_281 rfl (lv_at hl 0 rfl) ?_
              refine lv_iload_n hx hb dL_light_282 rfl (lv_at hl 1 rfl) ?_
              refine lv_iload hx hb dL_light_283 (lv_at hl 8 rfl) ?_
              refine lv_iconst (v := 1) hx hb dL_light_285 (by decide) ?_
              refine lv_isub hx hb dL_light_286 ?_
              refine lv_iconst (v := 1) hx hb dL_light_287 (by decide) ?_
              obtain ⟨r36, h36, h⟩ := tq_r h
              refine call_i (v := r36.1) (wc := (gBo bh bk bo ++ (gS t (bk 0) nb now ++ (gE t (bk 2) eb r35.2)))) (wc' := (gBo bh bk bo ++ (gS t (bk 0) nb now ++ (gE t (bk 2) eb r36.2)))) (ws' := (gBo bh bk bo ++ (gS t (bk 0) nb now ++ (gE t (bk 2) eb r36.2)))) (cutB (bs := [gBo bh bk bo, gS t (bk 0) nb now, gE t (bk 2) eb r35.2]) (cs := [gBo bh bk bo, gS t (bk 0) nb now, gE t (bk 2) eb r35.2]) (cs' := [gBo bh bk bo, gS t (bk 0) nb now, gE t (bk 2) eb r36.2]) (bs' := [gBo bh bk bo, gS t (bk 0) nb now, gE t (bk 2) eb r36.2]) [0, 1, 2] hP hD hS hA rfl rfl rfl rfl) hS (fun hPc hDc => va_runV (As := [.int v230.2.1, .int (v230.2.2.2.2.2.2.2.2.1 - 1), .int 1]) (rest := [.int r35.1]) ⟨hx, hb, hml, hown, hts⟩ (mtX2_column l D t bh bk bo nb now eb r35.2 v230.2.1 (v230.2.2.2.2.2.2.2.2.1 - 1) 1 r36 h36 _) (cwV 3 hts (gBV kw260 kw261 kw262 kw2 kw263) rfl rfl rfl (by decide +kernel) ⟨Nat.le_of_ble_eq_true rfl, Nat.le_of_ble_eq_true rfl⟩) (sPc_V hPc hK hDc hE (va_recv hK hP (ci := 2) (q0 := 0) rfl rfl)) rfl rfl hl.1 rfl (lv_room (Nat.le_of_ble_eq_true rfl)) dL_light_288 ⟨Nat.zero_le _, Nat.zero_le _⟩) (fun H locs hP hD hS => ?_)
              refine lv_icmp_le (tgt := 298) hx hb dL_light_291 (by decide) (fun c37 => ?_) (fun c37 => ?_)
              · have h := it_p c37 h
                refine lv_iconst (v := 0) hx hb dL_light_298 (by decide) ?_
                refine lv_istore (lv' := [(8, .int 0), (0, .ref bh), (1, .int v230.2.1), (2, .int v230.2.2.1), (3, .int v230.2.2.2.1), (4, .int v230.2.2.2.2.1), (5, .int v230.2.2.2.2.2.1), (6, .int v230.2.2.2.2.2.2.1), (7, .int v230.2.2.2.2.2.2.2.1), (9, .int v230.2.2.2.2.2.2.2.2.1), (10, .int v230.2.2.2.2.2.2.2.2.2.1), (12, .int v230.2.2.2.2.2.2.2.2.2.2)]) hx hb dL_light_299 hl (by decide) rfl (fun ls hl => ?_)
                refine lv_iinc (v := v230.2.2.2.2.2.2.2.2.1 + 1) (lv' := [(9, .int (v230.2.2.2.2.2.2.2.2.1 + 1)), (8, .int 0), (0, .ref bh), (1, .int v230.2.1), (2, .int v230.2.2.1), (3, .int v230.2.2.2.1), (4, .int v230.2.2.2.2.1), (5, .int v230.2.2.2.2.2.1), (6, .int v230.2.2.2.2.2.2.1), (7, .int v230.2.2.2.2.2.2.2.1), (10, .int v230.2.2.2.2.2.2.2.2.2.1), (12, .int v230.2.2.2.2.2.2.2.2.2.2)]) hx hb dL_light_301 hl (k := 9) rfl rfl (by decide) rfl (fun ls hl => ?_)
                refine lv_goto (tgt := 79) hx hb dL_light_304 (by decide) ?_
                exact ih79 (r36.2, v230.2.1, v230.2.2.1, v230.2.2.2.1, v230.2.2.2.2.1, v230.2.2.2.2.2.1, v230.2.2.2.2.2.2.1, v230.2.2.2.2.2.2.2.1, 0, v230.2.2.2.2.2.2.2.2.1 + 1) h _ _ hP hD hS _ (lv_sub hl [2, 3, 4, 5, 6, 7, 8, 9, 1, 0] rfl)
              · have h := it_n c37 h
                refine lv_iconst (v := 1) hx hb dL_light_294 (by decide) ?_
                refine lv_goto (tgt := 299) hx hb dL_light_295 (by decide) ?_
                refine lv_istore (lv' := [(8, .int 1), (0, .ref bh), (1, .int v230.2.1), (2, .int v230.2.2.1), (3, .int v230.2.2.2.1), (4, .int v230.2.2.2.2.1), (5, .int v230.2.2.2.2.2.1), (6, .int v230.2.2.2.2.2.2.1), (7, .int v230.2.2.2.2.2.2.2.1), (9, .int v230.2.2.2.2.2.2.2.2.1), (10, .int v230.2.2.2.2.2.2.2.2.2.1), (12, .int v230.2.2.2.2.2.2.2.2.2.2)]) hx hb dL_light_299 hl (by decide) rfl (fun ls hl => ?_)
                refine lv_iinc (v := v230.2.2.2.2.2.2.2.2.1 + 1) (lv' := [(9, .int (v230.2.2.2.2.2.2.2.2.1 + 1)), (8, .int 1), (0, .ref bh), (1, .int v230.2.1), (2, .int v230.2.2.1), (3, .int v230.2.2.2.1), (4, .int v230.2.2.2.2.1), (5, .int v230.2.2.2.2.2.1), (6, .int v230.2.2.2.2.2.2.1), (7, .int v230.2.2.2.2.2.2.2.1), (10, .int v230.2.2.2.2.2.2.2.2.2.1), (12, .int v230.2.2.2.2.2.2.2.2.2.2)]) hx hb dL_light_301 hl (k := 9) rfl rfl (by decide) rfl (fun ls hl => ?_)
                refine lv_goto (tgt := 79) hx hb dL_light_304 (by decide) ?_
                exact ih79 (r36.2, v230.2.1, v230.2.2.1, v230.2.2.2.1, v230.2.2.2.2.1, v230.2.2.2.2.2.1, v230.2.2.2.2.2.2.1, v230.2.2.2.2.2.2.2.1, 1, v230.2.2.2.2.2.2.2.2.1 + 1) h _ _ hP hD hS _ (lv_sub hl [2, 3, 4, 5, 6, 7, 8, 9, 1, 0] rfl)
      have J194 : ∀ v194 : ExT × Int32 × Int32 × Int32 × Int32 × Int32 × Int32 × Int32 × Int32 × Int32 × Int32 × Int32, fL_light_j194 bo now (lp (fL_light_l79 bo now) fu79) v194 = some out → ∀ (H : Heap) (locs : List Loc), va_P D vwCl (gBo bh bk bo ++ (gS t (bk 0) nb now ++ (gE t (bk 2) eb v194.1))) H → va_D A (gBo bh bk bo ++ (gS t (bk 0) nb now ++ (gE t (bk 2) eb v194.1))) → va_S A s.heap H locs → ∀ ls : Array Slot, lv_has ls 13 [(0, .ref bh), (1, .int v194.2.1), (2, .int v194.2.2.1), (3, .int v194.2.2.2.1), (4, .int v194.2.2.2.2.1), (5, .int v194.2.2.2.2.2.1), (7, .int v194.2.2.2.2.2.2.1), (9, .int v194.2.2.2.2.2.2.2.1), (10, .int v194.2.2.2.2.2.2.2.2.1), (11, .int v194.2.2.2.2.2.2.2.2.2.1), (12, .int v194.2.2.2.2.2.2.2.2.2.2.1)] → W p l e ({ frames := 5, cells := 0, slots := 0, locals := 116 }) s m args below meth c H locs 0 0 (MQ below (qI D t (gBo bh bk bo ++ (gS t (bk 0) nb now ++ (gE t (bk 2) eb out.2))) (b2i out.1) A) args s 0 0 A) (F0 m 194 ls [.int v194.2.2.2.2.2.2.2.2.2.2.2]) := by
        intro v194 h H locs hP hD hS ls hl
        unfold fL_light_j194 at h
        refine lv_istore (lv' := [(6, .int v194.2.2.2.2.2.2.2.2.2.2.2), (0, .ref bh), (1, .int v194.2.1), (2, .int v194.2.2.1), (3, .int v194.2.2.2.1), (4, .int v194.2.2.2.2.1), (5, .int v194.2.2.2.2.2.1), (7, .int v194.2.2.2.2.2.2.1), (9, .int v194.2.2.2.2.2.2.2.1), (10, .int v194.2.2.2.2.2.2.2.2.1), (11, .int v194.2.2.2.2.2.2.2.2.2.1), (12, .int v194.2.2.2.2.2.2.2.2.2.2.1)]) hx hb dL_light_194 hl (by decide) rfl (fun ls hl => ?_)
        refine lv_iload hx hb dL_light_196 (lv_at hl 10 rfl) ?_
        refine lv_if_lt (tgt := 298) hx hb dL_light_198 (by decide) (fun c23 => ?_) (fun c23 => ?_)
        · have h := it_p c23 h
          refine lv_iconst (v := 0) hx hb dL_light_298 (by decide) ?_
          refine lv_istore (lv' := [(8, .int 0), (6, .int v194.2.2.2.2.2.2.2.2.2.2.2), (0, .ref bh), (1, .int v194.2.1), (2, .int v194.2.2.1), (3, .int v194.2.2.2.1), (4, .int v194.2.2.2.2.1), (5, .int v194.2.2.2.2.2.1), (7, .int v194.2.2.2.2.2.2.1), (9, .int v194.2.2.2.2.2.2.2.1), (10, .int v194.2.2.2.2.2.2.2.2.1), (11, .int v194.2.2.2.2.2.2.2.2.2.1), (12, .int v194.2.2.2.2.2.2.2.2.2.2.1)]) hx hb dL_light_299 hl (by decide) rfl (fun ls hl => ?_)
          refine lv_iinc (v := v194.2.2.2.2.2.2.2.1 + 1) (lv' := [(9, .int (v194.2.2.2.2.2.2.2.1 + 1)), (8, .int 0), (6, .int v194.2.2.2.2.2.2.2.2.2.2.2), (0, .ref bh), (1, .int v194.2.1), (2, .int v194.2.2.1), (3, .int v194.2.2.2.1), (4, .int v194.2.2.2.2.1), (5, .int v194.2.2.2.2.2.1), (7, .int v194.2.2.2.2.2.2.1), (10, .int v194.2.2.2.2.2.2.2.2.1), (11, .int v194.2.2.2.2.2.2.2.2.2.1), (12, .int v194.2.2.2.2.2.2.2.2.2.2.1)]) hx hb dL_light_301 hl (k := 9) rfl rfl (by decide) rfl (fun ls hl => ?_)
          refine lv_goto (tgt := 79) hx hb dL_light_304 (by decide) ?_
          exact ih79 (v194.1, v194.2.1, v194.2.2.1, v194.2.2.2.1, v194.2.2.2.2.1, v194.2.2.2.2.2.1, v194.2.2.2.2.2.2.2.2.2.2.2, v194.2.2.2.2.2.2.1, 0, v194.2.2.2.2.2.2.2.1 + 1) h _ _ hP hD hS _ (lv_sub hl [3, 4, 5, 6, 7, 8, 2, 9, 1, 0] rfl)
        · have h := it_n c23 h
          refine lv_iload hx hb dL_light_201 (lv_at hl 9 rfl) ?_
          refine lv_if_lt (tgt := 298) hx hb dL_light_203 (by decide) (fun c24 => ?_) (fun c24 => ?_)
          · have h := it_p c24 h
            refine lv_iconst (v := 0) hx hb dL_light_298 (by decide) ?_
            refine lv_istore (lv' := [(8, .int 0), (6, .int v194.2.2.2.2.2.2.2.2.2.2.2), (0, .ref bh), (1, .int v194.2.1), (2, .int v194.2.2.1), (3, .int v194.2.2.2.1), (4, .int v194.2.2.2.2.1), (5, .int v194.2.2.2.2.2.1), (7, .int v194.2.2.2.2.2.2.1), (9, .int v194.2.2.2.2.2.2.2.1), (10, .int v194.2.2.2.2.2.2.2.2.1), (11, .int v194.2.2.2.2.2.2.2.2.2.1), (12, .int v194.2.2.2.2.2.2.2.2.2.2.1)]) hx hb dL_light_299 hl (by decide) rfl (fun ls hl => ?_)
            refine lv_iinc (v := v194.2.2.2.2.2.2.2.1 + 1) (lv' := [(9, .int (v194.2.2.2.2.2.2.2.1 + 1)), (8, .int 0), (6, .int v194.2.2.2.2.2.2.2.2.2.2.2), (0, .ref bh), (1, .int v194.2.1), (2, .int v194.2.2.1), (3, .int v194.2.2.2.1), (4, .int v194.2.2.2.2.1), (5, .int v194.2.2.2.2.2.1), (7, .int v194.2.2.2.2.2.2.1), (10, .int v194.2.2.2.2.2.2.2.2.1), (11, .int v194.2.2.2.2.2.2.2.2.2.1), (12, .int v194.2.2.2.2.2.2.2.2.2.2.1)]) hx hb dL_light_301 hl (k := 9) rfl rfl (by decide) rfl (fun ls hl => ?_)
            refine lv_goto (tgt := 79) hx hb dL_light_304 (by decide) ?_
            exact ih79 (v194.1, v194.2.1, v194.2.2.1, v194.2.2.2.1, v194.2.2.2.2.1, v194.2.2.2.2.2.1, v194.2.2.2.2.2.2.2.2.2.2.2, v194.2.2.2.2.2.2.1, 0, v194.2.2.2.2.2.2.2.1 + 1) h _ _ hP hD hS _ (lv_sub hl [3, 4, 5, 6, 7, 8, 2, 9, 1, 0] rfl)
          · have h := it_n c24 h
            refine lv_iload hx hb dL_light_206 (lv_at hl 9 rfl) ?_
            refine lv_iload hx hb dL_light_208 (lv_at hl 10 rfl) ?_
            refine lv_icmp_gt (tgt := 298) hx hb dL_light_210 (by decide) (fun c25 => ?_) (fun c25 => ?_)
            · have h := it_p c25 h
              refine lv_iconst (v := 0) hx hb dL_light_298 (by decide) ?_
              refine lv_istore (lv' := [(8, .int 0), (6, .int v194.2.2.2.2.2.2.2.2.2.2.2), (0, .ref bh), (1, .int v194.2.1), (2, .int v194.2.2.1), (3, .int v194.2.2.2.1), (4, .int v194.2.2.2.2.1), (5, .int v194.2.2.2.2.2.1), (7, .int v194.2.2.2.2.2.2.1), (9, .int v194.2.2.2.2.2.2.2.1), (10, .int v194.2.2.2.2.2.2.2.2.1), (11, .int v194.2.2.2.2.2.2.2.2.2.1), (12, .int v194.2.2.2.2.2.2.2.2.2.2.1)]) hx hb dL_light_299 hl (by decide) rfl (fun ls hl => ?_)
              refine lv_iinc (v := v194.2.2.2.2.2.2.2.1 + 1) (lv' := [(9, .int (v194.2.2.2.2.2.2.2.1 + 1)), (8, .int 0), (6, .int v194.2.2.2.2.2.2.2.2.2.2.2), (0, .ref bh), (1, .int v194.2.1), (2, .int v194.2.2.1), (3, .int v194.2.2.2.1), (4, .int v194.2.2.2.2.1), (5, .int v194.2.2.2.2.2.1), (7, .int v194.2.2.2.2.2.2.1), (10, .int v194.2.2.2.2.2.2.2.2.1), (11, .int v194.2.2.2.2.2.2.2.2.2.1), (12, .int v194.2.2.2.2.2.2.2.2.2.2.1)]) hx hb dL_light_301 hl (k := 9) rfl rfl (by decide) rfl (fun ls hl => ?_)
              refine lv_goto (tgt := 79) hx hb dL_light_304 (by decide) ?_
              exact ih79 (v194.1, v194.2.1, v194.2.2.1, v194.2.2.2.1, v194.2.2.2.2.1, v194.2.2.2.2.2.1, v194.2.2.2.2.2.2.2.2.2.2.2, v194.2.2.2.2.2.2.1, 0, v194.2.2.2.2.2.2.2.1 + 1) h _ _ hP hD hS _ (lv_sub hl [3, 4, 5, 6, 7, 8, 2, 9, 1, 0] rfl)
            · have h := it_n c25 h
              refine lv_iload hx hb dL_light_213 (lv_at hl 8 rfl) ?_
              refine lv_bipush (v := 24) hx hb dL_light_215 (by decide) ?_
              refine lv_iload hx hb dL_light_217 (lv_at hl 7 rfl) ?_
              refine lv_isub hx hb dL_light_219 ?_
              refine lv_icmp_ge (tgt := 230) hx hb dL_light_220 (by decide) (fun c26 => ?_) (fun c26 => ?_)
              · have h := it_p c26 h
                exact J230 (v194.1, v194.2.1, v194.2.2.1, v194.2.2.2.1, v194.2.2.2.2.1, v194.2.2.2.2.2.1, v194.2.2.2.2.2.2.2.2.2.2.2, v194.2.2.2.2.2.2.1, v194.2.2.2.2.2.2.2.1, v194.2.2.2.2.2.2.2.2.1, v194.2.2.2.2.2.2.2.2.2.2.1) h _ _ hP hD hS _ (lv_sub hl [1, 2, 3, 4, 5, 6, 0, 7, 8, 9, 11] rfl)
              · have h := it_n c26 h
                refine lv_iload hx hb dL_light_223 (lv_at hl 9 rfl) ?_
                refine lv_iload hx hb dL_light_225 (lv_at hl 10 rfl) ?_
                refine lv_icmp_ne (tgt := 298) hx hb dL_light_227 (by decide) (fun c27 => ?_) (fun c27 => ?_)
                · have h := it_n c27 h
                  refine lv_iconst (v := 0) hx hb dL_light_298 (by decide) ?_
                  refine lv_istore (lv' := [(8, .int 0), (6, .int v194.2.2.2.2.2.2.2.2.2.2.2), (0, .ref bh), (1, .int v194.2.1), (2, .int v194.2.2.1), (3, .int v194.2.2.2.1), (4, .int v194.2.2.2.2.1), (5, .int v194.2.2.2.2.2.1), (7, .int v194.2.2.2.2.2.2.1), (9, .int v194.2.2.2.2.2.2.2.1), (10, .int v194.2.2.2.2.2.2.2.2.1), (11, .int v194.2.2.2.2.2.2.2.2.2.1), (12, .int v194.2.2.2.2.2.2.2.2.2.2.1)]) hx hb dL_light_299 hl (by decide) rfl (fun ls hl => ?_)
                  refine lv_iinc (v := v194.2.2.2.2.2.2.2.1 + 1) (lv' := [(9, .int (v194.2.2.2.2.2.2.2.1 + 1)), (8, .int 0), (6, .int v194.2.2.2.2.2.2.2.2.2.2.2), (0, .ref bh), (1, .int v194.2.1), (2, .int v194.2.2.1), (3, .int v194.2.2.2.1), (4, .int v194.2.2.2.2.1), (5, .int v194.2.2.2.2.2.1), (7, .int v194.2.2.2.2.2.2.1), (10, .int v194.2.2.2.2.2.2.2.2.1), (11, .int v194.2.2.2.2.2.2.2.2.2.1), (12, .int v194.2.2.2.2.2.2.2.2.2.2.1)]) hx hb dL_light_301 hl (k := 9) rfl rfl (by decide) rfl (fun ls hl => ?_)
                  refine lv_goto (tgt := 79) hx hb dL_light_304 (by decide) ?_
                  exact ih79 (v194.1, v194.2.1, v194.2.2.1, v194.2.2.2.1, v194.2.2.2.2.1, v194.2.2.2.2.2.1, v194.2.2.2.2.2.2.2.2.2.2.2, v194.2.2.2.2.2.2.1, 0, v194.2.2.2.2.2.2.2.1 + 1) h _ _ hP hD hS _ (lv_sub hl [3, 4, 5, 6, 7, 8, 2, 9, 1, 0] rfl)
                · have h := it_p c27 h
                  exact J230 (v194.1, v194.2.1, v194.2.2.1, v194.2.2.2.1, v194.2.2.2.2.1, v194.2.2.2.2.2.1, v194.2.2.2.2.2.2.2.2.2.2.2, v194.2.2.2.2.2.2.1, v194.2.2.2.2.2.2.2.1, v194.2.2.2.2.2.2.2.2.1, v194.2.2.2.2.2.2.2.2.2.2.1) h _ _ hP hD hS _ (lv_sub hl [1, 2, 3, 4, 5, 6, 0, 7, 8, 9, 11] rfl)
      have J162 : ∀ v162 : ExT × Int32 × Int32 × Int32 × Int32 × Int32 × Int32 × Int32 × Int32 × Int32 × Int32 × Int32, fL_light_j162 bo now (lp (fL_light_l79 bo now) fu79) v162 = some out → ∀ (H : Heap) (locs : List Loc), va_P D vwCl (gBo bh bk bo ++ (gS t (bk 0) nb now ++ (gE t (bk 2) eb v162.1))) H → va_D A (gBo bh bk bo ++ (gS t (bk 0) nb now ++ (gE t (bk 2) eb v162.1))) → va_S A s.heap H locs → ∀ ls : Array Slot, lv_has ls 13 [(0, .ref bh), (1, .int v162.2.1), (2, .int v162.2.2.1), (3, .int v162.2.2.2.1), (5, .int v162.2.2.2.2.1), (6, .int v162.2.2.2.2.2.1), (7, .int v162.2.2.2.2.2.2.1), (9, .int v162.2.2.2.2.2.2.2.1), (10, .int v162.2.2.2.2.2.2.2.2.1), (11, .int v162.2.2.2.2.2.2.2.2.2.1), (12, .int v162.2.2.2.2.2.2.2.2.2.2.1)] → W p l e ({ frames := 5, cells := 0, slots := 0, locals := 116 }) s m args below meth c H locs 0 0 (MQ below (qI D t (gBo bh bk bo ++ (gS t (bk 0) nb now ++ (gE t (bk 2) eb out.2))) (b2i out.1) A) args s 0 0 A) (F0 m 162 ls [.int v162.2.2.2.2.2.2.2.2.2.2.2]) := by
        intro v162 h H locs hP hD hS ls hl
        unfold fL_light_j162 at h
        refine lv_istore (lv' := [(4, .int v162.2.2.2.2.2.2.2.2.2.2.2), (0, .ref bh), (1, .int v162.2.1), (2, .int v162.2.2.1), (3, .int v162.2.2.2.1), (5, .int v162.2.2.2.2.1), (6, .int v162.2.2.2.2.2.1), (7, .int v162.2.2.2.2.2.2.1), (9, .int v162.2.2.2.2.2.2.2.1), (10, .int v162.2.2.2.2.2.2.2.2.1), (11, .int v162.2.2.2.2.2.2.2.2.2.1), (12, .int v162.2.2.2.2.2.2.2.2.2.2.1)]) hx hb dL_light_162 hl (by decide) rfl (fun ls hl => ?_)
        refine lv_iload hx hb dL_light_164 (lv_at hl 9 rfl) ?_
        refine lv_iload hx hb dL_light_166 (lv_at hl 5 rfl) ?_
        refine lv_icmp_le (tgt := 176) hx hb dL_light_168 (by decide) (fun c20 => ?_) (fun c20 => ?_)
        · have h := it_p c20 h
          refine lv_iload hx hb dL_light_176 (lv_at hl 5 rfl) ?_
          refine lv_istore (lv' := [(5, .int v162.2.2.2.2.1), (4, .int v162.2.2.2.2.2.2.2.2.2.2.2), (0, .ref bh), (1, .int v162.2.1), (2, .int v162.2.2.1), (3, .int v162.2.2.2.1), (6, .int v162.2.2.2.2.2.1), (7, .int v162.2.2.2.2.2.2.1), (9, .int v162.2.2.2.2.2.2.2.1), (10, .int v162.2.2.2.2.2.2.2.2.1), (11, .int v162.2.2.2.2.2.2.2.2.2.1), (12, .int v162.2.2.2.2.2.2.2.2.2.2.1)]) hx hb dL_light_178 hl (by decide) rfl (fun ls hl => ?_)
          refine lv_iload hx hb dL_light_180 (lv_at hl 11 rfl) ?_
          refine lv_iload hx hb dL_light_182 (lv_at hl 6 rfl) ?_
          refine lv_icmp_le (tgt := 192) hx hb dL_light_184 (by decide) (fun c21 => ?_) (fun c21 => ?_)
          · have h := it_p c21 h
            refine lv_iload hx hb dL_light_192 (lv_at hl 6 rfl) ?_
            exact J194 (v162.1, v162.2.1, v162.2.2.1, v162.2.2.2.1, v162.2.2.2.2.2.2.2.2.2.2.2, v162.2.2.2.2.1, v162.2.2.2.2.2.2.1, v162.2.2.2.2.2.2.2.1, v162.2.2.2.2.2.2.2.2.1, v162.2.2.2.2.2.2.2.2.2.1, v162.2.2.2.2.2.2.2.2.2.2.1, v162.2.2.2.2.2.1) h _ _ hP hD hS _ (lv_sub hl [2, 3, 4, 5, 1, 0, 7, 8, 9, 10, 11] rfl)
          · have h := it_n c21 h
            refine lv_iload hx hb dL_light_187 (lv_at hl 11 rfl) ?_
            refine lv_goto (tgt := 194) hx hb dL_light_189 (by decide) ?_
            exact J194 (v162.1, v162.2.1, v162.2.2.1, v162.2.2.2.1, v162.2.2.2.2.2.2.2.2.2.2.2, v162.2.2.2.2.1, v162.2.2.2.2.2.2.1, v162.2.2.2.2.2.2.2.1, v162.2.2.2.2.2.2.2.2.1, v162.2.2.2.2.2.2.2.2.2.1, v162.2.2.2.2.2.2.2.2.2.2.1, v162.2.2.2.2.2.2.2.2.2.2.1) h _ _ hP hD hS _ (lv_sub hl [2, 3, 4, 5, 1, 0, 7, 8, 9, 10, 11] rfl)
        · have h := it_n c20 h
          refine lv_iload hx hb dL_light_171 (lv_at hl 9 rfl) ?_
          refine lv_goto (tgt := 178) hx hb dL_light_173 (by decide) ?_
          refine lv_istore (lv' := [(5, .int v162.2.2.2.2.2.2.2.2.1), (4, .int v162.2.2.2.2.2.2.2.2.2.2.2), (0, .ref bh), (1, .int v162.2.1), (2, .int v162.2.2.1), (3, .int v162.2.2.2.1), (6, .int v162.2.2.2.2.2.1), (7, .int v162.2.2.2.2.2.2.1), (9, .int v162.2.2.2.2.2.2.2.1), (10, .int v162.2.2.2.2.2.2.2.2.1), (11, .int v162.2.2.2.2.2.2.2.2.2.1), (12, .int v162.2.2.2.2.2.2.2.2.2.2.1)]) hx hb dL_light_178 hl (by decide) rfl (fun ls hl => ?_)
          refine lv_iload hx hb dL_light_180 (lv_at hl 11 rfl) ?_
          refine lv_iload hx hb dL_light_182 (lv_at hl 6 rfl) ?_
          refine lv_icmp_le (tgt := 192) hx hb dL_light_184 (by decide) (fun c22 => ?_) (fun c22 => ?_)
          · have h := it_p c22 h
            refine lv_iload hx hb dL_light_192 (lv_at hl 6 rfl) ?_
            exact J194 (v162.1, v162.2.1, v162.2.2.1, v162.2.2.2.1, v162.2.2.2.2.2.2.2.2.2.2.2, v162.2.2.2.2.2.2.2.2.1, v162.2.2.2.2.2.2.1, v162.2.2.2.2.2.2.2.1, v162.2.2.2.2.2.2.2.2.1, v162.2.2.2.2.2.2.2.2.2.1, v162.2.2.2.2.2.2.2.2.2.2.1, v162.2.2.2.2.2.1) h _ _ hP hD hS _ (lv_sub hl [2, 3, 4, 5, 1, 0, 7, 8, 9, 10, 11] rfl)
          · have h := it_n c22 h
            refine lv_iload hx hb dL_light_187 (lv_at hl 11 rfl) ?_
            refine lv_goto (tgt := 194) hx hb dL_light_189 (by decide) ?_
            exact J194 (v162.1, v162.2.1, v162.2.2.1, v162.2.2.2.1, v162.2.2.2.2.2.2.2.2.2.2.2, v162.2.2.2.2.2.2.2.2.1, v162.2.2.2.2.2.2.1, v162.2.2.2.2.2.2.2.1, v162.2.2.2.2.2.2.2.2.1, v162.2.2.2.2.2.2.2.2.2.1, v162.2.2.2.2.2.2.2.2.2.2.1, v162.2.2.2.2.2.2.2.2.2.2.1) h _ _ hP hD hS _ (lv_sub hl [2, 3, 4, 5, 1, 0, 7, 8, 9, 10, 11] rfl)
      refine lv_iload hx hb dL_light_79 (lv_at hl 9 rfl) ?_
      refine lv_bipush (v := 24) hx hb dL_light_81 (by decide) ?_
      refine lv_icmp_ge (tgt := 307) hx hb dL_light_83 (by decide) (fun c11 => ?_) (fun c11 => ?_)
      · have h := it_p c11 h
        exact J307 (v79.1, v79.2.1, v79.2.2.1, v79.2.2.2.1, v79.2.2.2.2.1, v79.2.2.2.2.2.1, v79.2.2.2.2.2.2.1, v79.2.2.2.2.2.2.2.2.1) h _ _ hP hD hS _ (lv_sub hl [0, 1, 2, 3, 4, 5, 6, 8] rfl)
      · have h := it_n c11 h
        refine lv_iload hx hb dL_light_86 (lv_at hl 8 rfl) ?_
        refine lv_if_eq (tgt := 307) hx hb dL_light_88 (by decide) (fun c12 => ?_) (fun c12 => ?_)
        · have h := it_p c12 h
          exact J307 (v79.1, v79.2.1, v79.2.2.1, v79.2.2.2.1, v79.2.2.2.2.1, v79.2.2.2.2.2.1, v79.2.2.2.2.2.2.1, v79.2.2.2.2.2.2.2.2.1) h _ _ hP hD hS _ (lv_sub hl [0, 1, 2, 3, 4, 5, 6, 8] rfl)
        · have h := it_n c12 h
          refine lv_aload_n hx hb dL_light_91 rfl (lv_at hl 0 rfl) ?_
          refine lv_iload_n hx hb dL_light_92 rfl (lv_at hl 1 rfl) ?_
          refine lv_iload hx hb dL_light_93 (lv_at hl 9 rfl) ?_
          refine lv_iconst (v := 2) hx hb dL_light_95 (by decide) ?_
          obtain ⟨r13, h13, h⟩ := tq_r h
          refine call_i (v := r13.1) (wc := (gBo bh bk bo ++ (gS t (bk 0) nb now ++ (gE t (bk 2) eb v79.1)))) (wc' := (gBo bh bk bo ++ (gS t (bk 0) nb now ++ (gE t (bk 2) eb r13.2)))) (ws' := (gBo bh bk bo ++ (gS t (bk 0) nb now ++ (gE t (bk 2) eb r13.2)))) (cutB (bs := [gBo bh bk bo, gS t (bk 0) nb now, gE t (bk 2) eb v79.1]) (cs := [gBo bh bk bo, gS t (bk 0) nb now, gE t (bk 2) eb v79.1]) (cs' := [gBo bh bk bo, gS t (bk 0) nb now, gE t (bk 2) eb r13.2]) (bs' := [gBo bh bk bo, gS t (bk 0) nb now, gE t (bk 2) eb r13.2]) [0, 1, 2] hP hD hS hA rfl rfl rfl rfl) hS (fun hPc hDc => va_runV (As := [.int v79.2.1, .int v79.2.2.2.2.2.2.2.2.2, .int 2]) (rest := []) ⟨hx, hb, hml, hown, hts⟩ (mtX2_column l D t bh bk bo nb now eb v79.1 v79.2.1 v79.2.2.2.2.2.2.2.2.2 2 r13 h13 _) (cwV 3 hts (gBV kw260 kw261 kw262 kw2 kw263) rfl rfl rfl (by decide +kernel) ⟨Nat.le_of_ble_eq_true rfl, Nat.le_of_ble_eq_true rfl⟩) (sPc_V hPc hK hDc hE (va_recv hK hP (ci := 2) (q0 := 0) rfl rfl)) rfl rfl hl.1 rfl (lv_room (Nat.le_of_ble_eq_true rfl)) dL_light_96 ⟨Nat.zero_le _, Nat.zero_le _⟩) (fun H locs hP hD hS => ?_)
          refine lv_istore (lv' := [(10, .int r13.1), (0, .ref bh), (1, .int v79.2.1), (2, .int v79.2.2.1), (3, .int v79.2.2.2.1), (4, .int v79.2.2.2.2.1), (5, .int v79.2.2.2.2.2.1), (6, .int v79.2.2.2.2.2.2.1), (7, .int v79.2.2.2.2.2.2.2.1), (8, .int v79.2.2.2.2.2.2.2.2.1), (9, .int v79.2.2.2.2.2.2.2.2.2)]) hx hb dL_light_99 hl (by decide) rfl (fun ls hl => ?_)
          refine lv_aload_n hx hb dL_light_101 rfl (lv_at hl 1 rfl) ?_
          refine lv_iload_n hx hb dL_light_102 rfl (lv_at hl 2 rfl) ?_
          refine lv_iload hx hb dL_light_103 (lv_at hl 10 rfl) ?_
          refine lv_iconst (v := 1) hx hb dL_light_105 (by decide) ?_
          obtain ⟨r14, h14, h⟩ := tq_r h
          refine call_i (v := r14.1) (wc := (gBo bh bk bo ++ (gS t (bk 0) nb now ++ (gE t (bk 2) eb r13.2)))) (wc' := (gBo bh bk bo ++ (gS t (bk 0) nb now ++ (gE t (bk 2) eb r14.2)))) (ws' := (gBo bh bk bo ++ (gS t (bk 0) nb now ++ (gE t (bk 2) eb r14.2)))) (cutB (bs := [gBo bh bk bo, gS t (bk 0) nb now, gE t (bk 2) eb r13.2]) (cs := [gBo bh bk bo, gS t (bk 0) nb now, gE t (bk 2) eb r13.2]) (cs' := [gBo bh bk bo, gS t (bk 0) nb now, gE t (bk 2) eb r14.2]) (bs' := [gBo bh bk bo, gS t (bk 0) nb now, gE t (bk 2) eb r14.2]) [0, 1, 2] hP hD hS hA rfl rfl rfl rfl) hS (fun hPc hDc => va_runV (As := [.int v79.2.1, .int v79.2.2.2.2.2.2.2.2.2, .int 1]) (rest := []) ⟨hx, hb, hml, hown, hts⟩ (mtX2_column l D t bh bk bo nb now eb r13.2 v79.2.1 v79.2.2.2.2.2.2.2.2.2 1 r14 h14 _) (cwV 3 hts (gBV kw260 kw261 kw262 kw2 kw263) rfl rfl rfl (by decide +kernel) ⟨Nat.le_of_ble_eq_true rfl, Nat.le_of_ble_eq_true rfl⟩) (sPc_V hPc hK hDc hE (va_recv hK hP (ci := 2) (q0 := 0) rfl rfl)) rfl rfl hl.1 rfl (lv_room (Nat.le_of_ble_eq_true rfl)) dL_light_106 ⟨Nat.zero_le _, Nat.zero_le _⟩) (fun H locs hP hD hS => ?_)
          refine lv_aload_n hx hb dL_light_109 rfl (lv_at hl 1 rfl) ?_
          refine lv_iload_n hx hb dL_light_110 rfl (lv_at hl 2 rfl) ?_
          refine lv_iload hx hb dL_light_111 (lv_at hl 10 rfl) ?_
          refine lv_iconst (v := 0) hx hb dL_light_113 (by decide) ?_
          obtain ⟨r15, h15, h⟩ := tq_r h
          refine call_i (v := r15.1) (wc := (gBo bh bk bo ++ (gS t (bk 0) nb now ++ (gE t (bk 2) eb r14.2)))) (wc' := (gBo bh bk bo ++ (gS t (bk 0) nb now ++ (gE t (bk 2) eb r15.2)))) (ws' := (gBo bh bk bo ++ (gS t (bk 0) nb now ++ (gE t (bk 2) eb r15.2)))) (cutB (bs := [gBo bh bk bo, gS t (bk 0) nb now, gE t (bk 2) eb r14.2]) (cs := [gBo bh bk bo, gS t (bk 0) nb now, gE t (bk 2) eb r14.2]) (cs' := [gBo bh bk bo, gS t (bk 0) nb now, gE t (bk 2) eb r15.2]) (bs' := [gBo bh bk bo, gS t (bk 0) nb now, gE t (bk 2) eb r15.2]) [0, 1, 2] hP hD hS hA rfl rfl rfl rfl) hS (fun hPc hDc => va_runV (As := [.int v79.2.1, .int v79.2.2.2.2.2.2.2.2.2, .int 0]) (rest := [.int r14.1]) ⟨hx, hb, hml, hown, hts⟩ (mtX2_column l D t bh bk bo nb now eb r14.2 v79.2.1 v79.2.2.2.2.2.2.2.2.2 0 r15 h15 _) (cwV 3 hts (gBV kw260 kw261 kw262 kw2 kw263) rfl rfl rfl (by decide +kernel) ⟨Nat.le_of_ble_eq_true rfl, Nat.le_of_ble_eq_true rfl⟩) (sPc_V hPc hK hDc hE (va_recv hK hP (ci := 2) (q0 := 0) rfl rfl)) rfl rfl hl.1 rfl (lv_room (Nat.le_of_ble_eq_true rfl)) dL_light_114 ⟨Nat.zero_le _, Nat.zero_le _⟩) (fun H locs hP hD hS => ?_)
          refine lv_isub hx hb dL_light_117 ?_
          refine lv_istore (lv' := [(11, .int (r14.1 - r15.1)), (10, .int r13.1), (0, .ref bh), (1, .int v79.2.1), (2, .int v79.2.2.1), (3, .int v79.2.2.2.1), (4, .int v79.2.2.2.2.1), (5, .int v79.2.2.2.2.2.1), (6, .int v79.2.2.2.2.2.2.1), (7, .int v79.2.2.2.2.2.2.2.1), (8, .int v79.2.2.2.2.2.2.2.2.1), (9, .int v79.2.2.2.2.2.2.2.2.2)]) hx hb dL_light_118 hl (by decide) rfl (fun ls hl => ?_)
          refine lv_aload_n hx hb dL_light_120 rfl (lv_at hl 2 rfl) ?_
          refine lv_iload_n hx hb dL_light_121 rfl (lv_at hl 3 rfl) ?_
          refine lv_iload hx hb dL_light_122 (lv_at hl 11 rfl) ?_
          refine lv_iconst (v := 3) hx hb dL_light_124 (by decide) ?_
          obtain ⟨r16, h16, h⟩ := tq_r h
          refine call_i (v := r16.1) (wc := (gBo bh bk bo ++ (gS t (bk 0) nb now ++ (gE t (bk 2) eb r15.2)))) (wc' := (gBo bh bk bo ++ (gS t (bk 0) nb now ++ (gE t (bk 2) eb r16.2)))) (ws' := (gBo bh bk bo ++ (gS t (bk 0) nb now ++ (gE t (bk 2) eb r16.2)))) (cutB (bs := [gBo bh bk bo, gS t (bk 0) nb now, gE t (bk 2) eb r15.2]) (cs := [gBo bh bk bo, gS t (bk 0) nb now, gE t (bk 2) eb r15.2]) (cs' := [gBo bh bk bo, gS t (bk 0) nb now, gE t (bk 2) eb r16.2]) (bs' := [gBo bh bk bo, gS t (bk 0) nb now, gE t (bk 2) eb r16.2]) [0, 1, 2] hP hD hS hA rfl rfl rfl rfl) hS (fun hPc hDc => va_runV (As := [.int v79.2.1, .int v79.2.2.2.2.2.2.2.2.2, .int 3]) (rest := []) ⟨hx, hb, hml, hown, hts⟩ (mtX2_column l D t bh bk bo nb now eb r15.2 v79.2.1 v79.2.2.2.2.2.2.2.2.2 3 r16 h16 _) (cwV 3 hts (gBV kw260 kw261 kw262 kw2 kw263) rfl rfl rfl (by decide +kernel) ⟨Nat.le_of_ble_eq_true rfl, Nat.le_of_ble_eq_true rfl⟩) (sPc_V hPc hK hDc hE (va_recv hK hP (ci := 2) (q0 := 0) rfl rfl)) rfl rfl hl.1 rfl (lv_room (Nat.le_of_ble_eq_true rfl)) dL_light_125 ⟨Nat.zero_le _, Nat.zero_le _⟩) (fun H locs hP hD hS => ?_)
          refine lv_istore (lv' := [(12, .int r16.1), (11, .int (r14.1 - r15.1)), (10, .int r13.1), (0, .ref bh), (1, .int v79.2.1), (2, .int v79.2.2.1), (3, .int v79.2.2.2.1), (4, .int v79.2.2.2.2.1), (5, .int v79.2.2.2.2.2.1), (6, .int v79.2.2.2.2.2.2.1), (7, .int v79.2.2.2.2.2.2.2.1), (8, .int v79.2.2.2.2.2.2.2.2.1), (9, .int v79.2.2.2.2.2.2.2.2.2)]) hx hb dL_light_128 hl (by decide) rfl (fun ls hl => ?_)
          refine lv_iload_n hx hb dL_light_130 rfl (lv_at hl 5 rfl) ?_
          refine lv_iload hx hb dL_light_131 (lv_at hl 2 rfl) ?_
          refine lv_iadd hx hb dL_light_133 ?_
          refine lv_istore_n (lv' := [(2, .int (v79.2.2.1 + r13.1)), (12, .int r16.1), (11, .int (r14.1 - r15.1)), (10, .int r13.1), (0, .ref bh), (1, .int v79.2.1), (3, .int v79.2.2.2.1), (4, .int v79.2.2.2.2.1), (5, .int v79.2.2.2.2.2.1), (6, .int v79.2.2.2.2.2.2.1), (7, .int v79.2.2.2.2.2.2.2.1), (8, .int v79.2.2.2.2.2.2.2.2.1), (9, .int v79.2.2.2.2.2.2.2.2.2)]) hx hb dL_light_134 rfl hl (by decide) rfl (fun ls hl => ?_)
          refine lv_iload_n hx hb dL_light_135 rfl (lv_at hl 6 rfl) ?_
          refine lv_iload hx hb dL_light_136 (lv_at hl 3 rfl) ?_
          refine lv_if_ne (tgt := 145) hx hb dL_light_138 (by decide) (fun c17 => ?_) (fun c17 => ?_)
          · have h := it_n c17 h
            refine lv_iconst (v := 0) hx hb dL_light_145 (by decide) ?_
            refine lv_iadd hx hb dL_light_146 ?_
            refine lv_istore_n (lv' := [(3, .int (v79.2.2.2.1 + 0)), (2, .int (v79.2.2.1 + r13.1)), (12, .int r16.1), (11, .int (r14.1 - r15.1)), (10, .int r13.1), (0, .ref bh), (1, .int v79.2.1), (4, .int v79.2.2.2.2.1), (5, .int v79.2.2.2.2.2.1), (6, .int v79.2.2.2.2.2.2.1), (7, .int v79.2.2.2.2.2.2.2.1), (8, .int v79.2.2.2.2.2.2.2.2.1), (9, .int v79.2.2.2.2.2.2.2.2.2)]) hx hb dL_light_147 rfl hl (by decide) rfl (fun ls hl => ?_)
            refine lv_iload hx hb dL_light_148 (lv_at hl 4 rfl) ?_
            refine lv_iload hx hb dL_light_150 (lv_at hl 7 rfl) ?_
            refine lv_icmp_ge (tgt := 160) hx hb dL_light_152 (by decide) (fun c18 => ?_) (fun c18 => ?_)
            · have h := it_p c18 h
              refine lv_iload hx hb dL_light_160 (lv_at hl 7 rfl) ?_
              exact J162 (r16.2, v79.2.1, v79.2.2.1 + r13.1, v79.2.2.2.1 + 0, v79.2.2.2.2.2.1, v79.2.2.2.2.2.2.1, v79.2.2.2.2.2.2.2.1, v79.2.2.2.2.2.2.2.2.2, r13.1, r14.1 - r15.1, r16.1, v79.2.2.2.2.1) h _ _ hP hD hS _ (lv_sub hl [5, 6, 1, 0, 8, 9, 10, 12, 4, 3, 2] rfl)
            · have h := it_n c18 h
              refine lv_iload hx hb dL_light_155 (lv_at hl 4 rfl) ?_
              refine lv_goto (tgt := 162) hx hb dL_light_157 (by decide) ?_
              exact J162 (r16.2, v79.2.1, v79.2.2.1 + r13.1, v79.2.2.2.1 + 0, v79.2.2.2.2.2.1, v79.2.2.2.2.2.2.1, v79.2.2.2.2.2.2.2.1, v79.2.2.2.2.2.2.2.2.2, r13.1, r14.1 - r15.1, r16.1, r13.1) h _ _ hP hD hS _ (lv_sub hl [5, 6, 1, 0, 8, 9, 10, 12, 4, 3, 2] rfl)
          · have h := it_p c17 h
            refine lv_iconst (v := 1) hx hb dL_light_141 (by decide) ?_
            refine lv_goto (tgt := 146) hx hb dL_light_142 (by decide) ?_
            refine lv_iadd hx hb dL_light_146 ?_
            refine lv_istore_n (lv' := [(3, .int (v79.2.2.2.1 + 1)), (2, .int (v79.2.2.1 + r13.1)), (12, .int r16.1), (11, .int (r14.1 - r15.1)), (10, .int r13.1), (0, .ref bh), (1, .int v79.2.1), (4, .int v79.2.2.2.2.1), (5, .int v79.2.2.2.2.2.1), (6, .int v79.2.2.2.2.2.2.1), (7, .int v79.2.2.2.2.2.2.2.1), (8, .int v79.2.2.2.2.2.2.2.2.1), (9, .int v79.2.2.2.2.2.2.2.2.2)]) hx hb dL_light_147 rfl hl (by decide) rfl (fun ls hl => ?_)
            refine lv_iload hx hb dL_light_148 (lv_at hl 4 rfl) ?_
            refine lv_iload hx hb dL_light_150 (lv_at hl 7 rfl) ?_
            refine lv_icmp_ge (tgt := 160) hx hb dL_light_152 (by decide) (fun c19 => ?_) (fun c19 => ?_)
            · have h := it_p c19 h
              refine lv_iload hx hb dL_light_160 (lv_at hl 7 rfl) ?_
              exact J162 (r16.2, v79.2.1, v79.2.2.1 + r13.1, v79.2.2.2.1 + 1, v79.2.2.2.2.2.1, v79.2.2.2.2.2.2.1, v79.2.2.2.2.2.2.2.1, v79.2.2.2.2.2.2.2.2.2, r13.1, r14.1 - r15.1, r16.1, v79.2.2.2.2.1) h _ _ hP hD hS _ (lv_sub hl [5, 6, 1, 0, 8, 9, 10, 12, 4, 3, 2] rfl)
            · have h := it_n c19 h
              refine lv_iload hx hb dL_light_155 (lv_at hl 4 rfl) ?_
              refine lv_goto (tgt := 162) hx hb dL_light_157 (by decide) ?_
              exact J162 (r16.2, v79.2.1, v79.2.2.1 + r13.1, v79.2.2.2.1 + 1, v79.2.2.2.2.2.1, v79.2.2.2.2.2.2.1, v79.2.2.2.2.2.2.2.1, v79.2.2.2.2.2.2.2.2.2, r13.1, r14.1 - r15.1, r16.1, r13.1) h _ _ hP hD hS _ (lv_sub hl [5, 6, 1, 0, 8, 9, 10, 12, 4, 3, 2] rfl)
  have J52 : ∀ v52 : ExT × Int32 × Int32 × Int32 × Int32 × Int32 × Int32 × Int32, fL_light_j52 bo now v52 = some out → ∀ (H : Heap) (locs : List Loc), va_P D vwCl (gBo bh bk bo ++ (gS t (bk 0) nb now ++ (gE t (bk 2) eb v52.1))) H → va_D A (gBo bh bk bo ++ (gS t (bk 0) nb now ++ (gE t (bk 2) eb v52.1))) → va_S A s.heap H locs → ∀ ls : Array Slot, lv_has ls 13 [(0, .ref bh), (1, .int v52.2.1), (2, .int v52.2.2.1), (3, .int v52.2.2.2.1), (4, .int v52.2.2.2.2.1), (5, .int v52.2.2.2.2.2.1), (6, .int v52.2.2.2.2.2.2.1), (7, .int v52.2.2.2.2.2.2.2)] → W p l e ({ frames := 5, cells := 0, slots := 0, locals := 116 }) s m args below meth c H locs 0 0 (MQ below (qI D t (gBo bh bk bo ++ (gS t (bk 0) nb now ++ (gE t (bk 2) eb out.2))) (b2i out.1) A) args s 0 0 A) (F0 m 52 ls []) := by
    intro v52 h H locs hP hD hS ls hl
    unfold fL_light_j52 at h
    refine lv_aload_n hx hb dL_light_52 rfl (lv_at hl 0 rfl) ?_
    refine lv_iload_n hx hb dL_light_53 rfl (lv_at hl 1 rfl) ?_
    refine lv_bipush (v := 23) hx hb dL_light_54 (by decide) ?_
    refine lv_iconst (v := 0) hx hb dL_light_56 (by decide) ?_
    obtain ⟨r8, h8, h⟩ := tq_r h
    refine call_i (v := r8.1) (wc := (gBo bh bk bo ++ (gS t (bk 0) nb now ++ (gE t (bk 2) eb v52.1)))) (wc' := (gBo bh bk bo ++ (gS t (bk 0) nb now ++ (gE t (bk 2) eb r8.2)))) (ws' := (gBo bh bk bo ++ (gS t (bk 0) nb now ++ (gE t (bk 2) eb r8.2)))) (cutB (bs := [gBo bh bk bo, gS t (bk 0) nb now, gE t (bk 2) eb v52.1]) (cs := [gBo bh bk bo, gS t (bk 0) nb now, gE t (bk 2) eb v52.1]) (cs' := [gBo bh bk bo, gS t (bk 0) nb now, gE t (bk 2) eb r8.2]) (bs' := [gBo bh bk bo, gS t (bk 0) nb now, gE t (bk 2) eb r8.2]) [0, 1, 2] hP hD hS hA rfl rfl rfl rfl) hS (fun hPc hDc => va_runV (As := [.int v52.2.1, .int 23, .int 0]) (rest := []) ⟨hx, hb, hml, hown, hts⟩ (mtX2_column l D t bh bk bo nb now eb v52.1 v52.2.1 23 0 r8 h8 _) (cwV 3 hts (gBV kw260 kw261 kw262 kw2 kw263) rfl rfl rfl (by decide +kernel) ⟨Nat.le_of_ble_eq_true rfl, Nat.le_of_ble_eq_true rfl⟩) (sPc_V hPc hK hDc hE (va_recv hK hP (ci := 2) (q0 := 0) rfl rfl)) rfl rfl hl.1 rfl (lv_room (Nat.le_of_ble_eq_true rfl)) dL_light_57 ⟨Nat.zero_le _, Nat.zero_le _⟩) (fun H locs hP hD hS => ?_)
    refine lv_aload_n hx hb dL_light_60 rfl (lv_at hl 0 rfl) ?_
    refine lv_iconst (v := 0) hx hb dL_light_61 (by decide) ?_
    refine lv_iconst (v := 2) hx hb dL_light_62 (by decide) ?_
    obtain ⟨r9, h9, h⟩ := tq_r h
    refine call_i (v := r9) (wc := (gBo bh bk bo ++ (gS t (bk 0) nb now))) (wc' := (gBo bh bk bo ++ (gS t (bk 0) nb now))) (ws' := (gBo bh bk bo ++ (gS t (bk 0) nb now ++ (gE t (bk 2) eb r8.2)))) (cutB (bs := [gBo bh bk bo, gS t (bk 0) nb now, gE t (bk 2) eb r8.2]) (cs := [gBo bh bk bo, gS t (bk 0) nb now]) (cs' := [gBo bh bk bo, gS t (bk 0) nb now]) (bs' := [gBo bh bk bo, gS t (bk 0) nb now, gE t (bk 2) eb r8.2]) [0, 1] hP hD hS hA rfl rfl rfl rfl) hS (fun hPc hDc => va_runV (As := [.int 0, .int 2]) (rest := [.int r8.1]) ⟨hx, hb, hml, hown, hts⟩ (mtX2_curtain l D t bh bk bo nb now 0 2 r9 h9 _) (cwV 2 hts (gBV kw158 kw159 kw160 kw2 kw161) rfl rfl rfl (by decide +kernel) ⟨Nat.le_of_ble_eq_true rfl, Nat.le_of_ble_eq_true rfl⟩) (sPc_V hPc hK hDc hE (va_recv hK hP (ci := 2) (q0 := 0) rfl rfl)) rfl rfl hl.1 rfl (lv_room (Nat.le_of_ble_eq_true rfl)) dL_light_63 ⟨Nat.zero_le _, Nat.zero_le _⟩) (fun H locs hP hD hS => ?_)
    refine lv_icmp_ne (tgt := 73) hx hb dL_light_66 (by decide) (fun c10 => ?_) (fun c10 => ?_)
    · have h := it_n c10 h
      refine lv_iconst (v := 0) hx hb dL_light_73 (by decide) ?_
      refine lv_istore (lv' := [(8, .int 0), (0, .ref bh), (1, .int v52.2.1), (2, .int v52.2.2.1), (3, .int v52.2.2.2.1), (4, .int v52.2.2.2.2.1), (5, .int v52.2.2.2.2.2.1), (6, .int v52.2.2.2.2.2.2.1), (7, .int v52.2.2.2.2.2.2.2)]) hx hb dL_light_74 hl (by decide) rfl (fun ls hl => ?_)
      refine lv_iconst (v := 0) hx hb dL_light_76 (by decide) ?_
      refine lv_istore (lv' := [(9, .int 0), (8, .int 0), (0, .ref bh), (1, .int v52.2.1), (2, .int v52.2.2.1), (3, .int v52.2.2.2.1), (4, .int v52.2.2.2.2.1), (5, .int v52.2.2.2.2.2.1), (6, .int v52.2.2.2.2.2.2.1), (7, .int v52.2.2.2.2.2.2.2)]) hx hb dL_light_77 hl (by decide) rfl (fun ls hl => ?_)
      exact J79 2000 (r8.2, v52.2.1, v52.2.2.1, v52.2.2.2.1, v52.2.2.2.2.1, v52.2.2.2.2.2.1, v52.2.2.2.2.2.2.1, v52.2.2.2.2.2.2.2, 0, 0) h _ _ hP hD hS _ (lv_sub hl [2, 3, 4, 5, 6, 7, 8, 9, 1, 0] rfl)
    · have h := it_p c10 h
      refine lv_iconst (v := 1) hx hb dL_light_69 (by decide) ?_
      refine lv_goto (tgt := 74) hx hb dL_light_70 (by decide) ?_
      refine lv_istore (lv' := [(8, .int 1), (0, .ref bh), (1, .int v52.2.1), (2, .int v52.2.2.1), (3, .int v52.2.2.2.1), (4, .int v52.2.2.2.2.1), (5, .int v52.2.2.2.2.2.1), (6, .int v52.2.2.2.2.2.2.1), (7, .int v52.2.2.2.2.2.2.2)]) hx hb dL_light_74 hl (by decide) rfl (fun ls hl => ?_)
      refine lv_iconst (v := 0) hx hb dL_light_76 (by decide) ?_
      refine lv_istore (lv' := [(9, .int 0), (8, .int 1), (0, .ref bh), (1, .int v52.2.1), (2, .int v52.2.2.1), (3, .int v52.2.2.2.1), (4, .int v52.2.2.2.2.1), (5, .int v52.2.2.2.2.2.1), (6, .int v52.2.2.2.2.2.2.1), (7, .int v52.2.2.2.2.2.2.2)]) hx hb dL_light_77 hl (by decide) rfl (fun ls hl => ?_)
      exact J79 2000 (r8.2, v52.2.1, v52.2.2.1, v52.2.2.2.1, v52.2.2.2.2.1, v52.2.2.2.2.2.1, v52.2.2.2.2.2.2.1, v52.2.2.2.2.2.2.2, 1, 0) h _ _ hP hD hS _ (lv_sub hl [2, 3, 4, 5, 6, 7, 8, 9, 1, 0] rfl)
  refine lv_iconst (v := 0) hx hb dL_light_0 (by decide) ?_
  refine lv_istore_n (lv' := [(2, .int 0), (0, .ref bh), (1, .int v)]) hx hb dL_light_1 rfl hl (by decide) rfl (fun ls hl => ?_)
  refine lv_iconst (v := 0) hx hb dL_light_2 (by decide) ?_
  refine lv_istore_n (lv' := [(3, .int 0), (2, .int 0), (0, .ref bh), (1, .int v)]) hx hb dL_light_3 rfl hl (by decide) rfl (fun ls hl => ?_)
  refine lv_ldc (v := 100000) hx hb hown (htB _ kw255) dL_light_4 ?_
  refine lv_istore (lv' := [(4, .int 100000), (3, .int 0), (2, .int 0), (0, .ref bh), (1, .int v)]) hx hb dL_light_6 hl (by decide) rfl (fun ls hl => ?_)
  refine lv_iconst (v := 0) hx hb dL_light_8 (by decide) ?_
  refine lv_istore (lv' := [(5, .int 0), (4, .int 100000), (3, .int 0), (2, .int 0), (0, .ref bh), (1, .int v)]) hx hb dL_light_9 hl (by decide) rfl (fun ls hl => ?_)
  refine lv_iconst (v := 0) hx hb dL_light_11 (by decide) ?_
  refine lv_istore (lv' := [(6, .int 0), (5, .int 0), (4, .int 100000), (3, .int 0), (2, .int 0), (0, .ref bh), (1, .int v)]) hx hb dL_light_12 hl (by decide) rfl (fun ls hl => ?_)
  refine lv_aload_n hx hb dL_light_14 rfl (lv_at hl 5 rfl) ?_
  refine lv_iconst (v := 2) hx hb dL_light_15 (by decide) ?_
  obtain ⟨r1, h1, h⟩ := tq_r h
  refine call_i (v := r1) (wc := (gBo bh bk bo ++ (gS t (bk 0) nb now))) (wc' := (gBo bh bk bo ++ (gS t (bk 0) nb now))) (ws' := (gBo bh bk bo ++ (gS t (bk 0) nb now ++ (gE t (bk 2) eb ex)))) (cutB (bs := [gBo bh bk bo, gS t (bk 0) nb now, gE t (bk 2) eb ex]) (cs := [gBo bh bk bo, gS t (bk 0) nb now]) (cs' := [gBo bh bk bo, gS t (bk 0) nb now]) (bs' := [gBo bh bk bo, gS t (bk 0) nb now, gE t (bk 2) eb ex]) [0, 1] hP hD hS hA rfl rfl rfl rfl) hS (fun hPc hDc => va_runV (As := [.int 2]) (rest := []) ⟨hx, hb, hml, hown, hts⟩ (mtX2_count l D t bh bk bo nb now 2 r1 h1 _) (cwV 1 hts (gBV kw45 kw46 kw47 kw2 kw48) rfl rfl rfl (by decide +kernel) ⟨Nat.le_of_ble_eq_true rfl, Nat.le_of_ble_eq_true rfl⟩) (sPc_V hPc hK hDc hE (va_recv hK hP (ci := 2) (q0 := 0) rfl rfl)) rfl rfl hl.1 rfl (lv_room (Nat.le_of_ble_eq_true rfl)) dL_light_16 ⟨Nat.zero_le _, Nat.zero_le _⟩) (fun H locs hP hD hS => ?_)
  refine lv_istore (lv' := [(7, .int r1), (6, .int 0), (5, .int 0), (4, .int 100000), (3, .int 0), (2, .int 0), (0, .ref bh), (1, .int v)]) hx hb dL_light_19 hl (by decide) rfl (fun ls hl => ?_)
  refine lv_iload hx hb dL_light_21 (lv_at hl 0 rfl) ?_
  refine lv_if_lt (tgt := 73) hx hb dL_light_23 (by decide) (fun c2 => ?_) (fun c2 => ?_)
  · have h := it_p c2 h
    refine lv_iconst (v := 0) hx hb dL_light_73 (by decide) ?_
    refine lv_istore (lv' := [(8, .int 0), (7, .int r1), (6, .int 0), (5, .int 0), (4, .int 100000), (3, .int 0), (2, .int 0), (0, .ref bh), (1, .int v)]) hx hb dL_light_74 hl (by decide) rfl (fun ls hl => ?_)
    refine lv_iconst (v := 0) hx hb dL_light_76 (by decide) ?_
    refine lv_istore (lv' := [(9, .int 0), (8, .int 0), (7, .int r1), (6, .int 0), (5, .int 0), (4, .int 100000), (3, .int 0), (2, .int 0), (0, .ref bh), (1, .int v)]) hx hb dL_light_77 hl (by decide) rfl (fun ls hl => ?_)
    exact J79 2000 (ex, v, 0, 0, 100000, 0, 0, r1, 0, 0) h _ _ hP hD hS _ (lv_sub hl [8, 9, 7, 6, 5, 4, 3, 2, 1, 0] rfl)
  · have h := it_n c2 h
    refine lv_iload hx hb dL_light_26 (lv_at hl 0 rfl) ?_
    refine lv_bipush (v := 6) hx hb dL_light_28 (by decide) ?_
    refine lv_icmp_gt (tgt := 73) hx hb dL_light_30 (by decide) (fun c3 => ?_) (fun c3 => ?_)
    · have h := it_p c3 h
      refine lv_iconst (v := 0) hx hb dL_light_73 (by decide) ?_
      refine lv_istore (lv' := [(8, .int 0), (7, .int r1), (6, .int 0), (5, .int 0), (4, .int 100000), (3, .int 0), (2, .int 0), (0, .ref bh), (1, .int v)]) hx hb dL_light_74 hl (by decide) rfl (fun ls hl => ?_)
      refine lv_iconst (v := 0) hx hb dL_light_76 (by decide) ?_
      refine lv_istore (lv' := [(9, .int 0), (8, .int 0), (7, .int r1), (6, .int 0), (5, .int 0), (4, .int 100000), (3, .int 0), (2, .int 0), (0, .ref bh), (1, .int v)]) hx hb dL_light_77 hl (by decide) rfl (fun ls hl => ?_)
      exact J79 2000 (ex, v, 0, 0, 100000, 0, 0, r1, 0, 0) h _ _ hP hD hS _ (lv_sub hl [8, 9, 7, 6, 5, 4, 3, 2, 1, 0] rfl)
    · have h := it_n c3 h
      refine lv_aload_n hx hb dL_light_33 rfl (lv_at hl 6 rfl) ?_
      refine lv_iconst (v := 0) hx hb dL_light_34 (by decide) ?_
      refine lv_iconst (v := 0) hx hb dL_light_35 (by decide) ?_
      obtain ⟨r4, h4, h⟩ := tq_r h
      refine call_i (v := r4) (wc := (gBo bh bk bo ++ (gS t (bk 0) nb now))) (wc' := (gBo bh bk bo ++ (gS t (bk 0) nb now))) (ws' := (gBo bh bk bo ++ (gS t (bk 0) nb now ++ (gE t (bk 2) eb ex)))) (cutB (bs := [gBo bh bk bo, gS t (bk 0) nb now, gE t (bk 2) eb ex]) (cs := [gBo bh bk bo, gS t (bk 0) nb now]) (cs' := [gBo bh bk bo, gS t (bk 0) nb now]) (bs' := [gBo bh bk bo, gS t (bk 0) nb now, gE t (bk 2) eb ex]) [0, 1] hP hD hS hA rfl rfl rfl rfl) hS (fun hPc hDc => va_runV (As := [.int 0, .int 0]) (rest := []) ⟨hx, hb, hml, hown, hts⟩ (mtX2_curtain l D t bh bk bo nb now 0 0 r4 h4 _) (cwV 2 hts (gBV kw158 kw159 kw160 kw2 kw161) rfl rfl rfl (by decide +kernel) ⟨Nat.le_of_ble_eq_true rfl, Nat.le_of_ble_eq_true rfl⟩) (sPc_V hPc hK hDc hE (va_recv hK hP (ci := 2) (q0 := 0) rfl rfl)) rfl rfl hl.1 rfl (lv_room (Nat.le_of_ble_eq_true rfl)) dL_light_36 ⟨Nat.zero_le _, Nat.zero_le _⟩) (fun H locs hP hD hS => ?_)
      refine lv_aload_n hx hb dL_light_39 rfl (lv_at hl 6 rfl) ?_
      refine lv_iconst (v := 1) hx hb dL_light_40 (by decide) ?_
      obtain ⟨r5, h5, h⟩ := tq_r h
      refine call_i (v := r5) (wc := (gBo bh bk bo ++ (gS t (bk 0) nb now))) (wc' := (gBo bh bk bo ++ (gS t (bk 0) nb now))) (ws' := (gBo bh bk bo ++ (gS t (bk 0) nb now ++ (gE t (bk 2) eb ex)))) (cutB (bs := [gBo bh bk bo, gS t (bk 0) nb now, gE t (bk 2) eb ex]) (cs := [gBo bh bk bo, gS t (bk 0) nb now]) (cs' := [gBo bh bk bo, gS t (bk 0) nb now]) (bs' := [gBo bh bk bo, gS t (bk 0) nb now, gE t (bk 2) eb ex]) [0, 1] hP hD hS hA rfl rfl rfl rfl) hS (fun hPc hDc => va_runV (As := [.int 1]) (rest := [.int r4]) ⟨hx, hb, hml, hown, hts⟩ (mtX2_setting l D t bh bk bo nb now 1 r5 h5 _) (cwV 1 hts (gBV kw256 kw257 kw258 kw2 kw259) rfl rfl rfl (by decide +kernel) ⟨Nat.le_of_ble_eq_true rfl, Nat.le_of_ble_eq_true rfl⟩) (sPc_V hPc hK hDc hE (va_recv hK hP (ci := 2) (q0 := 0) rfl rfl)) rfl rfl hl.1 rfl (lv_room (Nat.le_of_ble_eq_true rfl)) dL_light_41 ⟨Nat.zero_le _, Nat.zero_le _⟩) (fun H locs hP hD hS => ?_)
      refine lv_icmp_gt (tgt := 52) hx hb dL_light_44 (by decide) (fun c6 => ?_) (fun c6 => ?_)
      · have h := it_p c6 h
        exact J52 (ex, v, 0, 0, 100000, 0, 0, r1) h _ _ hP hD hS _ (lv_sub hl [6, 7, 5, 4, 3, 2, 1, 0] rfl)
      · have h := it_n c6 h
        refine lv_iload hx hb dL_light_47 (lv_at hl 0 rfl) ?_
        refine lv_if_ne (tgt := 73) hx hb dL_light_49 (by decide) (fun c7 => ?_) (fun c7 => ?_)
        · have h := it_n c7 h
          refine lv_iconst (v := 0) hx hb dL_light_73 (by decide) ?_
          refine lv_istore (lv' := [(8, .int 0), (7, .int r1), (6, .int 0), (5, .int 0), (4, .int 100000), (3, .int 0), (2, .int 0), (0, .ref bh), (1, .int v)]) hx hb dL_light_74 hl (by decide) rfl (fun ls hl => ?_)
          refine lv_iconst (v := 0) hx hb dL_light_76 (by decide) ?_
          refine lv_istore (lv' := [(9, .int 0), (8, .int 0), (7, .int r1), (6, .int 0), (5, .int 0), (4, .int 100000), (3, .int 0), (2, .int 0), (0, .ref bh), (1, .int v)]) hx hb dL_light_77 hl (by decide) rfl (fun ls hl => ?_)
          exact J79 2000 (ex, v, 0, 0, 100000, 0, 0, r1, 0, 0) h _ _ hP hD hS _ (lv_sub hl [8, 9, 7, 6, 5, 4, 3, 2, 1, 0] rfl)
        · have h := it_p c7 h
          exact J52 (ex, v, 0, 0, 100000, 0, 0, r1) h _ _ hP hD hS _ (lv_sub hl [6, 7, 5, 4, 3, 2, 1, 0] rfl)
