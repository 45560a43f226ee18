theorem dX10_move_39 : decode cX10_move 39 = .ok (.iload 6, 2) := by decide +kernel
theorem dX10_move_41 : decode cX10_move 41 = .ok (.ifCond .ne 10, 3) := by decide +kernel
theorem dX10_move_44 : decode cX10_move 44 = .ok (.aload_n 0, 1) := by decide +kernel
theorem dX10_move_45 : decode cX10_move 45 = .ok (.bipush (-7), 2) := by decide +kernel
theorem dX10_move_47 : decode cX10_move 47 = .ok (.invokevirtual 126, 3) := by decide +kernel
theorem dX10_move_50 : decode cX10_move 50 = .ok (.ireturn, 1) := by decide +kernel
theorem dX10_move_51 : decode cX10_move 51 = .ok (.aload_n 0, 1) := by decide +kernel
theorem dX10_move_52 : decode cX10_move 52 = .ok (.iload_n 1, 1) := by decide +kernel
theorem dX10_move_53 : decode cX10_move 53 = .ok (.iload_n 3, 1) := by decide +kernel
theorem dX10_move_54 : decode cX10_move 54 = .ok (.invokevirtual 181, 3) := by decide +kernel
theorem dX10_move_57 : decode cX10_move 57 = .ok (.istore 7, 2) := by decide +kernel
theorem dX10_move_59 : decode cX10_move 59 = .ok (.iload 7, 2) := by decide +kernel
theorem dX10_move_61 : decode cX10_move 61 = .ok (.ifCond .ge 10, 3) := by decide +kernel
theorem dX10_move_64 : decode cX10_move 64 = .ok (.aload_n 0, 1) := by decide +kernel
theorem dX10_move_65 : decode cX10_move 65 = .ok (.bipush (-6), 2) := by decide +kernel
theorem dX10_move_67 : decode cX10_move 67 = .ok (.invokevirtual 126, 3) := by decide +kernel
theorem dX10_move_70 : decode cX10_move 70 = .ok (.ireturn, 1) := by decide +kernel
theorem dX10_move_71 : decode cX10_move 71 = .ok (.aload_n 0, 1) := by decide +kernel
theorem dX10_move_72 : decode cX10_move 72 = .ok (.iload_n 1, 1) := by decide +kernel
theorem dX10_move_73 : decode cX10_move 73 = .ok (.iload 7, 2) := by decide +kernel
theorem dX10_move_75 : decode cX10_move 75 = .ok (.iconst 1, 1) := by decide +kernel
theorem dX10_move_76 : decode cX10_move 76 = .ok (.invokevirtual 104, 3) := by decide +kernel
theorem dX10_move_79 : decode cX10_move 79 = .ok (.iconst 3, 1) := by decide +kernel
theorem dX10_move_80 : decode cX10_move 80 = .ok (.if_icmp .ne 10, 3) := by decide +kernel
theorem dX10_move_83 : decode cX10_move 83 = .ok (.aload_n 0, 1) := by decide +kernel
theorem dX10_move_84 : decode cX10_move 84 = .ok (.bipush (-3), 2) := by decide +kernel
theorem dX10_move_86 : decode cX10_move 86 = .ok (.invokevirtual 126, 3) := by decide +kernel
theorem dX10_move_89 : decode cX10_move 89 = .ok (.ireturn, 1) := by decide +kernel
theorem dX10_move_90 : decode cX10_move 90 = .ok (.aload_n 0, 1) := by decide +kernel
theorem dX10_move_91 : decode cX10_move 91 = .ok (.iload_n 1, 1) := by decide +kernel
theorem dX10_move_92 : decode cX10_move 92 = .ok (.iload 6, 2) := by decide +kernel
theorem dX10_move_94 : decode cX10_move 94 = .ok (.invokevirtual 119, 3) := by decide +kernel
theorem dX10_move_97 : decode cX10_move 97 = .ok (.istore 8, 2) := by decide +kernel
theorem dX10_move_99 : decode cX10_move 99 = .ok (.iload 7, 2) := by decide +kernel
theorem dX10_move_101 : decode cX10_move 101 = .ok (.iload 6, 2) := by decide +kernel
theorem dX10_move_103 : decode cX10_move 103 = .ok (.if_icmp .lt 17, 3) := by decide +kernel
theorem dX10_move_106 : decode cX10_move 106 = .ok (.iload 7, 2) := by decide +kernel
theorem dX10_move_108 : decode cX10_move 108 = .ok (.iload 8, 2) := by decide +kernel
theorem dX10_move_110 : decode cX10_move 110 = .ok (.if_icmp .ge 10, 3) := by decide +kernel
theorem dX10_move_113 : decode cX10_move 113 = .ok (.aload_n 0, 1) := by decide +kernel
theorem dX10_move_114 : decode cX10_move 114 = .ok (.bipush (-7), 2) := by decide +kernel
theorem dX10_move_116 : decode cX10_move 116 = .ok (.invokevirtual 126, 3) := by decide +kernel
theorem dX10_move_119 : decode cX10_move 119 = .ok (.ireturn, 1) := by decide +kernel
theorem dX10_move_120 : decode cX10_move 120 = .ok (.aload_n 0, 1) := by decide +kernel
theorem dX10_move_121 : decode cX10_move 121 = .ok (.getfield 13, 3) := by decide +kernel
theorem dX10_move_124 : decode cX10_move 124 = .ok (.bipush 9, 2) := by decide +kernel
theorem dX10_move_126 : decode cX10_move 126 = .ok (.iconst 0, 1) := by decide +kernel
theorem dX10_move_127 : decode cX10_move 127 = .ok (.iastore, 1) := by decide +kernel
theorem dX10_move_128 : decode cX10_move 128 = .ok (.iconst 0, 1) := by decide +kernel
theorem dX10_move_129 : decode cX10_move 129 = .ok (.istore 9, 2) := by decide +kernel
theorem dX10_move_131 : decode cX10_move 131 = .ok (.iload 9, 2) := by decide +kernel
theorem dX10_move_133 : decode cX10_move 133 = .ok (.aload_n 0, 1) := by decide +kernel
theorem dX10_move_134 : decode cX10_move 134 = .ok (.getfield 13, 3) := by decide +kernel
theorem dX10_move_137 : decode cX10_move 137 = .ok (.iload_n 1, 1) := by decide +kernel
theorem dX10_move_138 : decode cX10_move 138 = .ok (.iaload, 1) := by decide +kernel
theorem dX10_move_139 : decode cX10_move 139 = .ok (.if_icmp .ge 53, 3) := by decide +kernel
theorem dX10_move_142 : decode cX10_move 142 = .ok (.iload 9, 2) := by decide +kernel
theorem dX10_move_144 : decode cX10_move 144 = .ok (.iload 6, 2) := by decide +kernel
theorem dX10_move_146 : decode cX10_move 146 = .ok (.if_icmp .lt 13, 3) := by decide +kernel
theorem dX10_move_149 : decode cX10_move 149 = .ok (.iload 9, 2) := by decide +kernel
theorem dX10_move_151 : decode cX10_move 151 = .ok (.iload 8, 2) := by decide +kernel
theorem dX10_move_153 : decode cX10_move 153 = .ok (.if_icmp .ge 6, 3) := by decide +kernel
theorem dX10_move_156 : decode cX10_move 156 = .ok (.goto 30, 3) := by decide +kernel
theorem dX10_move_159 : decode cX10_move 159 = .ok (.aload_n 0, 1) := by decide +kernel
theorem dX10_move_160 : decode cX10_move 160 = .ok (.iload_n 1, 1) := by decide +kernel
theorem dX10_move_161 : decode cX10_move 161 = .ok (.iload 9, 2) := by decide +kernel
theorem dX10_move_163 : decode cX10_move 163 = .ok (.bipush 9, 2) := by decide +kernel
theorem dX10_move_165 : decode cX10_move 165 = .ok (.aload_n 0, 1) := by decide +kernel
theorem dX10_move_166 : decode cX10_move 166 = .ok (.getfield 13, 3) := by decide +kernel
theorem dX10_move_169 : decode cX10_move 169 = .ok (.bipush 9, 2) := by decide +kernel
theorem dX10_move_171 : decode cX10_move 171 = .ok (.iaload, 1) := by decide +kernel
theorem dX10_move_172 : decode cX10_move 172 = .ok (.invokevirtual 112, 3) := by decide +kernel
theorem dX10_move_175 : decode cX10_move 175 = .ok (.aload_n 0, 1) := by decide +kernel
theorem dX10_move_176 : decode cX10_move 176 = .ok (.getfield 13, 3) := by decide +kernel
theorem dX10_move_179 : decode cX10_move 179 = .ok (.bipush 9, 2) := by decide +kernel
theorem dX10_move_181 : decode cX10_move 181 = .ok (.dup2, 1) := by decide +kernel
theorem dX10_move_182 : decode cX10_move 182 = .ok (.iaload, 1) := by decide +kernel
theorem dX10_move_183 : decode cX10_move 183 = .ok (.iconst 1, 1) := by decide +kernel
theorem dX10_move_184 : decode cX10_move 184 = .ok (.iadd, 1) := by decide +kernel
theorem dX10_move_185 : decode cX10_move 185 = .ok (.iastore, 1) := by decide +kernel
theorem dX10_move_186 : decode cX10_move 186 = .ok (.iinc 9 1, 3) := by decide +kernel
theorem dX10_move_189 : decode cX10_move 189 = .ok (.goto (-58), 3) := by decide +kernel
theorem dX10_move_192 : decode cX10_move 192 = .ok (.aload_n 0, 1) := by decide +kernel
theorem dX10_move_193 : decode cX10_move 193 = .ok (.bipush 9, 2) := by decide +kernel
theorem dX10_move_195 : decode cX10_move 195 = .ok (.iload_n 3, 1) := by decide +kernel
theorem dX10_move_196 : decode cX10_move 196 = .ok (.invokevirtual 181, 3) := by decide +kernel
theorem dX10_move_199 : decode cX10_move 199 = .ok (.istore 9, 2) := by decide +kernel
theorem dX10_move_201 : decode cX10_move 201 = .ok (.iload 4, 2) := by decide +kernel
theorem dX10_move_203 : decode cX10_move 203 = .ok (.ifCond .lt 16, 3) := by decide +kernel
theorem dX10_move_206 : decode cX10_move 206 = .ok (.iload 4, 2) := by decide +kernel
theorem dX10_move_208 : decode cX10_move 208 = .ok (.aload_n 0, 1) := by decide +kernel
theorem dX10_move_209 : decode cX10_move 209 = .ok (.bipush 9, 2) := by decide +kernel
theorem dX10_move_211 : decode cX10_move 211 = .ok (.iload 9, 2) := by decide +kernel
theorem dX10_move_213 : decode cX10_move 213 = .ok (.invokevirtual 175, 3) := by decide +kernel
theorem dX10_move_216 : decode cX10_move 216 = .ok (.if_icmp .le 9, 3) := by decide +kernel
theorem dX10_move_219 : decode cX10_move 219 = .ok (.aload_n 0, 1) := by decide +kernel
theorem dX10_move_220 : decode cX10_move 220 = .ok (.iconst (-1), 1) := by decide +kernel
theorem dX10_move_221 : decode cX10_move 221 = .ok (.invokevirtual 126, 3) := by decide +kernel
theorem dX10_move_224 : decode cX10_move 224 = .ok (.ireturn, 1) := by decide +kernel
theorem dX10_move_225 : decode cX10_move 225 = .ok (.aload_n 0, 1) := by decide +kernel
theorem dX10_move_226 : decode cX10_move 226 = .ok (.bipush 9, 2) := by decide +kernel
theorem dX10_move_228 : decode cX10_move 228 = .ok (.iload 9, 2) := by decide +kernel
theorem dX10_move_230 : decode cX10_move 230 = .ok (.iload 4, 2) := by decide +kernel
theorem dX10_move_232 : decode cX10_move 232 = .ok (.invokevirtual 188, 3) := by decide +kernel
theorem dX10_move_235 : decode cX10_move 235 = .ok (.istore 10, 2) := by decide +kernel
theorem dX10_move_237 : decode cX10_move 237 = .ok (.aload_n 0, 1) := by decide +kernel
theorem dX10_move_238 : decode cX10_move 238 = .ok (.bipush 9, 2) := by decide +kernel
theorem dX10_move_240 : decode cX10_move 240 = .ok (.iload 9, 2) := by decide +kernel
theorem dX10_move_242 : decode cX10_move 242 = .ok (.invokevirtual 115, 3) := by decide +kernel
theorem dX10_move_245 : decode cX10_move 245 = .ok (.iconst 1, 1) := by decide +kernel
theorem dX10_move_246 : decode cX10_move 246 = .ok (.iadd, 1) := by decide +kernel
theorem dX10_move_247 : decode cX10_move 247 = .ok (.aload_n 0, 1) := by decide +kernel
theorem dX10_move_248 : decode cX10_move 248 = .ok (.iload_n 1, 1) := by decide +kernel
theorem dX10_move_249 : decode cX10_move 249 = .ok (.iload 6, 2) := by decide +kernel
theorem dX10_move_251 : decode cX10_move 251 = .ok (.invokevirtual 115, 3) := by decide +kernel
theorem dX10_move_254 : decode cX10_move 254 = .ok (.isub, 1) := by decide +kernel
theorem dX10_move_255 : decode cX10_move 255 = .ok (.istore 11, 2) := by decide +kernel
theorem dX10_move_257 : decode cX10_move 257 = .ok (.aload_n 0, 1) := by decide +kernel
theorem dX10_move_258 : decode cX10_move 258 = .ok (.getfield 13, 3) := by decide +kernel
theorem dX10_move_261 : decode cX10_move 261 = .ok (.bipush 10, 2) := by decide +kernel
theorem dX10_move_263 : decode cX10_move 263 = .ok (.iconst 0, 1) := by decide +kernel
theorem dX10_move_264 : decode cX10_move 264 = .ok (.iastore, 1) := by decide +kernel
theorem dX10_move_265 : decode cX10_move 265 = .ok (.iconst 0, 1) := by decide +kernel
theorem dX10_move_266 : decode cX10_move 266 = .ok (.istore 12, 2) := by decide +kernel
theorem dX10_move_268 : decode cX10_move 268 = .ok (.iload 12, 2) := by decide +kernel
theorem dX10_move_270 : decode cX10_move 270 = .ok (.aload_n 0, 1) := by decide +kernel
theorem dX10_move_271 : decode cX10_move 271 = .ok (.getfield 13, 3) := by decide +kernel
theorem dX10_move_274 : decode cX10_move 274 = .ok (.bipush 9, 2) := by decide +kernel
theorem dX10_move_276 : decode cX10_move 276 = .ok (.iaload, 1) := by decide +kernel
theorem dX10_move_277 : decode cX10_move 277 = .ok (.if_icmp .gt 127, 3) := by decide +kernel
theorem dX10_move_280 : decode cX10_move 280 = .ok (.iload 6, 2) := by decide +kernel
theorem dX10_move_282 : decode cX10_move 282 = .ok (.istore 13, 2) := by decide +kernel
theorem dX10_move_284 : decode cX10_move 284 = .ok (.iload 13, 2) := by decide +kernel
theorem dX10_move_286 : decode cX10_move 286 = .ok (.iload 8, 2) := by decide +kernel
theorem dX10_move_288 : decode cX10_move 288 = .ok (.if_icmp .ge 67, 3) := by decide +kernel
theorem dX10_move_291 : decode cX10_move 291 = .ok (.iload 12, 2) := by decide +kernel
theorem dX10_move_293 : decode cX10_move 293 = .ok (.iload 10, 2) := by decide +kernel
theorem dX10_move_295 : decode cX10_move 295 = .ok (.if_icmp .ne 60, 3) := by decide +kernel
theorem dX10_move_298 : decode cX10_move 298 = .ok (.aload_n 0, 1) := by decide +kernel
theorem dX10_move_299 : decode cX10_move 299 = .ok (.iload_n 1, 1) := by decide +kernel
theorem dX10_move_300 : decode cX10_move 300 = .ok (.iload 13, 2) := by decide +kernel
theorem dX10_move_302 : decode cX10_move 302 = .ok (.bipush 10, 2) := by decide +kernel
theorem dX10_move_304 : decode cX10_move 304 = .ok (.aload_n 0, 1) := by decide +kernel
theorem dX10_move_305 : decode cX10_move 305 = .ok (.getfield 13, 3) := by decide +kernel
theorem dX10_move_308 : decode cX10_move 308 = .ok (.bipush 10, 2) := by decide +kernel
theorem dX10_move_310 : decode cX10_move 310 = .ok (.iaload, 1) := by decide +kernel
theorem dX10_move_311 : decode cX10_move 311 = .ok (.invokevirtual 112, 3) := by decide +kernel
theorem dX10_move_314 : decode cX10_move 314 = .ok (.aload_n 0, 1) := by decide +kernel
theorem dX10_move_315 : decode cX10_move 315 = .ok (.bipush 10, 2) := by decide +kernel
theorem dX10_move_317 : decode cX10_move 317 = .ok (.aload_n 0, 1) := by decide +kernel
theorem dX10_move_318 : decode cX10_move 318 = .ok (.getfield 13, 3) := by decide +kernel
theorem dX10_move_321 : decode cX10_move 321 = .ok (.bipush 10, 2) := by decide +kernel
theorem dX10_move_323 : decode cX10_move 323 = .ok (.iaload, 1) := by decide +kernel
theorem dX10_move_324 : decode cX10_move 324 = .ok (.iconst 2, 1) := by decide +kernel
theorem dX10_move_325 : decode cX10_move 325 = .ok (.aload_n 0, 1) := by decide +kernel
theorem dX10_move_326 : decode cX10_move 326 = .ok (.iload_n 1, 1) := by decide +kernel
theorem dX10_move_327 : decode cX10_move 327 = .ok (.iload 13, 2) := by decide +kernel
theorem dX10_move_329 : decode cX10_move 329 = .ok (.invokevirtual 115, 3) := by decide +kernel
theorem dX10_move_332 : decode cX10_move 332 = .ok (.iload 11, 2) := by decide +kernel
theorem dX10_move_334 : decode cX10_move 334 = .ok (.iadd, 1) := by decide +kernel
theorem dX10_move_335 : decode cX10_move 335 = .ok (.invokevirtual 108, 3) := by decide +kernel
theorem dX10_move_338 : decode cX10_move 338 = .ok (.aload_n 0, 1) := by decide +kernel
theorem dX10_move_339 : decode cX10_move 339 = .ok (.getfield 13, 3) := by decide +kernel
theorem dX10_move_342 : decode cX10_move 342 = .ok (.bipush 10, 2) := by decide +kernel
theorem dX10_move_344 : decode cX10_move 344 = .ok (.dup2, 1) := by decide +kernel
theorem dX10_move_345 : decode cX10_move 345 = .ok (.iaload, 1) := by decide +kernel
theorem dX10_move_346 : decode cX10_move 346 = .ok (.iconst 1, 1) := by decide +kernel
theorem dX10_move_347 : decode cX10_move 347 = .ok (.iadd, 1) := by decide +kernel
theorem dX10_move_348 : decode cX10_move 348 = .ok (.iastore, 1) := by decide +kernel
theorem dX10_move_349 : decode cX10_move 349 = .ok (.iinc 13 1, 3) := by decide +kernel
theorem dX10_move_352 : decode cX10_move 352 = .ok (.goto (-68), 3) := by decide +kernel
theorem dX10_move_355 : decode cX10_move 355 = .ok (.iload 12, 2) := by decide +kernel
theorem dX10_move_357 : decode cX10_move 357 = .ok (.aload_n 0, 1) := by decide +kernel
theorem dX10_move_358 : decode cX10_move 358 = .ok (.getfield 13, 3) := by decide +kernel
theorem dX10_move_361 : decode cX10_move 361 = .ok (.bipush 9, 2) := by decide +kernel
theorem dX10_move_363 : decode cX10_move 363 = .ok (.iaload, 1) := by decide +kernel
theorem dX10_move_364 : decode cX10_move 364 = .ok (.if_icmp .ne 6, 3) := by decide +kernel
theorem dX10_move_367 : decode cX10_move 367 = .ok (.goto 31, 3) := by decide +kernel
theorem dX10_move_370 : decode cX10_move 370 = .ok (.aload_n 0, 1) := by decide +kernel
theorem dX10_move_371 : decode cX10_move 371 = .ok (.bipush 9, 2) := by decide +kernel
theorem dX10_move_373 : decode cX10_move 373 = .ok (.iload 12, 2) := by decide +kernel
theorem dX10_move_375 : decode cX10_move 375 = .ok (.bipush 10, 2) := by decide +kernel
theorem dX10_move_377 : decode cX10_move 377 = .ok (.aload_n 0, 1) := by decide +kernel
theorem dX10_move_378 : decode cX10_move 378 = .ok (.getfield 13, 3) := by decide +kernel
theorem dX10_move_381 : decode cX10_move 381 = .ok (.bipush 10, 2) := by decide +kernel
theorem dX10_move_383 : decode cX10_move 383 = .ok (.iaload, 1) := by decide +kernel
theorem dX10_move_384 : decode cX10_move 384 = .ok (.invokevirtual 112, 3) := by decide +kernel
theorem dX10_move_387 : decode cX10_move 387 = .ok (.aload_n 0, 1) := by decide +kernel
theorem dX10_move_388 : decode cX10_move 388 = .ok (.getfield 13, 3) := by decide +kernel
theorem dX10_move_391 : decode cX10_move 391 = .ok (.bipush 10, 2) := by decide +kernel
theorem dX10_move_393 : decode cX10_move 393 = .ok (.dup2, 1) := by decide +kernel
theorem dX10_move_394 : decode cX10_move 394 = .ok (.iaload, 1) := by decide +kernel
theorem dX10_move_395 : decode cX10_move 395 = .ok (.iconst 1, 1) := by decide +kernel
theorem dX10_move_396 : decode cX10_move 396 = .ok (.iadd, 1) := by decide +kernel
theorem dX10_move_397 : decode cX10_move 397 = .ok (.iastore, 1) := by decide +kernel
theorem dX10_move_398 : decode cX10_move 398 = .ok (.iinc 12 1, 3) := by decide +kernel
theorem dX10_move_401 : decode cX10_move 401 = .ok (.goto (-133), 3) := by decide +kernel
theorem dX10_move_404 : decode cX10_move 404 = .ok (.aload_n 0, 1) := by decide +kernel
theorem dX10_move_405 : decode cX10_move 405 = .ok (.bipush 10, 2) := by decide +kernel
theorem dX10_move_407 : decode cX10_move 407 = .ok (.invokevirtual 191, 3) := by decide +kernel
theorem dX10_move_410 : decode cX10_move 410 = .ok (.ifCond .eq 10, 3) := by decide +kernel
theorem dX10_move_413 : decode cX10_move 413 = .ok (.aload_n 0, 1) := by decide +kernel
theorem dX10_move_414 : decode cX10_move 414 = .ok (.bipush (-5), 2) := by decide +kernel
theorem dX10_move_416 : decode cX10_move 416 = .ok (.invokevirtual 126, 3) := by decide +kernel
theorem dX10_move_419 : decode cX10_move 419 = .ok (.ireturn, 1) := by decide +kernel
theorem dX10_move_420 : decode cX10_move 420 = .ok (.aload_n 0, 1) := by decide +kernel
theorem dX10_move_421 : decode cX10_move 421 = .ok (.bipush 10, 2) := by decide +kernel
theorem dX10_move_423 : decode cX10_move 423 = .ok (.invokevirtual 194, 3) := by decide +kernel
theorem dX10_move_426 : decode cX10_move 426 = .ok (.ifCond .eq 10, 3) := by decide +kernel
theorem dX10_move_429 : decode cX10_move 429 = .ok (.aload_n 0, 1) := by decide +kernel
theorem dX10_move_430 : decode cX10_move 430 = .ok (.bipush (-4), 2) := by decide +kernel
theorem dX10_move_432 : decode cX10_move 432 = .ok (.invokevirtual 126, 3) := by decide +kernel
theorem dX10_move_435 : decode cX10_move 435 = .ok (.ireturn, 1) := by decide +kernel
theorem dX10_move_436 : decode cX10_move 436 = .ok (.aload_n 0, 1) := by decide +kernel
theorem dX10_move_437 : decode cX10_move 437 = .ok (.bipush 10, 2) := by decide +kernel
theorem dX10_move_439 : decode cX10_move 439 = .ok (.iload_n 1, 1) := by decide +kernel
theorem dX10_move_440 : decode cX10_move 440 = .ok (.invokevirtual 151, 3) := by decide +kernel
theorem dX10_move_443 : decode cX10_move 443 = .ok (.iload 8, 2) := by decide +kernel
theorem dX10_move_445 : decode cX10_move 445 = .ok (.iload 6, 2) := by decide +kernel
theorem dX10_move_447 : decode cX10_move 447 = .ok (.isub, 1) := by decide +kernel
theorem dX10_move_448 : decode cX10_move 448 = .ok (.ireturn, 1) := by decide +kernel
theorem dX10_price_0 : decode cX10_price 0 = .ok (.iload_n 1, 1) := by decide +kernel
theorem dX10_price_1 : decode cX10_price 1 = .ok (.iconst 0, 1) := by decide +kernel
theorem dX10_price_2 : decode cX10_price 2 = .ok (.iconst 3, 1) := by decide +kernel
theorem dX10_price_3 : decode cX10_price 3 = .ok (.invokestatic 96, 3) := by decide +kernel
theorem dX10_price_6 : decode cX10_price 6 = .ok (.ifCond .eq 14, 3) := by decide +kernel
theorem dX10_price_9 : decode cX10_price 9 = .ok (.iload_n 2, 1) := by decide +kernel
theorem dX10_price_10 : decode cX10_price 10 = .ok (.iconst 0, 1) := by decide +kernel
theorem dX10_price_11 : decode cX10_price 11 = .ok (.sipush 1000, 3) := by decide +kernel
theorem dX10_price_14 : decode cX10_price 14 = .ok (.invokestatic 96, 3) := by decide +kernel
theorem dX10_price_17 : decode cX10_price 17 = .ok (.ifCond .ne 9, 3) := by decide +kernel
theorem dX10_price_20 : decode cX10_price 20 = .ok (.aload_n 0, 1) := by decide +kernel
theorem dX10_price_21 : decode cX10_price 21 = .ok (.iconst (-1), 1) := by decide +kernel
theorem dX10_price_22 : decode cX10_price 22 = .ok (.invokevirtual 126, 3) := by decide +kernel
theorem dX10_price_25 : decode cX10_price 25 = .ok (.ireturn, 1) := by decide +kernel
theorem dX10_price_26 : decode cX10_price 26 = .ok (.aload_n 0, 1) := by decide +kernel
theorem dX10_price_27 : decode cX10_price 27 = .ok (.getfield 22, 3) := by decide +kernel
theorem dX10_price_30 : decode cX10_price 30 = .ok (.iload_n 1, 1) := by decide +kernel
theorem dX10_price_31 : decode cX10_price 31 = .ok (.iaload, 1) := by decide +kernel
theorem dX10_price_32 : decode cX10_price 32 = .ok (.istore_n 3, 1) := by decide +kernel
theorem dX10_price_33 : decode cX10_price 33 = .ok (.aload_n 0, 1) := by decide +kernel
theorem dX10_price_34 : decode cX10_price 34 = .ok (.getfield 22, 3) := by decide +kernel
theorem dX10_price_37 : decode cX10_price 37 = .ok (.iload_n 1, 1) := by decide +kernel
theorem dX10_price_38 : decode cX10_price 38 = .ok (.iload_n 2, 1) := by decide +kernel
theorem dX10_price_39 : decode cX10_price 39 = .ok (.iastore, 1) := by decide +kernel
theorem dX10_price_40 : decode cX10_price 40 = .ok (.iload_n 3, 1) := by decide +kernel
theorem dX10_price_41 : decode cX10_price 41 = .ok (.ireturn, 1) := by decide +kernel
theorem dX10_lay_0 : decode cX10_lay 0 = .ok (.iconst 0, 1) := by decide +kernel
theorem dX10_lay_1 : decode cX10_lay 1 = .ok (.istore_n 3, 1) := by decide +kernel
theorem dX10_lay_2 : decode cX10_lay 2 = .ok (.iload_n 3, 1) := by decide +kernel
theorem dX10_lay_3 : decode cX10_lay 3 = .ok (.aload_n 0, 1) := by decide +kernel
theorem dX10_lay_4 : decode cX10_lay 4 = .ok (.getfield 13, 3) := by decide +kernel
theorem dX10_lay_7 : decode cX10_lay 7 = .ok (.iload_n 1, 1) := by decide +kernel
theorem dX10_lay_8 : decode cX10_lay 8 = .ok (.iaload, 1) := by decide +kernel
theorem dX10_lay_9 : decode cX10_lay 9 = .ok (.if_icmp .ge 55, 3) := by decide +kernel
theorem dX10_lay_12 : decode cX10_lay 12 = .ok (.aload_n 0, 1) := by decide +kernel
theorem dX10_lay_13 : decode cX10_lay 13 = .ok (.iload_n 1, 1) := by decide +kernel
theorem dX10_lay_14 : decode cX10_lay 14 = .ok (.iload_n 3, 1) := by decide +kernel
theorem dX10_lay_15 : decode cX10_lay 15 = .ok (.invokevirtual 178, 3) := by decide +kernel
theorem dX10_lay_18 : decode cX10_lay 18 = .ok (.istore 4, 2) := by decide +kernel
theorem dX10_lay_20 : decode cX10_lay 20 = .ok (.aload_n 0, 1) := by decide +kernel
theorem dX10_lay_21 : decode cX10_lay 21 = .ok (.getfield 34, 3) := by decide +kernel
theorem dX10_lay_24 : decode cX10_lay 24 = .ok (.bipush 30, 2) := by decide +kernel
theorem dX10_lay_26 : decode cX10_lay 26 = .ok (.iload_n 2, 1) := by decide +kernel
theorem dX10_lay_27 : decode cX10_lay 27 = .ok (.imul, 1) := by decide +kernel
theorem dX10_lay_28 : decode cX10_lay 28 = .ok (.iload 4, 2) := by decide +kernel
theorem dX10_lay_30 : decode cX10_lay 30 = .ok (.iadd, 1) := by decide +kernel
theorem dX10_lay_31 : decode cX10_lay 31 = .ok (.iload_n 3, 1) := by decide +kernel
theorem dX10_lay_32 : decode cX10_lay 32 = .ok (.iastore, 1) := by decide +kernel
theorem dX10_lay_33 : decode cX10_lay 33 = .ok (.aload_n 0, 1) := by decide +kernel
theorem dX10_lay_34 : decode cX10_lay 34 = .ok (.getfield 37, 3) := by decide +kernel
theorem dX10_lay_37 : decode cX10_lay 37 = .ok (.bipush 30, 2) := by decide +kernel
theorem dX10_lay_39 : decode cX10_lay 39 = .ok (.iload_n 2, 1) := by decide +kernel
theorem dX10_lay_40 : decode cX10_lay 40 = .ok (.imul, 1) := by decide +kernel
theorem dX10_lay_41 : decode cX10_lay 41 = .ok (.iload 4, 2) := by decide +kernel
theorem dX10_lay_43 : decode cX10_lay 43 = .ok (.iadd, 1) := by decide +kernel
theorem dX10_lay_44 : decode cX10_lay 44 = .ok (.iload 4, 2) := by decide +kernel
theorem dX10_lay_46 : decode cX10_lay 46 = .ok (.aload_n 0, 1) := by decide +kernel
theorem dX10_lay_47 : decode cX10_lay 47 = .ok (.iload_n 1, 1) := by decide +kernel
theorem dX10_lay_48 : decode cX10_lay 48 = .ok (.iload_n 3, 1) := by decide +kernel
theorem dX10_lay_49 : decode cX10_lay 49 = .ok (.invokevirtual 119, 3) := by decide +kernel
theorem dX10_lay_52 : decode cX10_lay 52 = .ok (.iload_n 3, 1) := by decide +kernel
theorem dX10_lay_53 : decode cX10_lay 53 = .ok (.isub, 1) := by decide +kernel
theorem dX10_lay_54 : decode cX10_lay 54 = .ok (.iconst 1, 1) := by decide +kernel
theorem dX10_lay_55 : decode cX10_lay 55 = .ok (.isub, 1) := by decide +kernel
theorem dX10_lay_56 : decode cX10_lay 56 = .ok (.isub, 1) := by decide +kernel
theorem dX10_lay_57 : decode cX10_lay 57 = .ok (.iastore, 1) := by decide +kernel
theorem dX10_lay_58 : decode cX10_lay 58 = .ok (.iinc 3 1, 3) := by decide +kernel
theorem dX10_lay_61 : decode cX10_lay 61 = .ok (.goto (-59), 3) := by decide +kernel
theorem dX10_lay_64 : decode cX10_lay 64 = .ok (.return_, 1) := by decide +kernel
theorem dX10_pairs_0 : decode cX10_pairs 0 = .ok (.aload_n 0, 1) := by decide +kernel
theorem dX10_pairs_1 : decode cX10_pairs 1 = .ok (.iload_n 1, 1) := by decide +kernel
theorem dX10_pairs_2 : decode cX10_pairs 2 = .ok (.iload_n 2, 1) := by decide +kernel
theorem dX10_pairs_3 : decode cX10_pairs 3 = .ok (.iload_n 3, 1) := by decide +kernel
theorem dX10_pairs_4 : decode cX10_pairs 4 = .ok (.iload 4, 2) := by decide +kernel
theorem dX10_pairs_6 : decode cX10_pairs 6 = .ok (.iconst 3, 1) := by decide +kernel
theorem dX10_pairs_7 : decode cX10_pairs 7 = .ok (.invokevirtual 122, 3) := by decide +kernel
theorem dX10_pairs_10 : decode cX10_pairs 10 = .ok (.istore 5, 2) := by decide +kernel
theorem dX10_pairs_12 : decode cX10_pairs 12 = .ok (.aload_n 0, 1) := by decide +kernel
theorem dX10_pairs_13 : decode cX10_pairs 13 = .ok (.iload_n 1, 1) := by decide +kernel
theorem dX10_pairs_14 : decode cX10_pairs 14 = .ok (.iload_n 2, 1) := by decide +kernel
theorem dX10_pairs_15 : decode cX10_pairs 15 = .ok (.iload_n 3, 1) := by decide +kernel
theorem dX10_pairs_16 : decode cX10_pairs 16 = .ok (.iload 4, 2) := by decide +kernel
theorem dX10_pairs_18 : decode cX10_pairs 18 = .ok (.bipush 10, 2) := by decide +kernel
theorem dX10_pairs_20 : decode cX10_pairs 20 = .ok (.invokevirtual 122, 3) := by decide +kernel
theorem dX10_pairs_23 : decode cX10_pairs 23 = .ok (.istore 6, 2) := by decide +kernel
theorem dX10_pairs_25 : decode cX10_pairs 25 = .ok (.aload_n 0, 1) := by decide +kernel
theorem dX10_pairs_26 : decode cX10_pairs 26 = .ok (.iload_n 1, 1) := by decide +kernel
theorem dX10_pairs_27 : decode cX10_pairs 27 = .ok (.iload_n 2, 1) := by decide +kernel
theorem dX10_pairs_28 : decode cX10_pairs 28 = .ok (.iconst 1, 1) := by decide +kernel
theorem dX10_pairs_29 : decode cX10_pairs 29 = .ok (.invokevirtual 104, 3) := by decide +kernel
theorem dX10_pairs_32 : decode cX10_pairs 32 = .ok (.aload_n 0, 1) := by decide +kernel
theorem dX10_pairs_33 : decode cX10_pairs 33 = .ok (.iload_n 3, 1) := by decide +kernel
theorem dX10_pairs_34 : decode cX10_pairs 34 = .ok (.iload 4, 2) := by decide +kernel
theorem dX10_pairs_36 : decode cX10_pairs 36 = .ok (.iconst 1, 1) := by decide +kernel
theorem dX10_pairs_37 : decode cX10_pairs 37 = .ok (.invokevirtual 104, 3) := by decide +kernel
theorem dX10_pairs_40 : decode cX10_pairs 40 = .ok (.if_icmp .ne 24, 3) := by decide +kernel
theorem dX10_pairs_43 : decode cX10_pairs 43 = .ok (.aload_n 0, 1) := by decide +kernel
theorem dX10_pairs_44 : decode cX10_pairs 44 = .ok (.iload_n 1, 1) := by decide +kernel
theorem dX10_pairs_45 : decode cX10_pairs 45 = .ok (.iload_n 2, 1) := by decide +kernel
theorem dX10_pairs_46 : decode cX10_pairs 46 = .ok (.iconst 1, 1) := by decide +kernel
theorem dX10_pairs_47 : decode cX10_pairs 47 = .ok (.invokevirtual 104, 3) := by decide +kernel
theorem dX10_pairs_50 : decode cX10_pairs 50 = .ok (.iconst 3, 1) := by decide +kernel
theorem dX10_pairs_51 : decode cX10_pairs 51 = .ok (.if_icmp .ne 16, 3) := by decide +kernel
theorem dX10_pairs_54 : decode cX10_pairs 54 = .ok (.iload 5, 2) := by decide +kernel
theorem dX10_pairs_56 : decode cX10_pairs 56 = .ok (.ifCond .eq 8, 3) := by decide +kernel
theorem dX10_pairs_59 : decode cX10_pairs 59 = .ok (.iload 6, 2) := by decide +kernel
theorem dX10_pairs_61 : decode cX10_pairs 61 = .ok (.ifCond .ne 6, 3) := by decide +kernel
theorem dX10_pairs_64 : decode cX10_pairs 64 = .ok (.ldc 197, 2) := by decide +kernel
theorem dX10_pairs_66 : decode cX10_pairs 66 = .ok (.ireturn, 1) := by decide +kernel
theorem dX10_pairs_67 : decode cX10_pairs 67 = .ok (.iload 5, 2) := by decide +kernel
theorem dX10_pairs_69 : decode cX10_pairs 69 = .ok (.ifCond .eq 7, 3) := by decide +kernel
theorem dX10_pairs_72 : decode cX10_pairs 72 = .ok (.iconst 0, 1) := by decide +kernel
theorem dX10_pairs_73 : decode cX10_pairs 73 = .ok (.goto 9, 3) := by decide +kernel
theorem dX10_pairs_76 : decode cX10_pairs 76 = .ok (.aload_n 0, 1) := by decide +kernel
theorem dX10_pairs_77 : decode cX10_pairs 77 = .ok (.getfield 22, 3) := by decide +kernel
theorem dX10_pairs_80 : decode cX10_pairs 80 = .ok (.iconst 0, 1) := by decide +kernel
theorem dX10_pairs_81 : decode cX10_pairs 81 = .ok (.iaload, 1) := by decide +kernel
theorem dX10_pairs_82 : decode cX10_pairs 82 = .ok (.iload 6, 2) := by decide +kernel
theorem dX10_pairs_84 : decode cX10_pairs 84 = .ok (.ifCond .eq 7, 3) := by decide +kernel
theorem dX10_pairs_87 : decode cX10_pairs 87 = .ok (.iconst 0, 1) := by decide +kernel
theorem dX10_pairs_88 : decode cX10_pairs 88 = .ok (.goto 9, 3) := by decide +kernel
theorem dX10_pairs_91 : decode cX10_pairs 91 = .ok (.aload_n 0, 1) := by decide +kernel
theorem dX10_pairs_92 : decode cX10_pairs 92 = .ok (.getfield 22, 3) := by decide +kernel
theorem dX10_pairs_95 : decode cX10_pairs 95 = .ok (.iconst 1, 1) := by decide +kernel
theorem dX10_pairs_96 : decode cX10_pairs 96 = .ok (.iaload, 1) := by decide +kernel
theorem dX10_pairs_97 : decode cX10_pairs 97 = .ok (.iadd, 1) := by decide +kernel
theorem dX10_pairs_98 : decode cX10_pairs 98 = .ok (.ireturn, 1) := by decide +kernel
theorem dX10_cell_0 : decode cX10_cell 0 = .ok (.iload_n 0, 1) := by decide +kernel
theorem dX10_cell_1 : decode cX10_cell 1 = .ok (.bipush 31, 2) := by decide +kernel
theorem dX10_cell_3 : decode cX10_cell 3 = .ok (.imul, 1) := by decide +kernel
theorem dX10_cell_4 : decode cX10_cell 4 = .ok (.iload_n 1, 1) := by decide +kernel
theorem dX10_cell_5 : decode cX10_cell 5 = .ok (.iadd, 1) := by decide +kernel
theorem dX10_cell_6 : decode cX10_cell 6 = .ok (.bipush 31, 2) := by decide +kernel
theorem dX10_cell_8 : decode cX10_cell 8 = .ok (.imul, 1) := by decide +kernel
theorem dX10_cell_9 : decode cX10_cell 9 = .ok (.iload_n 2, 1) := by decide +kernel
theorem dX10_cell_10 : decode cX10_cell 10 = .ok (.iadd, 1) := by decide +kernel
theorem dX10_cell_11 : decode cX10_cell 11 = .ok (.bipush 31, 2) := by decide +kernel
theorem dX10_cell_13 : decode cX10_cell 13 = .ok (.imul, 1) := by decide +kernel
theorem dX10_cell_14 : decode cX10_cell 14 = .ok (.iload_n 3, 1) := by decide +kernel
theorem dX10_cell_15 : decode cX10_cell 15 = .ok (.iadd, 1) := by decide +kernel
theorem dX10_cell_16 : decode cX10_cell 16 = .ok (.ireturn, 1) := by decide +kernel
theorem dX10_reckon_0 : decode cX10_reckon 0 = .ok (.aload_n 0, 1) := by decide +kernel
theorem dX10_reckon_1 : decode cX10_reckon 1 = .ok (.iload_n 1, 1) := by decide +kernel
theorem dX10_reckon_2 : decode cX10_reckon 2 = .ok (.iconst 0, 1) := by decide +kernel
theorem dX10_reckon_3 : decode cX10_reckon 3 = .ok (.invokevirtual 198, 3) := by decide +kernel
theorem dX10_reckon_6 : decode cX10_reckon 6 = .ok (.aload_n 0, 1) := by decide +kernel
theorem dX10_reckon_7 : decode cX10_reckon 7 = .ok (.iload_n 2, 1) := by decide +kernel
theorem dX10_reckon_8 : decode cX10_reckon 8 = .ok (.iconst 1, 1) := by decide +kernel
theorem dX10_reckon_9 : decode cX10_reckon 9 = .ok (.invokevirtual 198, 3) := by decide +kernel
theorem dX10_reckon_12 : decode cX10_reckon 12 = .ok (.aload_n 0, 1) := by decide +kernel
theorem dX10_reckon_13 : decode cX10_reckon 13 = .ok (.getfield 13, 3) := by decide +kernel
theorem dX10_reckon_16 : decode cX10_reckon 16 = .ok (.iload_n 1, 1) := by decide +kernel
theorem dX10_reckon_17 : decode cX10_reckon 17 = .ok (.iaload, 1) := by decide +kernel
theorem dX10_reckon_18 : decode cX10_reckon 18 = .ok (.istore_n 3, 1) := by decide +kernel
theorem dX10_reckon_19 : decode cX10_reckon 19 = .ok (.iload_n 3, 1) := by decide +kernel
theorem dX10_reckon_20 : decode cX10_reckon 20 = .ok (.ifCond .lt 227, 3) := by decide +kernel
theorem dX10_reckon_23 : decode cX10_reckon 23 = .ok (.aload_n 0, 1) := by decide +kernel
theorem dX10_reckon_24 : decode cX10_reckon 24 = .ok (.getfield 13, 3) := by decide +kernel
theorem dX10_reckon_27 : decode cX10_reckon 27 = .ok (.iload_n 2, 1) := by decide +kernel
theorem dX10_reckon_28 : decode cX10_reckon 28 = .ok (.iaload, 1) := by decide +kernel
theorem dX10_reckon_29 : decode cX10_reckon 29 = .ok (.istore 4, 2) := by decide +kernel
theorem dX10_reckon_31 : decode cX10_reckon 31 = .ok (.iload 4, 2) := by decide +kernel
theorem dX10_reckon_33 : decode cX10_reckon 33 = .ok (.ifCond .lt 208, 3) := by decide +kernel
theorem dX10_reckon_36 : decode cX10_reckon 36 = .ok (.iconst 0, 1) := by decide +kernel
theorem dX10_reckon_37 : decode cX10_reckon 37 = .ok (.istore 5, 2) := by decide +kernel
theorem dX10_reckon_39 : decode cX10_reckon 39 = .ok (.iload_n 3, 1) := by decide +kernel
theorem dX10_reckon_40 : decode cX10_reckon 40 = .ok (.iload 5, 2) := by decide +kernel
theorem dX10_reckon_42 : decode cX10_reckon 42 = .ok (.iadd, 1) := by decide +kernel
theorem dX10_reckon_43 : decode cX10_reckon 43 = .ok (.aload_n 0, 1) := by decide +kernel
theorem dX10_reckon_44 : decode cX10_reckon 44 = .ok (.getfield 13, 3) := by decide +kernel
theorem dX10_reckon_47 : decode cX10_reckon 47 = .ok (.iload_n 1, 1) := by decide +kernel
theorem dX10_reckon_48 : decode cX10_reckon 48 = .ok (.iaload, 1) := by decide +kernel
theorem dX10_reckon_49 : decode cX10_reckon 49 = .ok (.if_icmp .gt 186, 3) := by decide +kernel
theorem dX10_reckon_52 : decode cX10_reckon 52 = .ok (.iconst 0, 1) := by decide +kernel
theorem dX10_reckon_53 : decode cX10_reckon 53 = .ok (.istore 6, 2) := by decide +kernel
theorem dX10_reckon_55 : decode cX10_reckon 55 = .ok (.iload 4, 2) := by decide +kernel
theorem dX10_reckon_57 : decode cX10_reckon 57 = .ok (.iload 6, 2) := by decide +kernel
theorem dX10_reckon_59 : decode cX10_reckon 59 = .ok (.iadd, 1) := by decide +kernel
theorem dX10_reckon_60 : decode cX10_reckon 60 = .ok (.aload_n 0, 1) := by decide +kernel
theorem dX10_reckon_61 : decode cX10_reckon 61 = .ok (.getfield 13, 3) := by decide +kernel
theorem dX10_reckon_64 : decode cX10_reckon 64 = .ok (.iload_n 2, 1) := by decide +kernel
theorem dX10_reckon_65 : decode cX10_reckon 65 = .ok (.iaload, 1) := by decide +kernel
theorem dX10_reckon_66 : decode cX10_reckon 66 = .ok (.if_icmp .gt 163, 3) := by decide +kernel
theorem dX10_reckon_69 : decode cX10_reckon 69 = .ok (.iload_n 3, 1) := by decide +kernel
theorem dX10_reckon_70 : decode cX10_reckon 70 = .ok (.iload 5, 2) := by decide +kernel
theorem dX10_reckon_72 : decode cX10_reckon 72 = .ok (.iadd, 1) := by decide +kernel
theorem dX10_reckon_73 : decode cX10_reckon 73 = .ok (.iconst 1, 1) := by decide +kernel
theorem dX10_reckon_74 : decode cX10_reckon 74 = .ok (.isub, 1) := by decide +kernel
theorem dX10_reckon_75 : decode cX10_reckon 75 = .ok (.istore 7, 2) := by decide +kernel
theorem dX10_reckon_77 : decode cX10_reckon 77 = .ok (.iload 4, 2) := by decide +kernel
theorem dX10_reckon_79 : decode cX10_reckon 79 = .ok (.iload 6, 2) := by decide +kernel
theorem dX10_reckon_81 : decode cX10_reckon 81 = .ok (.iadd, 1) := by decide +kernel
theorem dX10_reckon_82 : decode cX10_reckon 82 = .ok (.iconst 1, 1) := by decide +kernel
theorem dX10_reckon_83 : decode cX10_reckon 83 = .ok (.isub, 1) := by decide +kernel
theorem dX10_reckon_84 : decode cX10_reckon 84 = .ok (.istore 8, 2) := by decide +kernel
theorem dX10_reckon_86 : decode cX10_reckon 86 = .ok (.iload 5, 2) := by decide +kernel
theorem dX10_reckon_88 : decode cX10_reckon 88 = .ok (.ifCond .ne 12, 3) := by decide +kernel
theorem dX10_reckon_91 : decode cX10_reckon 91 = .ok (.iload 6, 2) := by decide +kernel
theorem dX10_reckon_93 : decode cX10_reckon 93 = .ok (.ifCond .ne 7, 3) := by decide +kernel
theorem dX10_reckon_96 : decode cX10_reckon 96 = .ok (.iconst 0, 1) := by decide +kernel
theorem dX10_reckon_97 : decode cX10_reckon 97 = .ok (.goto 5, 3) := by decide +kernel
theorem dX10_reckon_100 : decode cX10_reckon 100 = .ok (.ldc 197, 2) := by decide +kernel
theorem dX10_reckon_102 : decode cX10_reckon 102 = .ok (.istore 9, 2) := by decide +kernel
theorem dX10_reckon_104 : decode cX10_reckon 104 = .ok (.iload 5, 2) := by decide +kernel
theorem dX10_reckon_106 : decode cX10_reckon 106 = .ok (.ifCond .le 34, 3) := by decide +kernel
theorem dX10_reckon_109 : decode cX10_reckon 109 = .ok (.iload 9, 2) := by decide +kernel
theorem dX10_reckon_111 : decode cX10_reckon 111 = .ok (.aload_n 0, 1) := by decide +kernel
theorem dX10_reckon_112 : decode cX10_reckon 112 = .ok (.getfield 41, 3) := by decide +kernel
theorem dX10_reckon_115 : decode cX10_reckon 115 = .ok (.iload_n 3, 1) := by decide +kernel
theorem dX10_reckon_116 : decode cX10_reckon 116 = .ok (.iload 5, 2) := by decide +kernel
theorem dX10_reckon_118 : decode cX10_reckon 118 = .ok (.iconst 1, 1) := by decide +kernel
theorem dX10_reckon_119 : decode cX10_reckon 119 = .ok (.isub, 1) := by decide +kernel
theorem dX10_reckon_120 : decode cX10_reckon 120 = .ok (.iload 4, 2) := by decide +kernel
theorem dX10_reckon_122 : decode cX10_reckon 122 = .ok (.iload 6, 2) := by decide +kernel
theorem dX10_reckon_124 : decode cX10_reckon 124 = .ok (.invokestatic 201, 3) := by decide +kernel
theorem dX10_reckon_127 : decode cX10_reckon 127 = .ok (.iaload, 1) := by decide +kernel
theorem dX10_reckon_128 : decode cX10_reckon 128 = .ok (.aload_n 0, 1) := by decide +kernel
theorem dX10_reckon_129 : decode cX10_reckon 129 = .ok (.getfield 22, 3) := by decide +kernel
theorem dX10_reckon_132 : decode cX10_reckon 132 = .ok (.iconst 3, 1) := by decide +kernel
theorem dX10_reckon_133 : decode cX10_reckon 133 = .ok (.iaload, 1) := by decide +kernel
theorem dX10_reckon_134 : decode cX10_reckon 134 = .ok (.iadd, 1) := by decide +kernel
theorem dX10_reckon_135 : decode cX10_reckon 135 = .ok (.invokestatic 205, 3) := by decide +kernel
theorem dX10_reckon_138 : decode cX10_reckon 138 = .ok (.istore 9, 2) := by decide +kernel
theorem dX10_reckon_140 : decode cX10_reckon 140 = .ok (.iload 6, 2) := by decide +kernel
theorem dX10_reckon_142 : decode cX10_reckon 142 = .ok (.ifCond .le 34, 3) := by decide +kernel
theorem dX10_reckon_145 : decode cX10_reckon 145 = .ok (.iload 9, 2) := by decide +kernel
theorem dX10_reckon_147 : decode cX10_reckon 147 = .ok (.aload_n 0, 1) := by decide +kernel
theorem dX10_reckon_148 : decode cX10_reckon 148 = .ok (.getfield 41, 3) := by decide +kernel
theorem dX10_reckon_151 : decode cX10_reckon 151 = .ok (.iload_n 3, 1) := by decide +kernel
theorem dX10_reckon_152 : decode cX10_reckon 152 = .ok (.iload 5, 2) := by decide +kernel
theorem dX10_reckon_154 : decode cX10_reckon 154 = .ok (.iload 4, 2) := by decide +kernel
theorem dX10_reckon_156 : decode cX10_reckon 156 = .ok (.iload 6, 2) := by decide +kernel
theorem dX10_reckon_158 : decode cX10_reckon 158 = .ok (.iconst 1, 1) := by decide +kernel
theorem dX10_reckon_159 : decode cX10_reckon 159 = .ok (.isub, 1) := by decide +kernel
theorem dX10_reckon_160 : decode cX10_reckon 160 = .ok (.invokestatic 201, 3) := by decide +kernel
theorem dX10_reckon_163 : decode cX10_reckon 163 = .ok (.iaload, 1) := by decide +kernel
theorem dX10_reckon_164 : decode cX10_reckon 164 = .ok (.aload_n 0, 1) := by decide +kernel
theorem dX10_reckon_165 : decode cX10_reckon 165 = .ok (.getfield 22, 3) := by decide +kernel
theorem dX10_reckon_168 : decode cX10_reckon 168 = .ok (.iconst 2, 1) := by decide +kernel
theorem dX10_reckon_169 : decode cX10_reckon 169 = .ok (.iaload, 1) := by decide +kernel
theorem dX10_reckon_170 : decode cX10_reckon 170 = .ok (.iadd, 1) := by decide +kernel
theorem dX10_reckon_171 : decode cX10_reckon 171 = .ok (.invokestatic 205, 3) := by decide +kernel
theorem dX10_reckon_174 : decode cX10_reckon 174 = .ok (.istore 9, 2) := by decide +kernel
theorem dX10_reckon_176 : decode cX10_reckon 176 = .ok (.iload 5, 2) := by decide +kernel
theorem dX10_reckon_178 : decode cX10_reckon 178 = .ok (.ifCond .le 28, 3) := by decide +kernel
theorem dX10_reckon_181 : decode cX10_reckon 181 = .ok (.iload 6, 2) := by decide +kernel
theorem dX10_reckon_183 : decode cX10_reckon 183 = .ok (.ifCond .le 23, 3) := by decide +kernel
theorem dX10_reckon_186 : decode cX10_reckon 186 = .ok (.iload 9, 2) := by decide +kernel
theorem dX10_reckon_188 : decode cX10_reckon 188 = .ok (.aload_n 0, 1) := by decide +kernel
theorem dX10_reckon_189 : decode cX10_reckon 189 = .ok (.iload_n 1, 1) := by decide +kernel
theorem dX10_reckon_190 : decode cX10_reckon 190 = .ok (.iload_n 2, 1) := by decide +kernel
theorem dX10_reckon_191 : decode cX10_reckon 191 = .ok (.iload_n 3, 1) := by decide +kernel
theorem dX10_reckon_192 : decode cX10_reckon 192 = .ok (.iload 7, 2) := by decide +kernel
theorem dX10_reckon_194 : decode cX10_reckon 194 = .ok (.iload 4, 2) := by decide +kernel
theorem dX10_reckon_196 : decode cX10_reckon 196 = .ok (.iload 8, 2) := by decide +kernel
theorem dX10_reckon_198 : decode cX10_reckon 198 = .ok (.invokevirtual 208, 3) := by decide +kernel
theorem dX10_reckon_201 : decode cX10_reckon 201 = .ok (.invokestatic 205, 3) := by decide +kernel
theorem dX10_reckon_204 : decode cX10_reckon 204 = .ok (.istore 9, 2) := by decide +kernel
theorem dX10_reckon_206 : decode cX10_reckon 206 = .ok (.aload_n 0, 1) := by decide +kernel
theorem dX10_reckon_207 : decode cX10_reckon 207 = .ok (.getfield 41, 3) := by decide +kernel
theorem dX10_reckon_210 : decode cX10_reckon 210 = .ok (.iload_n 3, 1) := by decide +kernel
theorem dX10_reckon_211 : decode cX10_reckon 211 = .ok (.iload 5, 2) := by decide +kernel
theorem dX10_reckon_213 : decode cX10_reckon 213 = .ok (.iload 4, 2) := by decide +kernel
theorem dX10_reckon_215 : decode cX10_reckon 215 = .ok (.iload 6, 2) := by decide +kernel
theorem dX10_reckon_217 : decode cX10_reckon 217 = .ok (.invokestatic 201, 3) := by decide +kernel
theorem dX10_reckon_220 : decode cX10_reckon 220 = .ok (.iload 9, 2) := by decide +kernel
theorem dX10_reckon_222 : decode cX10_reckon 222 = .ok (.iastore, 1) := by decide +kernel
theorem dX10_reckon_223 : decode cX10_reckon 223 = .ok (.iinc 6 1, 3) := by decide +kernel
theorem dX10_reckon_226 : decode cX10_reckon 226 = .ok (.goto (-171), 3) := by decide +kernel
theorem dX10_reckon_229 : decode cX10_reckon 229 = .ok (.iinc 5 1, 3) := by decide +kernel
theorem dX10_reckon_232 : decode cX10_reckon 232 = .ok (.goto (-193), 3) := by decide +kernel
theorem dX10_reckon_235 : decode cX10_reckon 235 = .ok (.iinc 4 (-1), 3) := by decide +kernel
theorem dX10_reckon_238 : decode cX10_reckon 238 = .ok (.goto (-207), 3) := by decide +kernel
theorem dX10_reckon_241 : decode cX10_reckon 241 = .ok (.iinc 3 (-1), 3) := by decide +kernel
theorem dX10_reckon_244 : decode cX10_reckon 244 = .ok (.goto (-225), 3) := by decide +kernel
theorem dX10_reckon_247 : decode cX10_reckon 247 = .ok (.return_, 1) := by decide +kernel
theorem dX10_byPair_0 : decode cX10_byPair 0 = .ok (.aload_n 0, 1) := by decide +kernel
theorem dX10_byPair_1 : decode cX10_byPair 1 = .ok (.getfield 37, 3) := by decide +kernel
theorem dX10_byPair_4 : decode cX10_byPair 4 = .ok (.iload 4, 2) := by decide +kernel
theorem dX10_byPair_6 : decode cX10_byPair 6 = .ok (.iaload, 1) := by decide +kernel
theorem dX10_byPair_7 : decode cX10_byPair 7 = .ok (.istore 7, 2) := by decide +kernel
theorem dX10_byPair_9 : decode cX10_byPair 9 = .ok (.aload_n 0, 1) := by decide +kernel
theorem dX10_byPair_10 : decode cX10_byPair 10 = .ok (.getfield 37, 3) := by decide +kernel
theorem dX10_byPair_13 : decode cX10_byPair 13 = .ok (.bipush 30, 2) := by decide +kernel
theorem dX10_byPair_15 : decode cX10_byPair 15 = .ok (.iload 6, 2) := by decide +kernel
theorem dX10_byPair_17 : decode cX10_byPair 17 = .ok (.iadd, 1) := by decide +kernel
theorem dX10_byPair_18 : decode cX10_byPair 18 = .ok (.iaload, 1) := by decide +kernel
theorem dX10_byPair_19 : decode cX10_byPair 19 = .ok (.istore 8, 2) := by decide +kernel
theorem dX10_byPair_21 : decode cX10_byPair 21 = .ok (.iload 7, 2) := by decide +kernel
theorem dX10_byPair_23 : decode cX10_byPair 23 = .ok (.iload_n 3, 1) := by decide +kernel
theorem dX10_byPair_24 : decode cX10_byPair 24 = .ok (.if_icmp .lt 10, 3) := by decide +kernel
theorem dX10_byPair_27 : decode cX10_byPair 27 = .ok (.iload 8, 2) := by decide +kernel
theorem dX10_byPair_29 : decode cX10_byPair 29 = .ok (.iload 5, 2) := by decide +kernel
theorem dX10_byPair_31 : decode cX10_byPair 31 = .ok (.if_icmp .ge 6, 3) := by decide +kernel
theorem dX10_byPair_34 : decode cX10_byPair 34 = .ok (.ldc 197, 2) := by decide +kernel
theorem dX10_byPair_36 : decode cX10_byPair 36 = .ok (.ireturn, 1) := by decide +kernel
theorem dX10_byPair_37 : decode cX10_byPair 37 = .ok (.aload_n 0, 1) := by decide +kernel
theorem dX10_byPair_38 : decode cX10_byPair 38 = .ok (.iload_n 1, 1) := by decide +kernel
theorem dX10_byPair_39 : decode cX10_byPair 39 = .ok (.aload_n 0, 1) := by decide +kernel
theorem dX10_byPair_40 : decode cX10_byPair 40 = .ok (.getfield 34, 3) := by decide +kernel
theorem dX10_byPair_43 : decode cX10_byPair 43 = .ok (.iload 4, 2) := by decide +kernel
theorem dX10_byPair_45 : decode cX10_byPair 45 = .ok (.iaload, 1) := by decide +kernel
theorem dX10_byPair_46 : decode cX10_byPair 46 = .ok (.iload_n 2, 1) := by decide +kernel
theorem dX10_byPair_47 : decode cX10_byPair 47 = .ok (.aload_n 0, 1) := by decide +kernel
theorem dX10_byPair_48 : decode cX10_byPair 48 = .ok (.getfield 34, 3) := by decide +kernel
theorem dX10_byPair_51 : decode cX10_byPair 51 = .ok (.bipush 30, 2) := by decide +kernel
theorem dX10_byPair_53 : decode cX10_byPair 53 = .ok (.iload 6, 2) := by decide +kernel
theorem dX10_byPair_55 : decode cX10_byPair 55 = .ok (.iadd, 1) := by decide +kernel
theorem dX10_byPair_56 : decode cX10_byPair 56 = .ok (.iaload, 1) := by decide +kernel
theorem dX10_byPair_57 : decode cX10_byPair 57 = .ok (.invokevirtual 212, 3) := by decide +kernel
theorem dX10_byPair_60 : decode cX10_byPair 60 = .ok (.istore 9, 2) := by decide +kernel
theorem dX10_byPair_62 : decode cX10_byPair 62 = .ok (.iload 9, 2) := by decide +kernel
theorem dX10_byPair_64 : decode cX10_byPair 64 = .ok (.ldc 197, 2) := by decide +kernel
theorem dX10_byPair_66 : decode cX10_byPair 66 = .ok (.if_icmp .ne 6, 3) := by decide +kernel
theorem dX10_byPair_69 : decode cX10_byPair 69 = .ok (.ldc 197, 2) := by decide +kernel
theorem dX10_byPair_71 : decode cX10_byPair 71 = .ok (.ireturn, 1) := by decide +kernel
theorem dX10_byPair_72 : decode cX10_byPair 72 = .ok (.aload_n 0, 1) := by decide +kernel
theorem dX10_byPair_73 : decode cX10_byPair 73 = .ok (.getfield 41, 3) := by decide +kernel
theorem dX10_byPair_76 : decode cX10_byPair 76 = .ok (.iload 7, 2) := by decide +kernel
theorem dX10_byPair_78 : decode cX10_byPair 78 = .ok (.iload 4, 2) := by decide +kernel
theorem dX10_byPair_80 : decode cX10_byPair 80 = .ok (.iload 7, 2) := by decide +kernel
theorem dX10_byPair_82 : decode cX10_byPair 82 = .ok (.isub, 1) := by decide +kernel
theorem dX10_byPair_83 : decode cX10_byPair 83 = .ok (.iload 8, 2) := by decide +kernel
theorem dX10_byPair_85 : decode cX10_byPair 85 = .ok (.iload 6, 2) := by decide +kernel
theorem dX10_byPair_87 : decode cX10_byPair 87 = .ok (.iload 8, 2) := by decide +kernel
theorem dX10_byPair_89 : decode cX10_byPair 89 = .ok (.isub, 1) := by decide +kernel
theorem dX10_byPair_90 : decode cX10_byPair 90 = .ok (.invokestatic 201, 3) := by decide +kernel
theorem dX10_byPair_93 : decode cX10_byPair 93 = .ok (.iaload, 1) := by decide +kernel
theorem dX10_byPair_94 : decode cX10_byPair 94 = .ok (.aload_n 0, 1) := by decide +kernel
theorem dX10_byPair_95 : decode cX10_byPair 95 = .ok (.getfield 41, 3) := by decide +kernel
theorem dX10_byPair_98 : decode cX10_byPair 98 = .ok (.iload_n 3, 1) := by decide +kernel
theorem dX10_byPair_99 : decode cX10_byPair 99 = .ok (.iload 7, 2) := by decide +kernel
theorem dX10_byPair_101 : decode cX10_byPair 101 = .ok (.iload_n 3, 1) := by decide +kernel
theorem dX10_byPair_102 : decode cX10_byPair 102 = .ok (.isub, 1) := by decide +kernel
theorem dX10_byPair_103 : decode cX10_byPair 103 = .ok (.iload 5, 2) := by decide +kernel
theorem dX10_byPair_105 : decode cX10_byPair 105 = .ok (.iload 8, 2) := by decide +kernel
theorem dX10_byPair_107 : decode cX10_byPair 107 = .ok (.iload 5, 2) := by decide +kernel
theorem dX10_byPair_109 : decode cX10_byPair 109 = .ok (.isub, 1) := by decide +kernel
theorem dX10_byPair_110 : decode cX10_byPair 110 = .ok (.invokestatic 201, 3) := by decide +kernel
theorem dX10_byPair_113 : decode cX10_byPair 113 = .ok (.iaload, 1) := by decide +kernel
theorem dX10_byPair_114 : decode cX10_byPair 114 = .ok (.iadd, 1) := by decide +kernel
theorem dX10_byPair_115 : decode cX10_byPair 115 = .ok (.iload 9, 2) := by decide +kernel
theorem dX10_byPair_117 : decode cX10_byPair 117 = .ok (.iadd, 1) := by decide +kernel
theorem dX10_byPair_118 : decode cX10_byPair 118 = .ok (.ireturn, 1) := by decide +kernel
theorem dX10_lesser_0 : decode cX10_lesser 0 = .ok (.iload_n 0, 1) := by decide +kernel
theorem dX10_lesser_1 : decode cX10_lesser 1 = .ok (.iload_n 1, 1) := by decide +kernel
theorem dX10_lesser_2 : decode cX10_lesser 2 = .ok (.if_icmp .ge 7, 3) := by decide +kernel
theorem dX10_lesser_5 : decode cX10_lesser 5 = .ok (.iload_n 0, 1) := by decide +kernel
theorem dX10_lesser_6 : decode cX10_lesser 6 = .ok (.goto 4, 3) := by decide +kernel
theorem dX10_lesser_9 : decode cX10_lesser 9 = .ok (.iload_n 1, 1) := by decide +kernel
theorem dX10_lesser_10 : decode cX10_lesser 10 = .ok (.ireturn, 1) := by decide +kernel
theorem dX10_distance_0 : decode cX10_distance 0 = .ok (.aload_n 0, 1) := by decide +kernel
theorem dX10_distance_1 : decode cX10_distance 1 = .ok (.iload_n 1, 1) := by decide +kernel
theorem dX10_distance_2 : decode cX10_distance 2 = .ok (.invokevirtual 161, 3) := by decide +kernel
theorem dX10_distance_5 : decode cX10_distance 5 = .ok (.istore_n 3, 1) := by decide +kernel
theorem dX10_distance_6 : decode cX10_distance 6 = .ok (.iload_n 3, 1) := by decide +kernel
theorem dX10_distance_7 : decode cX10_distance 7 = .ok (.ifCond .ge 9, 3) := by decide +kernel
theorem dX10_distance_10 : decode cX10_distance 10 = .ok (.aload_n 0, 1) := by decide +kernel
theorem dX10_distance_11 : decode cX10_distance 11 = .ok (.iload_n 3, 1) := by decide +kernel
theorem dX10_distance_12 : decode cX10_distance 12 = .ok (.invokevirtual 126, 3) := by decide +kernel
theorem dX10_distance_15 : decode cX10_distance 15 = .ok (.ireturn, 1) := by decide +kernel
theorem dX10_distance_16 : decode cX10_distance 16 = .ok (.aload_n 0, 1) := by decide +kernel
theorem dX10_distance_17 : decode cX10_distance 17 = .ok (.iload_n 2, 1) := by decide +kernel
theorem dX10_distance_18 : decode cX10_distance 18 = .ok (.invokevirtual 161, 3) := by decide +kernel
theorem dX10_distance_21 : decode cX10_distance 21 = .ok (.istore_n 3, 1) := by decide +kernel
theorem dX10_distance_22 : decode cX10_distance 22 = .ok (.iload_n 3, 1) := by decide +kernel
theorem dX10_distance_23 : decode cX10_distance 23 = .ok (.ifCond .ge 9, 3) := by decide +kernel
theorem dX10_distance_26 : decode cX10_distance 26 = .ok (.aload_n 0, 1) := by decide +kernel
theorem dX10_distance_27 : decode cX10_distance 27 = .ok (.iload_n 3, 1) := by decide +kernel
theorem dX10_distance_28 : decode cX10_distance 28 = .ok (.invokevirtual 126, 3) := by decide +kernel
theorem dX10_distance_31 : decode cX10_distance 31 = .ok (.ireturn, 1) := by decide +kernel
theorem dX10_distance_32 : decode cX10_distance 32 = .ok (.aload_n 0, 1) := by decide +kernel
theorem dX10_distance_33 : decode cX10_distance 33 = .ok (.iload_n 1, 1) := by decide +kernel
theorem dX10_distance_34 : decode cX10_distance 34 = .ok (.iload_n 2, 1) := by decide +kernel
theorem dX10_distance_35 : decode cX10_distance 35 = .ok (.invokevirtual 215, 3) := by decide +kernel
theorem dX10_distance_38 : decode cX10_distance 38 = .ok (.aload_n 0, 1) := by decide +kernel
theorem dX10_distance_39 : decode cX10_distance 39 = .ok (.getfield 41, 3) := by decide +kernel
theorem dX10_distance_42 : decode cX10_distance 42 = .ok (.iconst 0, 1) := by decide +kernel
theorem dX10_distance_43 : decode cX10_distance 43 = .ok (.aload_n 0, 1) := by decide +kernel
theorem dX10_distance_44 : decode cX10_distance 44 = .ok (.getfield 13, 3) := by decide +kernel
theorem dX10_distance_47 : decode cX10_distance 47 = .ok (.iload_n 1, 1) := by decide +kernel
theorem dX10_distance_48 : decode cX10_distance 48 = .ok (.iaload, 1) := by decide +kernel
theorem dX10_distance_49 : decode cX10_distance 49 = .ok (.iconst 0, 1) := by decide +kernel
theorem dX10_distance_50 : decode cX10_distance 50 = .ok (.aload_n 0, 1) := by decide +kernel
theorem dX10_distance_51 : decode cX10_distance 51 = .ok (.getfield 13, 3) := by decide +kernel
theorem dX10_distance_54 : decode cX10_distance 54 = .ok (.iload_n 2, 1) := by decide +kernel
theorem dX10_distance_55 : decode cX10_distance 55 = .ok (.iaload, 1) := by decide +kernel
theorem dX10_distance_56 : decode cX10_distance 56 = .ok (.invokestatic 201, 3) := by decide +kernel
theorem dX10_distance_59 : decode cX10_distance 59 = .ok (.iaload, 1) := by decide +kernel
theorem dX10_distance_60 : decode cX10_distance 60 = .ok (.ireturn, 1) := by decide +kernel
theorem dX10_adds_0 : decode cX10_adds 0 = .ok (.aload_n 0, 1) := by decide +kernel
theorem dX10_adds_1 : decode cX10_adds 1 = .ok (.getfield 72, 3) := by decide +kernel
theorem dX10_adds_4 : decode cX10_adds 4 = .ok (.aload_n 0, 1) := by decide +kernel
theorem dX10_adds_5 : decode cX10_adds 5 = .ok (.getfield 218, 3) := by decide +kernel
theorem dX10_adds_8 : decode cX10_adds 8 = .ok (.iload_n 1, 1) := by decide +kernel
theorem dX10_adds_9 : decode cX10_adds 9 = .ok (.iastore, 1) := by decide +kernel
theorem dX10_adds_10 : decode cX10_adds 10 = .ok (.aload_n 0, 1) := by decide +kernel
theorem dX10_adds_11 : decode cX10_adds 11 = .ok (.getfield 75, 3) := by decide +kernel
theorem dX10_adds_14 : decode cX10_adds 14 = .ok (.aload_n 0, 1) := by decide +kernel
theorem dX10_adds_15 : decode cX10_adds 15 = .ok (.getfield 218, 3) := by decide +kernel
theorem dX10_adds_18 : decode cX10_adds 18 = .ok (.iload_n 2, 1) := by decide +kernel
theorem dX10_adds_19 : decode cX10_adds 19 = .ok (.iastore, 1) := by decide +kernel
theorem dX10_adds_20 : decode cX10_adds 20 = .ok (.aload_n 0, 1) := by decide +kernel
theorem dX10_adds_21 : decode cX10_adds 21 = .ok (.getfield 78, 3) := by decide +kernel
theorem dX10_adds_24 : decode cX10_adds 24 = .ok (.aload_n 0, 1) := by decide +kernel
theorem dX10_adds_25 : decode cX10_adds 25 = .ok (.getfield 218, 3) := by decide +kernel
theorem dX10_adds_28 : decode cX10_adds 28 = .ok (.aload_n 0, 1) := by decide +kernel
theorem dX10_adds_29 : decode cX10_adds 29 = .ok (.getfield 22, 3) := by decide +kernel
theorem dX10_adds_32 : decode cX10_adds 32 = .ok (.iload_n 1, 1) := by decide +kernel
theorem dX10_adds_33 : decode cX10_adds 33 = .ok (.iaload, 1) := by decide +kernel
theorem dX10_adds_34 : decode cX10_adds 34 = .ok (.iastore, 1) := by decide +kernel
theorem dX10_adds_35 : decode cX10_adds 35 = .ok (.aload_n 0, 1) := by decide +kernel
theorem dX10_adds_36 : decode cX10_adds 36 = .ok (.dup, 1) := by decide +kernel
theorem dX10_adds_37 : decode cX10_adds 37 = .ok (.getfield 218, 3) := by decide +kernel
theorem dX10_adds_40 : decode cX10_adds 40 = .ok (.iconst 1, 1) := by decide +kernel
theorem dX10_adds_41 : decode cX10_adds 41 = .ok (.iadd, 1) := by decide +kernel
theorem dX10_adds_42 : decode cX10_adds 42 = .ok (.putfield 218, 3) := by decide +kernel
theorem dX10_adds_45 : decode cX10_adds 45 = .ok (.return_, 1) := by decide +kernel
theorem dX10_map_0 : decode cX10_map 0 = .ok (.aload_n 0, 1) := by decide +kernel
theorem dX10_map_1 : decode cX10_map 1 = .ok (.iload_n 1, 1) := by decide +kernel
theorem dX10_map_2 : decode cX10_map 2 = .ok (.invokevirtual 161, 3) := by decide +kernel
theorem dX10_map_5 : decode cX10_map 5 = .ok (.istore_n 3, 1) := by decide +kernel
theorem dX10_map_6 : decode cX10_map 6 = .ok (.iload_n 3, 1) := by decide +kernel
theorem dX10_map_7 : decode cX10_map 7 = .ok (.ifCond .ge 9, 3) := by decide +kernel
theorem dX10_map_10 : decode cX10_map 10 = .ok (.aload_n 0, 1) := by decide +kernel
theorem dX10_map_11 : decode cX10_map 11 = .ok (.iload_n 3, 1) := by decide +kernel
theorem dX10_map_12 : decode cX10_map 12 = .ok (.invokevirtual 126, 3) := by decide +kernel
theorem dX10_map_15 : decode cX10_map 15 = .ok (.ireturn, 1) := by decide +kernel
theorem dX10_map_16 : decode cX10_map 16 = .ok (.aload_n 0, 1) := by decide +kernel
theorem dX10_map_17 : decode cX10_map 17 = .ok (.iload_n 2, 1) := by decide +kernel
theorem dX10_map_18 : decode cX10_map 18 = .ok (.invokevirtual 161, 3) := by decide +kernel
theorem dX10_map_21 : decode cX10_map 21 = .ok (.istore_n 3, 1) := by decide +kernel
theorem dX10_map_22 : decode cX10_map 22 = .ok (.iload_n 3, 1) := by decide +kernel
theorem dX10_map_23 : decode cX10_map 23 = .ok (.ifCond .ge 9, 3) := by decide +kernel
theorem dX10_map_26 : decode cX10_map 26 = .ok (.aload_n 0, 1) := by decide +kernel
theorem dX10_map_27 : decode cX10_map 27 = .ok (.iload_n 3, 1) := by decide +kernel
theorem dX10_map_28 : decode cX10_map 28 = .ok (.invokevirtual 126, 3) := by decide +kernel
theorem dX10_map_31 : decode cX10_map 31 = .ok (.ireturn, 1) := by decide +kernel
theorem dX10_map_32 : decode cX10_map 32 = .ok (.aload_n 0, 1) := by decide +kernel
theorem dX10_map_33 : decode cX10_map 33 = .ok (.iload_n 1, 1) := by decide +kernel
theorem dX10_map_34 : decode cX10_map 34 = .ok (.iload_n 2, 1) := by decide +kernel
theorem dX10_map_35 : decode cX10_map 35 = .ok (.invokevirtual 215, 3) := by decide +kernel
theorem dX10_map_38 : decode cX10_map 38 = .ok (.iconst 0, 1) := by decide +kernel
theorem dX10_map_39 : decode cX10_map 39 = .ok (.istore 4, 2) := by decide +kernel
theorem dX10_map_41 : decode cX10_map 41 = .ok (.iload 4, 2) := by decide +kernel
theorem dX10_map_43 : decode cX10_map 43 = .ok (.bipush 30, 2) := by decide +kernel
theorem dX10_map_45 : decode cX10_map 45 = .ok (.if_icmp .ge 17, 3) := by decide +kernel
theorem dX10_map_48 : decode cX10_map 48 = .ok (.aload_n 0, 1) := by decide +kernel
theorem dX10_map_49 : decode cX10_map 49 = .ok (.getfield 44, 3) := by decide +kernel
theorem dX10_map_52 : decode cX10_map 52 = .ok (.iload 4, 2) := by decide +kernel
theorem dX10_map_54 : decode cX10_map 54 = .ok (.iconst (-1), 1) := by decide +kernel
theorem dX10_map_55 : decode cX10_map 55 = .ok (.iastore, 1) := by decide +kernel
theorem dX10_map_56 : decode cX10_map 56 = .ok (.iinc 4 1, 3) := by decide +kernel
theorem dX10_map_59 : decode cX10_map 59 = .ok (.goto (-18), 3) := by decide +kernel
theorem dX10_map_62 : decode cX10_map 62 = .ok (.iconst 0, 1) := by decide +kernel
theorem dX10_map_63 : decode cX10_map 63 = .ok (.istore 4, 2) := by decide +kernel
theorem dX10_map_65 : decode cX10_map 65 = .ok (.iload 4, 2) := by decide +kernel
theorem dX10_map_67 : decode cX10_map 67 = .ok (.bipush 30, 2) := by decide +kernel
theorem dX10_map_69 : decode cX10_map 69 = .ok (.if_icmp .ge 17, 3) := by decide +kernel
theorem dX10_map_72 : decode cX10_map 72 = .ok (.aload_n 0, 1) := by decide +kernel
theorem dX10_map_73 : decode cX10_map 73 = .ok (.getfield 47, 3) := by decide +kernel
theorem dX10_map_76 : decode cX10_map 76 = .ok (.iload 4, 2) := by decide +kernel
theorem dX10_map_78 : decode cX10_map 78 = .ok (.iconst (-1), 1) := by decide +kernel
theorem dX10_map_79 : decode cX10_map 79 = .ok (.iastore, 1) := by decide +kernel
theorem dX10_map_80 : decode cX10_map 80 = .ok (.iinc 4 1, 3) := by decide +kernel
theorem dX10_map_83 : decode cX10_map 83 = .ok (.goto (-18), 3) := by decide +kernel
theorem dX10_map_86 : decode cX10_map 86 = .ok (.iconst 1, 1) := by decide +kernel
theorem dX10_map_87 : decode cX10_map 87 = .ok (.istore 4, 2) := by decide +kernel
theorem dX10_map_89 : decode cX10_map 89 = .ok (.aload_n 0, 1) := by decide +kernel
theorem dX10_map_90 : decode cX10_map 90 = .ok (.getfield 50, 3) := by decide +kernel
theorem dX10_map_93 : decode cX10_map 93 = .ok (.iconst 0, 1) := by decide +kernel
theorem dX10_map_94 : decode cX10_map 94 = .ok (.iconst 0, 1) := by decide +kernel
theorem dX10_map_95 : decode cX10_map 95 = .ok (.iastore, 1) := by decide +kernel
theorem dX10_map_96 : decode cX10_map 96 = .ok (.aload_n 0, 1) := by decide +kernel
theorem dX10_map_97 : decode cX10_map 97 = .ok (.getfield 53, 3) := by decide +kernel
theorem dX10_map_100 : decode cX10_map 100 = .ok (.iconst 0, 1) := by decide +kernel
theorem dX10_map_101 : decode cX10_map 101 = .ok (.aload_n 0, 1) := by decide +kernel
theorem dX10_map_102 : decode cX10_map 102 = .ok (.getfield 13, 3) := by decide +kernel
theorem dX10_map_105 : decode cX10_map 105 = .ok (.iload_n 1, 1) := by decide +kernel
theorem dX10_map_106 : decode cX10_map 106 = .ok (.iaload, 1) := by decide +kernel
theorem dX10_map_107 : decode cX10_map 107 = .ok (.iastore, 1) := by decide +kernel
theorem dX10_map_108 : decode cX10_map 108 = .ok (.aload_n 0, 1) := by decide +kernel
theorem dX10_map_109 : decode cX10_map 109 = .ok (.getfield 56, 3) := by decide +kernel
theorem dX10_map_112 : decode cX10_map 112 = .ok (.iconst 0, 1) := by decide +kernel
theorem dX10_map_113 : decode cX10_map 113 = .ok (.iconst 0, 1) := by decide +kernel
theorem dX10_map_114 : decode cX10_map 114 = .ok (.iastore, 1) := by decide +kernel
theorem dX10_map_115 : decode cX10_map 115 = .ok (.aload_n 0, 1) := by decide +kernel
theorem dX10_map_116 : decode cX10_map 116 = .ok (.getfield 59, 3) := by decide +kernel
theorem dX10_map_119 : decode cX10_map 119 = .ok (.iconst 0, 1) := by decide +kernel
theorem dX10_map_120 : decode cX10_map 120 = .ok (.aload_n 0, 1) := by decide +kernel
theorem dX10_map_121 : decode cX10_map 121 = .ok (.getfield 13, 3) := by decide +kernel
theorem dX10_map_124 : decode cX10_map 124 = .ok (.iload_n 2, 1) := by decide +kernel
theorem dX10_map_125 : decode cX10_map 125 = .ok (.iaload, 1) := by decide +kernel
theorem dX10_map_126 : decode cX10_map 126 = .ok (.iastore, 1) := by decide +kernel
theorem dX10_map_127 : decode cX10_map 127 = .ok (.iload 4, 2) := by decide +kernel
theorem dX10_map_129 : decode cX10_map 129 = .ok (.ifCond .le 351, 3) := by decide +kernel
theorem dX10_map_132 : decode cX10_map 132 = .ok (.iload 4, 2) := by decide +kernel
theorem dX10_map_134 : decode cX10_map 134 = .ok (.iconst 1, 1) := by decide +kernel
theorem dX10_map_135 : decode cX10_map 135 = .ok (.isub, 1) := by decide +kernel
theorem dX10_map_136 : decode cX10_map 136 = .ok (.istore 5, 2) := by decide +kernel
theorem dX10_map_138 : decode cX10_map 138 = .ok (.aload_n 0, 1) := by decide +kernel
theorem dX10_map_139 : decode cX10_map 139 = .ok (.getfield 50, 3) := by decide +kernel
theorem dX10_map_142 : decode cX10_map 142 = .ok (.iload 5, 2) := by decide +kernel
theorem dX10_map_144 : decode cX10_map 144 = .ok (.iaload, 1) := by decide +kernel
theorem dX10_map_145 : decode cX10_map 145 = .ok (.istore 6, 2) := by decide +kernel
theorem dX10_map_147 : decode cX10_map 147 = .ok (.aload_n 0, 1) := by decide +kernel
theorem dX10_map_148 : decode cX10_map 148 = .ok (.getfield 56, 3) := by decide +kernel
theorem dX10_map_151 : decode cX10_map 151 = .ok (.iload 5, 2) := by decide +kernel
theorem dX10_map_153 : decode cX10_map 153 = .ok (.iaload, 1) := by decide +kernel
theorem dX10_map_154 : decode cX10_map 154 = .ok (.istore 7, 2) := by decide +kernel
theorem dX10_map_156 : decode cX10_map 156 = .ok (.iload 6, 2) := by decide +kernel
theorem dX10_map_158 : decode cX10_map 158 = .ok (.aload_n 0, 1) := by decide +kernel
theorem dX10_map_159 : decode cX10_map 159 = .ok (.getfield 53, 3) := by decide +kernel
theorem dX10_map_162 : decode cX10_map 162 = .ok (.iload 5, 2) := by decide +kernel
theorem dX10_map_164 : decode cX10_map 164 = .ok (.iaload, 1) := by decide +kernel
theorem dX10_map_165 : decode cX10_map 165 = .ok (.iadd, 1) := by decide +kernel
theorem dX10_map_166 : decode cX10_map 166 = .ok (.iconst 1, 1) := by decide +kernel
theorem dX10_map_167 : decode cX10_map 167 = .ok (.isub, 1) := by decide +kernel
theorem dX10_map_168 : decode cX10_map 168 = .ok (.istore 8, 2) := by decide +kernel
theorem dX10_map_170 : decode cX10_map 170 = .ok (.iload 7, 2) := by decide +kernel
theorem dX10_map_172 : decode cX10_map 172 = .ok (.aload_n 0, 1) := by decide +kernel
theorem dX10_map_173 : decode cX10_map 173 = .ok (.getfield 59, 3) := by decide +kernel
theorem dX10_map_176 : decode cX10_map 176 = .ok (.iload 5, 2) := by decide +kernel
theorem dX10_map_178 : decode cX10_map 178 = .ok (.iaload, 1) := by decide +kernel
theorem dX10_map_179 : decode cX10_map 179 = .ok (.iadd, 1) := by decide +kernel
theorem dX10_map_180 : decode cX10_map 180 = .ok (.iconst 1, 1) := by decide +kernel
theorem dX10_map_181 : decode cX10_map 181 = .ok (.isub, 1) := by decide +kernel
theorem dX10_map_182 : decode cX10_map 182 = .ok (.istore 9, 2) := by decide +kernel
theorem dX10_map_184 : decode cX10_map 184 = .ok (.aload_n 0, 1) := by decide +kernel
theorem dX10_map_185 : decode cX10_map 185 = .ok (.getfield 53, 3) := by decide +kernel
theorem dX10_map_188 : decode cX10_map 188 = .ok (.iload 5, 2) := by decide +kernel
theorem dX10_map_190 : decode cX10_map 190 = .ok (.iaload, 1) := by decide +kernel
theorem dX10_map_191 : decode cX10_map 191 = .ok (.ifCond .eq 13, 3) := by decide +kernel
theorem dX10_map_194 : decode cX10_map 194 = .ok (.aload_n 0, 1) := by decide +kernel
theorem dX10_map_195 : decode cX10_map 195 = .ok (.getfield 59, 3) := by decide +kernel
theorem dX10_map_198 : decode cX10_map 198 = .ok (.iload 5, 2) := by decide +kernel
theorem dX10_map_200 : decode cX10_map 200 = .ok (.iaload, 1) := by decide +kernel
theorem dX10_map_201 : decode cX10_map 201 = .ok (.ifCond .ne 9, 3) := by decide +kernel
theorem dX10_map_204 : decode cX10_map 204 = .ok (.iinc 4 (-1), 3) := by decide +kernel
theorem dX10_map_207 : decode cX10_map 207 = .ok (.goto (-80), 3) := by decide +kernel
theorem dX10_map_210 : decode cX10_map 210 = .ok (.aload_n 0, 1) := by decide +kernel
theorem dX10_map_211 : decode cX10_map 211 = .ok (.getfield 41, 3) := by decide +kernel
theorem dX10_map_214 : decode cX10_map 214 = .ok (.iload 6, 2) := by decide +kernel
theorem dX10_map_216 : decode cX10_map 216 = .ok (.aload_n 0, 1) := by decide +kernel
theorem dX10_map_217 : decode cX10_map 217 = .ok (.getfield 53, 3) := by decide +kernel
theorem dX10_map_220 : decode cX10_map 220 = .ok (.iload 5, 2) := by decide +kernel
theorem dX10_map_222 : decode cX10_map 222 = .ok (.iaload, 1) := by decide +kernel
theorem dX10_map_223 : decode cX10_map 223 = .ok (.iload 7, 2) := by decide +kernel
theorem dX10_map_225 : decode cX10_map 225 = .ok (.aload_n 0, 1) := by decide +kernel
theorem dX10_map_226 : decode cX10_map 226 = .ok (.getfield 59, 3) := by decide +kernel
theorem dX10_map_229 : decode cX10_map 229 = .ok (.iload 5, 2) := by decide +kernel
theorem dX10_map_231 : decode cX10_map 231 = .ok (.iaload, 1) := by decide +kernel
theorem dX10_map_232 : decode cX10_map 232 = .ok (.invokestatic 201, 3) := by decide +kernel
theorem dX10_map_235 : decode cX10_map 235 = .ok (.iaload, 1) := by decide +kernel
theorem dX10_map_236 : decode cX10_map 236 = .ok (.istore 10, 2) := by decide +kernel
theorem dX10_map_238 : decode cX10_map 238 = .ok (.aload_n 0, 1) := by decide +kernel
theorem dX10_map_239 : decode cX10_map 239 = .ok (.iload_n 1, 1) := by decide +kernel
theorem dX10_map_240 : decode cX10_map 240 = .ok (.iload_n 2, 1) := by decide +kernel
theorem dX10_map_241 : decode cX10_map 241 = .ok (.iload 6, 2) := by decide +kernel
theorem dX10_map_243 : decode cX10_map 243 = .ok (.iload 8, 2) := by decide +kernel
theorem dX10_map_245 : decode cX10_map 245 = .ok (.iload 7, 2) := by decide +kernel
theorem dX10_map_247 : decode cX10_map 247 = .ok (.iload 9, 2) := by decide +kernel
theorem dX10_map_249 : decode cX10_map 249 = .ok (.invokevirtual 208, 3) := by decide +kernel
theorem dX10_map_252 : decode cX10_map 252 = .ok (.iload 10, 2) := by decide +kernel
theorem dX10_map_254 : decode cX10_map 254 = .ok (.if_icmp .ne 158, 3) := by decide +kernel
theorem dX10_map_257 : decode cX10_map 257 = .ok (.aload_n 0, 1) := by decide +kernel
theorem dX10_map_258 : decode cX10_map 258 = .ok (.getfield 44, 3) := by decide +kernel
theorem dX10_map_261 : decode cX10_map 261 = .ok (.aload_n 0, 1) := by decide +kernel
theorem dX10_map_262 : decode cX10_map 262 = .ok (.getfield 34, 3) := by decide +kernel
theorem dX10_map_265 : decode cX10_map 265 = .ok (.iload 8, 2) := by decide +kernel
theorem dX10_map_267 : decode cX10_map 267 = .ok (.iaload, 1) := by decide +kernel
theorem dX10_map_268 : decode cX10_map 268 = .ok (.aload_n 0, 1) := by decide +kernel
theorem dX10_map_269 : decode cX10_map 269 = .ok (.getfield 34, 3) := by decide +kernel
theorem dX10_map_272 : decode cX10_map 272 = .ok (.bipush 30, 2) := by decide +kernel
theorem dX10_map_274 : decode cX10_map 274 = .ok (.iload 9, 2) := by decide +kernel
theorem dX10_map_276 : decode cX10_map 276 = .ok (.iadd, 1) := by decide +kernel
theorem dX10_map_277 : decode cX10_map 277 = .ok (.iaload, 1) := by decide +kernel
theorem dX10_map_278 : decode cX10_map 278 = .ok (.iastore, 1) := by decide +kernel
theorem dX10_map_279 : decode cX10_map 279 = .ok (.aload_n 0, 1) := by decide +kernel
theorem dX10_map_280 : decode cX10_map 280 = .ok (.getfield 47, 3) := by decide +kernel
theorem dX10_map_283 : decode cX10_map 283 = .ok (.aload_n 0, 1) := by decide +kernel
theorem dX10_map_284 : decode cX10_map 284 = .ok (.getfield 34, 3) := by decide +kernel
theorem dX10_map_287 : decode cX10_map 287 = .ok (.bipush 30, 2) := by decide +kernel
theorem dX10_map_289 : decode cX10_map 289 = .ok (.iload 9, 2) := by decide +kernel
theorem dX10_map_291 : decode cX10_map 291 = .ok (.iadd, 1) := by decide +kernel
theorem dX10_map_292 : decode cX10_map 292 = .ok (.iaload, 1) := by decide +kernel
theorem dX10_map_293 : decode cX10_map 293 = .ok (.aload_n 0, 1) := by decide +kernel
theorem dX10_map_294 : decode cX10_map 294 = .ok (.getfield 34, 3) := by decide +kernel
theorem dX10_map_297 : decode cX10_map 297 = .ok (.iload 8, 2) := by decide +kernel
theorem dX10_map_299 : decode cX10_map 299 = .ok (.iaload, 1) := by decide +kernel
theorem dX10_map_300 : decode cX10_map 300 = .ok (.iastore, 1) := by decide +kernel
theorem dX10_map_301 : decode cX10_map 301 = .ok (.aload_n 0, 1) := by decide +kernel
theorem dX10_map_302 : decode cX10_map 302 = .ok (.getfield 53, 3) := by decide +kernel
theorem dX10_map_305 : decode cX10_map 305 = .ok (.iload 5, 2) := by decide +kernel
theorem dX10_map_307 : decode cX10_map 307 = .ok (.aload_n 0, 1) := by decide +kernel
theorem dX10_map_308 : decode cX10_map 308 = .ok (.getfield 37, 3) := by decide +kernel
theorem dX10_map_311 : decode cX10_map 311 = .ok (.iload 8, 2) := by decide +kernel
theorem dX10_map_313 : decode cX10_map 313 = .ok (.iaload, 1) := by decide +kernel
theorem dX10_map_314 : decode cX10_map 314 = .ok (.iload 6, 2) := by decide +kernel
theorem dX10_map_316 : decode cX10_map 316 = .ok (.isub, 1) := by decide +kernel
theorem dX10_map_317 : decode cX10_map 317 = .ok (.iastore, 1) := by decide +kernel
theorem dX10_map_318 : decode cX10_map 318 = .ok (.aload_n 0, 1) := by decide +kernel
theorem dX10_map_319 : decode cX10_map 319 = .ok (.getfield 59, 3) := by decide +kernel
theorem dX10_map_322 : decode cX10_map 322 = .ok (.iload 5, 2) := by decide +kernel
theorem dX10_map_324 : decode cX10_map 324 = .ok (.aload_n 0, 1) := by decide +kernel
theorem dX10_map_325 : decode cX10_map 325 = .ok (.getfield 37, 3) := by decide +kernel
theorem dX10_map_328 : decode cX10_map 328 = .ok (.bipush 30, 2) := by decide +kernel
theorem dX10_map_330 : decode cX10_map 330 = .ok (.iload 9, 2) := by decide +kernel
theorem dX10_map_332 : decode cX10_map 332 = .ok (.iadd, 1) := by decide +kernel
theorem dX10_map_333 : decode cX10_map 333 = .ok (.iaload, 1) := by decide +kernel
theorem dX10_map_334 : decode cX10_map 334 = .ok (.iload 7, 2) := by decide +kernel
theorem dX10_map_336 : decode cX10_map 336 = .ok (.isub, 1) := by decide +kernel
theorem dX10_map_337 : decode cX10_map 337 = .ok (.iastore, 1) := by decide +kernel
theorem dX10_map_338 : decode cX10_map 338 = .ok (.aload_n 0, 1) := by decide +kernel
theorem dX10_map_339 : decode cX10_map 339 = .ok (.getfield 50, 3) := by decide +kernel
theorem dX10_map_342 : decode cX10_map 342 = .ok (.iload 4, 2) := by decide +kernel
theorem dX10_map_344 : decode cX10_map 344 = .ok (.aload_n 0, 1) := by decide +kernel
theorem dX10_map_345 : decode cX10_map 345 = .ok (.getfield 37, 3) := by decide +kernel
theorem dX10_map_348 : decode cX10_map 348 = .ok (.iload 8, 2) := by decide +kernel
theorem dX10_map_350 : decode cX10_map 350 = .ok (.iaload, 1) := by decide +kernel
theorem dX10_map_351 : decode cX10_map 351 = .ok (.iastore, 1) := by decide +kernel
theorem dX10_map_352 : decode cX10_map 352 = .ok (.aload_n 0, 1) := by decide +kernel
theorem dX10_map_353 : decode cX10_map 353 = .ok (.getfield 53, 3) := by decide +kernel
theorem dX10_map_356 : decode cX10_map 356 = .ok (.iload 4, 2) := by decide +kernel
theorem dX10_map_358 : decode cX10_map 358 = .ok (.iload 8, 2) := by decide +kernel
theorem dX10_map_360 : decode cX10_map 360 = .ok (.aload_n 0, 1) := by decide +kernel
theorem dX10_map_361 : decode cX10_map 361 = .ok (.getfield 37, 3) := by decide +kernel
theorem dX10_map_364 : decode cX10_map 364 = .ok (.iload 8, 2) := by decide +kernel
theorem dX10_map_366 : decode cX10_map 366 = .ok (.iaload, 1) := by decide +kernel
theorem dX10_map_367 : decode cX10_map 367 = .ok (.isub, 1) := by decide +kernel
theorem dX10_map_368 : decode cX10_map 368 = .ok (.iastore, 1) := by decide +kernel
theorem dX10_map_369 : decode cX10_map 369 = .ok (.aload_n 0, 1) := by decide +kernel
theorem dX10_map_370 : decode cX10_map 370 = .ok (.getfield 56, 3) := by decide +kernel
theorem dX10_map_373 : decode cX10_map 373 = .ok (.iload 4, 2) := by decide +kernel
theorem dX10_map_375 : decode cX10_map 375 = .ok (.aload_n 0, 1) := by decide +kernel
theorem dX10_map_376 : decode cX10_map 376 = .ok (.getfield 37, 3) := by decide +kernel
theorem dX10_map_379 : decode cX10_map 379 = .ok (.bipush 30, 2) := by decide +kernel
theorem dX10_map_381 : decode cX10_map 381 = .ok (.iload 9, 2) := by decide +kernel
theorem dX10_map_383 : decode cX10_map 383 = .ok (.iadd, 1) := by decide +kernel
theorem dX10_map_384 : decode cX10_map 384 = .ok (.iaload, 1) := by decide +kernel
theorem dX10_map_385 : decode cX10_map 385 = .ok (.iastore, 1) := by decide +kernel
theorem dX10_map_386 : decode cX10_map 386 = .ok (.aload_n 0, 1) := by decide +kernel
theorem dX10_map_387 : decode cX10_map 387 = .ok (.getfield 59, 3) := by decide +kernel
theorem dX10_map_390 : decode cX10_map 390 = .ok (.iload 4, 2) := by decide +kernel
theorem dX10_map_392 : decode cX10_map 392 = .ok (.iload 9, 2) := by decide +kernel
theorem dX10_map_394 : decode cX10_map 394 = .ok (.aload_n 0, 1) := by decide +kernel
theorem dX10_map_395 : decode cX10_map 395 = .ok (.getfield 37, 3) := by decide +kernel
theorem dX10_map_398 : decode cX10_map 398 = .ok (.bipush 30, 2) := by decide +kernel
theorem dX10_map_400 : decode cX10_map 400 = .ok (.iload 9, 2) := by decide +kernel
theorem dX10_map_402 : decode cX10_map 402 = .ok (.iadd, 1) := by decide +kernel
theorem dX10_map_403 : decode cX10_map 403 = .ok (.iaload, 1) := by decide +kernel
theorem dX10_map_404 : decode cX10_map 404 = .ok (.isub, 1) := by decide +kernel
theorem dX10_map_405 : decode cX10_map 405 = .ok (.iastore, 1) := by decide +kernel
theorem dX10_map_406 : decode cX10_map 406 = .ok (.iinc 4 1, 3) := by decide +kernel
theorem dX10_map_409 : decode cX10_map 409 = .ok (.goto 68, 3) := by decide +kernel
theorem dX10_map_412 : decode cX10_map 412 = .ok (.aload_n 0, 1) := by decide +kernel
theorem dX10_map_413 : decode cX10_map 413 = .ok (.getfield 41, 3) := by decide +kernel
theorem dX10_map_416 : decode cX10_map 416 = .ok (.iload 6, 2) := by decide +kernel
theorem dX10_map_418 : decode cX10_map 418 = .ok (.aload_n 0, 1) := by decide +kernel
theorem dX10_map_419 : decode cX10_map 419 = .ok (.getfield 53, 3) := by decide +kernel
theorem dX10_map_422 : decode cX10_map 422 = .ok (.iload 5, 2) := by decide +kernel
theorem dX10_map_424 : decode cX10_map 424 = .ok (.iaload, 1) := by decide +kernel
theorem dX10_map_425 : decode cX10_map 425 = .ok (.iconst 1, 1) := by decide +kernel
theorem dX10_map_426 : decode cX10_map 426 = .ok (.isub, 1) := by decide +kernel
theorem dX10_map_427 : decode cX10_map 427 = .ok (.iload 7, 2) := by decide +kernel
theorem dX10_map_429 : decode cX10_map 429 = .ok (.aload_n 0, 1) := by decide +kernel
theorem dX10_map_430 : decode cX10_map 430 = .ok (.getfield 59, 3) := by decide +kernel
theorem dX10_map_433 : decode cX10_map 433 = .ok (.iload 5, 2) := by decide +kernel
theorem dX10_map_435 : decode cX10_map 435 = .ok (.iaload, 1) := by decide +kernel
theorem dX10_map_436 : decode cX10_map 436 = .ok (.invokestatic 201, 3) := by decide +kernel
theorem dX10_map_439 : decode cX10_map 439 = .ok (.iaload, 1) := by decide +kernel
theorem dX10_map_440 : decode cX10_map 440 = .ok (.aload_n 0, 1) := by decide +kernel
theorem dX10_map_441 : decode cX10_map 441 = .ok (.getfield 22, 3) := by decide +kernel
theorem dX10_map_444 : decode cX10_map 444 = .ok (.iconst 3, 1) := by decide +kernel
theorem dX10_map_445 : decode cX10_map 445 = .ok (.iaload, 1) := by decide +kernel
theorem dX10_map_446 : decode cX10_map 446 = .ok (.iadd, 1) := by decide +kernel
theorem dX10_map_447 : decode cX10_map 447 = .ok (.iload 10, 2) := by decide +kernel
theorem dX10_map_449 : decode cX10_map 449 = .ok (.if_icmp .ne 17, 3) := by decide +kernel
theorem dX10_map_452 : decode cX10_map 452 = .ok (.aload_n 0, 1) := by decide +kernel
theorem dX10_map_453 : decode cX10_map 453 = .ok (.getfield 53, 3) := by decide +kernel
theorem dX10_map_456 : decode cX10_map 456 = .ok (.iload 5, 2) := by decide +kernel
theorem dX10_map_458 : decode cX10_map 458 = .ok (.dup2, 1) := by decide +kernel
theorem dX10_map_459 : decode cX10_map 459 = .ok (.iaload, 1) := by decide +kernel
theorem dX10_map_460 : decode cX10_map 460 = .ok (.iconst 1, 1) := by decide +kernel
theorem dX10_map_461 : decode cX10_map 461 = .ok (.isub, 1) := by decide +kernel
theorem dX10_map_462 : decode cX10_map 462 = .ok (.iastore, 1) := by decide +kernel
theorem dX10_map_463 : decode cX10_map 463 = .ok (.goto 14, 3) := by decide +kernel
theorem dX10_map_466 : decode cX10_map 466 = .ok (.aload_n 0, 1) := by decide +kernel
theorem dX10_map_467 : decode cX10_map 467 = .ok (.getfield 59, 3) := by decide +kernel
theorem dX10_map_470 : decode cX10_map 470 = .ok (.iload 5, 2) := by decide +kernel
theorem dX10_map_472 : decode cX10_map 472 = .ok (.dup2, 1) := by decide +kernel
theorem dX10_map_473 : decode cX10_map 473 = .ok (.iaload, 1) := by decide +kernel
theorem dX10_map_474 : decode cX10_map 474 = .ok (.iconst 1, 1) := by decide +kernel
theorem dX10_map_475 : decode cX10_map 475 = .ok (.isub, 1) := by decide +kernel
theorem dX10_map_476 : decode cX10_map 476 = .ok (.iastore, 1) := by decide +kernel
theorem dX10_map_477 : decode cX10_map 477 = .ok (.goto (-350), 3) := by decide +kernel
theorem dX10_map_480 : decode cX10_map 480 = .ok (.aload_n 0, 1) := by decide +kernel
theorem dX10_map_481 : decode cX10_map 481 = .ok (.iload_n 1, 1) := by decide +kernel
theorem dX10_map_482 : decode cX10_map 482 = .ok (.iload_n 2, 1) := by decide +kernel
theorem dX10_map_483 : decode cX10_map 483 = .ok (.invokevirtual 221, 3) := by decide +kernel
theorem dX10_map_486 : decode cX10_map 486 = .ok (.aload_n 0, 1) := by decide +kernel
theorem dX10_map_487 : decode cX10_map 487 = .ok (.getfield 224, 3) := by decide +kernel
theorem dX10_map_490 : decode cX10_map 490 = .ok (.ireturn, 1) := by decide +kernel
theorem dX10_tells_0 : decode cX10_tells 0 = .ok (.aload_n 0, 1) := by decide +kernel
theorem dX10_tells_1 : decode cX10_tells 1 = .ok (.iconst 0, 1) := by decide +kernel
theorem dX10_tells_2 : decode cX10_tells 2 = .ok (.putfield 224, 3) := by decide +kernel
theorem dX10_tells_5 : decode cX10_tells 5 = .ok (.aload_n 0, 1) := by decide +kernel
theorem dX10_tells_6 : decode cX10_tells 6 = .ok (.iconst 0, 1) := by decide +kernel
theorem dX10_tells_7 : decode cX10_tells 7 = .ok (.putfield 218, 3) := by decide +kernel
theorem dX10_tells_10 : decode cX10_tells 10 = .ok (.aload_n 0, 1) := by decide +kernel
theorem dX10_tells_11 : decode cX10_tells 11 = .ok (.aload_n 0, 1) := by decide +kernel
theorem dX10_tells_12 : decode cX10_tells 12 = .ok (.getfield 13, 3) := by decide +kernel
theorem dX10_tells_15 : decode cX10_tells 15 = .ok (.iload_n 1, 1) := by decide +kernel
theorem dX10_tells_16 : decode cX10_tells 16 = .ok (.iaload, 1) := by decide +kernel
theorem dX10_tells_17 : decode cX10_tells 17 = .ok (.aload_n 0, 1) := by decide +kernel
theorem dX10_tells_18 : decode cX10_tells 18 = .ok (.getfield 13, 3) := by decide +kernel
theorem dX10_tells_21 : decode cX10_tells 21 = .ok (.iload_n 2, 1) := by decide +kernel
theorem dX10_tells_22 : decode cX10_tells 22 = .ok (.iaload, 1) := by decide +kernel
theorem dX10_tells_23 : decode cX10_tells 23 = .ok (.iadd, 1) := by decide +kernel
theorem dX10_tells_24 : decode cX10_tells 24 = .ok (.putfield 62, 3) := by decide +kernel
theorem dX10_tells_27 : decode cX10_tells 27 = .ok (.iconst 0, 1) := by decide +kernel
theorem dX10_tells_28 : decode cX10_tells 28 = .ok (.istore_n 3, 1) := by decide +kernel
theorem dX10_tells_29 : decode cX10_tells 29 = .ok (.iload_n 3, 1) := by decide +kernel
theorem dX10_tells_30 : decode cX10_tells 30 = .ok (.aload_n 0, 1) := by decide +kernel
theorem dX10_tells_31 : decode cX10_tells 31 = .ok (.getfield 13, 3) := by decide +kernel
theorem dX10_tells_34 : decode cX10_tells 34 = .ok (.iload_n 1, 1) := by decide +kernel
theorem dX10_tells_35 : decode cX10_tells 35 = .ok (.iaload, 1) := by decide +kernel
theorem dX10_tells_36 : decode cX10_tells 36 = .ok (.if_icmp .ge 30, 3) := by decide +kernel
theorem dX10_tells_39 : decode cX10_tells 39 = .ok (.aload_n 0, 1) := by decide +kernel
theorem dX10_tells_40 : decode cX10_tells 40 = .ok (.getfield 44, 3) := by decide +kernel
theorem dX10_tells_43 : decode cX10_tells 43 = .ok (.iload_n 3, 1) := by decide +kernel
theorem dX10_tells_44 : decode cX10_tells 44 = .ok (.iaload, 1) := by decide +kernel
theorem dX10_tells_45 : decode cX10_tells 45 = .ok (.ifCond .ge 15, 3) := by decide +kernel
theorem dX10_tells_48 : decode cX10_tells 48 = .ok (.aload_n 0, 1) := by decide +kernel
theorem dX10_tells_49 : decode cX10_tells 49 = .ok (.iconst 3, 1) := by decide +kernel
theorem dX10_tells_50 : decode cX10_tells 50 = .ok (.aload_n 0, 1) := by decide +kernel
theorem dX10_tells_51 : decode cX10_tells 51 = .ok (.iload_n 1, 1) := by decide +kernel
theorem dX10_tells_52 : decode cX10_tells 52 = .ok (.iload_n 3, 1) := by decide +kernel
theorem dX10_tells_53 : decode cX10_tells 53 = .ok (.iconst 0, 1) := by decide +kernel
theorem dX10_tells_54 : decode cX10_tells 54 = .ok (.invokevirtual 104, 3) := by decide +kernel
theorem dX10_tells_57 : decode cX10_tells 57 = .ok (.invokevirtual 227, 3) := by decide +kernel
theorem dX10_tells_60 : decode cX10_tells 60 = .ok (.iinc 3 1, 3) := by decide +kernel
theorem dX10_tells_63 : decode cX10_tells 63 = .ok (.goto (-34), 3) := by decide +kernel
theorem dX10_tells_66 : decode cX10_tells 66 = .ok (.iconst 0, 1) := by decide +kernel
theorem dX10_tells_67 : decode cX10_tells 67 = .ok (.istore_n 3, 1) := by decide +kernel
theorem dX10_tells_68 : decode cX10_tells 68 = .ok (.iload_n 3, 1) := by decide +kernel
theorem dX10_tells_69 : decode cX10_tells 69 = .ok (.aload_n 0, 1) := by decide +kernel
theorem dX10_tells_70 : decode cX10_tells 70 = .ok (.getfield 13, 3) := by decide +kernel
theorem dX10_tells_73 : decode cX10_tells 73 = .ok (.iload_n 1, 1) := by decide +kernel
theorem dX10_tells_74 : decode cX10_tells 74 = .ok (.iaload, 1) := by decide +kernel
theorem dX10_tells_75 : decode cX10_tells 75 = .ok (.if_icmp .ge 119, 3) := by decide +kernel
theorem dX10_tells_78 : decode cX10_tells 78 = .ok (.aload_n 0, 1) := by decide +kernel
theorem dX10_tells_79 : decode cX10_tells 79 = .ok (.getfield 44, 3) := by decide +kernel
theorem dX10_tells_82 : decode cX10_tells 82 = .ok (.iload_n 3, 1) := by decide +kernel
theorem dX10_tells_83 : decode cX10_tells 83 = .ok (.iaload, 1) := by decide +kernel
theorem dX10_tells_84 : decode cX10_tells 84 = .ok (.istore 4, 2) := by decide +kernel
theorem dX10_tells_86 : decode cX10_tells 86 = .ok (.iload 4, 2) := by decide +kernel
theorem dX10_tells_88 : decode cX10_tells 88 = .ok (.ifCond .ge 6, 3) := by decide +kernel
theorem dX10_tells_91 : decode cX10_tells 91 = .ok (.goto 97, 3) := by decide +kernel
theorem dX10_tells_94 : decode cX10_tells 94 = .ok (.aload_n 0, 1) := by decide +kernel
theorem dX10_tells_95 : decode cX10_tells 95 = .ok (.getfield 66, 3) := by decide +kernel
theorem dX10_tells_98 : decode cX10_tells 98 = .ok (.aload_n 0, 1) := by decide +kernel
theorem dX10_tells_99 : decode cX10_tells 99 = .ok (.getfield 224, 3) := by decide +kernel
theorem dX10_tells_102 : decode cX10_tells 102 = .ok (.aload_n 0, 1) := by decide +kernel
theorem dX10_tells_103 : decode cX10_tells 103 = .ok (.iload_n 1, 1) := by decide +kernel
theorem dX10_tells_104 : decode cX10_tells 104 = .ok (.iload_n 3, 1) := by decide +kernel
theorem dX10_tells_105 : decode cX10_tells 105 = .ok (.iconst 0, 1) := by decide +kernel
theorem dX10_tells_106 : decode cX10_tells 106 = .ok (.invokevirtual 104, 3) := by decide +kernel
theorem dX10_tells_109 : decode cX10_tells 109 = .ok (.iastore, 1) := by decide +kernel
theorem dX10_tells_110 : decode cX10_tells 110 = .ok (.aload_n 0, 1) := by decide +kernel
theorem dX10_tells_111 : decode cX10_tells 111 = .ok (.getfield 69, 3) := by decide +kernel
theorem dX10_tells_114 : decode cX10_tells 114 = .ok (.aload_n 0, 1) := by decide +kernel
theorem dX10_tells_115 : decode cX10_tells 115 = .ok (.getfield 224, 3) := by decide +kernel
theorem dX10_tells_118 : decode cX10_tells 118 = .ok (.aload_n 0, 1) := by decide +kernel
theorem dX10_tells_119 : decode cX10_tells 119 = .ok (.iload_n 2, 1) := by decide +kernel
theorem dX10_tells_120 : decode cX10_tells 120 = .ok (.iload 4, 2) := by decide +kernel
theorem dX10_tells_122 : decode cX10_tells 122 = .ok (.iconst 0, 1) := by decide +kernel
theorem dX10_tells_123 : decode cX10_tells 123 = .ok (.invokevirtual 104, 3) := by decide +kernel
theorem dX10_tells_126 : decode cX10_tells 126 = .ok (.iastore, 1) := by decide +kernel
theorem dX10_tells_127 : decode cX10_tells 127 = .ok (.aload_n 0, 1) := by decide +kernel
theorem dX10_tells_128 : decode cX10_tells 128 = .ok (.dup, 1) := by decide +kernel
theorem dX10_tells_129 : decode cX10_tells 129 = .ok (.getfield 224, 3) := by decide +kernel
theorem dX10_tells_132 : decode cX10_tells 132 = .ok (.iconst 1, 1) := by decide +kernel
theorem dX10_tells_133 : decode cX10_tells 133 = .ok (.iadd, 1) := by decide +kernel
theorem dX10_tells_134 : decode cX10_tells 134 = .ok (.putfield 224, 3) := by decide +kernel
theorem dX10_tells_137 : decode cX10_tells 137 = .ok (.aload_n 0, 1) := by decide +kernel
theorem dX10_tells_138 : decode cX10_tells 138 = .ok (.iload_n 1, 1) := by decide +kernel
theorem dX10_tells_139 : decode cX10_tells 139 = .ok (.iload_n 3, 1) := by decide +kernel
theorem dX10_tells_140 : decode cX10_tells 140 = .ok (.iload_n 2, 1) := by decide +kernel
theorem dX10_tells_141 : decode cX10_tells 141 = .ok (.iload 4, 2) := by decide +kernel
theorem dX10_tells_143 : decode cX10_tells 143 = .ok (.iconst 3, 1) := by decide +kernel
theorem dX10_tells_144 : decode cX10_tells 144 = .ok (.invokevirtual 122, 3) := by decide +kernel
theorem dX10_tells_147 : decode cX10_tells 147 = .ok (.ifCond .ne 15, 3) := by decide +kernel
theorem dX10_tells_150 : decode cX10_tells 150 = .ok (.aload_n 0, 1) := by decide +kernel
theorem dX10_tells_151 : decode cX10_tells 151 = .ok (.iconst 0, 1) := by decide +kernel
theorem dX10_tells_152 : decode cX10_tells 152 = .ok (.aload_n 0, 1) := by decide +kernel
theorem dX10_tells_153 : decode cX10_tells 153 = .ok (.iload_n 1, 1) := by decide +kernel
theorem dX10_tells_154 : decode cX10_tells 154 = .ok (.iload_n 3, 1) := by decide +kernel
theorem dX10_tells_155 : decode cX10_tells 155 = .ok (.iconst 0, 1) := by decide +kernel
theorem dX10_tells_156 : decode cX10_tells 156 = .ok (.invokevirtual 104, 3) := by decide +kernel
theorem dX10_tells_159 : decode cX10_tells 159 = .ok (.invokevirtual 227, 3) := by decide +kernel
theorem dX10_tells_162 : decode cX10_tells 162 = .ok (.aload_n 0, 1) := by decide +kernel
theorem dX10_tells_163 : decode cX10_tells 163 = .ok (.iload_n 1, 1) := by decide +kernel
theorem dX10_tells_164 : decode cX10_tells 164 = .ok (.iload_n 3, 1) := by decide +kernel
theorem dX10_tells_165 : decode cX10_tells 165 = .ok (.iload_n 2, 1) := by decide +kernel
theorem dX10_tells_166 : decode cX10_tells 166 = .ok (.iload 4, 2) := by decide +kernel
theorem dX10_tells_168 : decode cX10_tells 168 = .ok (.bipush 10, 2) := by decide +kernel
theorem dX10_tells_170 : decode cX10_tells 170 = .ok (.invokevirtual 122, 3) := by decide +kernel
theorem dX10_tells_173 : decode cX10_tells 173 = .ok (.ifCond .ne 15, 3) := by decide +kernel
theorem dX10_tells_176 : decode cX10_tells 176 = .ok (.aload_n 0, 1) := by decide +kernel
theorem dX10_tells_177 : decode cX10_tells 177 = .ok (.iconst 1, 1) := by decide +kernel
theorem dX10_tells_178 : decode cX10_tells 178 = .ok (.aload_n 0, 1) := by decide +kernel
theorem dX10_tells_179 : decode cX10_tells 179 = .ok (.iload_n 1, 1) := by decide +kernel
theorem dX10_tells_180 : decode cX10_tells 180 = .ok (.iload_n 3, 1) := by decide +kernel
theorem dX10_tells_181 : decode cX10_tells 181 = .ok (.iconst 0, 1) := by decide +kernel
theorem dX10_tells_182 : decode cX10_tells 182 = .ok (.invokevirtual 104, 3) := by decide +kernel
theorem dX10_tells_185 : decode cX10_tells 185 = .ok (.invokevirtual 227, 3) := by decide +kernel
theorem dX10_tells_188 : decode cX10_tells 188 = .ok (.iinc 3 1, 3) := by decide +kernel
theorem dX10_tells_191 : decode cX10_tells 191 = .ok (.goto (-123), 3) := by decide +kernel
theorem dX10_tells_194 : decode cX10_tells 194 = .ok (.iconst 0, 1) := by decide +kernel
theorem dX10_tells_195 : decode cX10_tells 195 = .ok (.istore_n 3, 1) := by decide +kernel
theorem dX10_tells_196 : decode cX10_tells 196 = .ok (.iload_n 3, 1) := by decide +kernel
theorem dX10_tells_197 : decode cX10_tells 197 = .ok (.aload_n 0, 1) := by decide +kernel
theorem dX10_tells_198 : decode cX10_tells 198 = .ok (.getfield 13, 3) := by decide +kernel
theorem dX10_tells_201 : decode cX10_tells 201 = .ok (.iload_n 2, 1) := by decide +kernel
theorem dX10_tells_202 : decode cX10_tells 202 = .ok (.iaload, 1) := by decide +kernel
theorem dX10_tells_203 : decode cX10_tells 203 = .ok (.if_icmp .ge 46, 3) := by decide +kernel
theorem dX10_tells_206 : decode cX10_tells 206 = .ok (.aload_n 0, 1) := by decide +kernel
theorem dX10_tells_207 : decode cX10_tells 207 = .ok (.getfield 47, 3) := by decide +kernel
theorem dX10_tells_210 : decode cX10_tells 210 = .ok (.aload_n 0, 1) := by decide +kernel
theorem dX10_tells_211 : decode cX10_tells 211 = .ok (.getfield 34, 3) := by decide +kernel
theorem dX10_tells_214 : decode cX10_tells 214 = .ok (.bipush 30, 2) := by decide +kernel
theorem dX10_tells_216 : decode cX10_tells 216 = .ok (.iload_n 3, 1) := by decide +kernel
theorem dX10_tells_217 : decode cX10_tells 217 = .ok (.iadd, 1) := by decide +kernel
theorem dX10_tells_218 : decode cX10_tells 218 = .ok (.iaload, 1) := by decide +kernel
theorem dX10_tells_219 : decode cX10_tells 219 = .ok (.iaload, 1) := by decide +kernel
theorem dX10_tells_220 : decode cX10_tells 220 = .ok (.ifCond .ge 23, 3) := by decide +kernel
theorem dX10_tells_223 : decode cX10_tells 223 = .ok (.aload_n 0, 1) := by decide +kernel
theorem dX10_tells_224 : decode cX10_tells 224 = .ok (.iconst 2, 1) := by decide +kernel
theorem dX10_tells_225 : decode cX10_tells 225 = .ok (.aload_n 0, 1) := by decide +kernel
theorem dX10_tells_226 : decode cX10_tells 226 = .ok (.iload_n 2, 1) := by decide +kernel
theorem dX10_tells_227 : decode cX10_tells 227 = .ok (.aload_n 0, 1) := by decide +kernel
theorem dX10_tells_228 : decode cX10_tells 228 = .ok (.getfield 34, 3) := by decide +kernel
theorem dX10_tells_231 : decode cX10_tells 231 = .ok (.bipush 30, 2) := by decide +kernel
theorem dX10_tells_233 : decode cX10_tells 233 = .ok (.iload_n 3, 1) := by decide +kernel
theorem dX10_tells_234 : decode cX10_tells 234 = .ok (.iadd, 1) := by decide +kernel
theorem dX10_tells_235 : decode cX10_tells 235 = .ok (.iaload, 1) := by decide +kernel
theorem dX10_tells_236 : decode cX10_tells 236 = .ok (.iconst 0, 1) := by decide +kernel
theorem dX10_tells_237 : decode cX10_tells 237 = .ok (.invokevirtual 104, 3) := by decide +kernel
theorem dX10_tells_240 : decode cX10_tells 240 = .ok (.invokevirtual 227, 3) := by decide +kernel
theorem dX10_tells_243 : decode cX10_tells 243 = .ok (.iinc 3 1, 3) := by decide +kernel
theorem dX10_tells_246 : decode cX10_tells 246 = .ok (.goto (-50), 3) := by decide +kernel
theorem dX10_tells_249 : decode cX10_tells 249 = .ok (.return_, 1) := by decide +kernel
theorem dX10_pair_0 : decode cX10_pair 0 = .ok (.iload_n 1, 1) := by decide +kernel
theorem dX10_pair_1 : decode cX10_pair 1 = .ok (.iconst 0, 1) := by decide +kernel
theorem dX10_pair_2 : decode cX10_pair 2 = .ok (.aload_n 0, 1) := by decide +kernel
theorem dX10_pair_3 : decode cX10_pair 3 = .ok (.getfield 224, 3) := by decide +kernel
theorem dX10_pair_6 : decode cX10_pair 6 = .ok (.iconst 1, 1) := by decide +kernel
theorem dX10_pair_7 : decode cX10_pair 7 = .ok (.isub, 1) := by decide +kernel
theorem dX10_pair_8 : decode cX10_pair 8 = .ok (.invokestatic 96, 3) := by decide +kernel
theorem dX10_pair_11 : decode cX10_pair 11 = .ok (.ifCond .ne 10, 3) := by decide +kernel
theorem dX10_pair_14 : decode cX10_pair 14 = .ok (.aload_n 0, 1) := by decide +kernel
theorem dX10_pair_15 : decode cX10_pair 15 = .ok (.bipush (-6), 2) := by decide +kernel
theorem dX10_pair_17 : decode cX10_pair 17 = .ok (.invokevirtual 126, 3) := by decide +kernel
theorem dX10_pair_20 : decode cX10_pair 20 = .ok (.ireturn, 1) := by decide +kernel
theorem dX10_pair_21 : decode cX10_pair 21 = .ok (.iload_n 2, 1) := by decide +kernel
theorem dX10_pair_22 : decode cX10_pair 22 = .ok (.ifCond .ne 12, 3) := by decide +kernel
theorem dX10_pair_25 : decode cX10_pair 25 = .ok (.aload_n 0, 1) := by decide +kernel
theorem dX10_pair_26 : decode cX10_pair 26 = .ok (.getfield 66, 3) := by decide +kernel
theorem dX10_pair_29 : decode cX10_pair 29 = .ok (.iload_n 1, 1) := by decide +kernel
theorem dX10_pair_30 : decode cX10_pair 30 = .ok (.iaload, 1) := by decide +kernel
theorem dX10_pair_31 : decode cX10_pair 31 = .ok (.goto 22, 3) := by decide +kernel
theorem dX10_pair_34 : decode cX10_pair 34 = .ok (.iload_n 2, 1) := by decide +kernel
theorem dX10_pair_35 : decode cX10_pair 35 = .ok (.iconst 1, 1) := by decide +kernel
theorem dX10_pair_36 : decode cX10_pair 36 = .ok (.if_icmp .ne 12, 3) := by decide +kernel
theorem dX10_pair_39 : decode cX10_pair 39 = .ok (.aload_n 0, 1) := by decide +kernel
theorem dX10_pair_40 : decode cX10_pair 40 = .ok (.getfield 69, 3) := by decide +kernel
theorem dX10_pair_43 : decode cX10_pair 43 = .ok (.iload_n 1, 1) := by decide +kernel
theorem dX10_pair_44 : decode cX10_pair 44 = .ok (.iaload, 1) := by decide +kernel
theorem dX10_pair_45 : decode cX10_pair 45 = .ok (.goto 8, 3) := by decide +kernel
theorem dX10_pair_48 : decode cX10_pair 48 = .ok (.aload_n 0, 1) := by decide +kernel
theorem dX10_pair_49 : decode cX10_pair 49 = .ok (.iconst (-1), 1) := by decide +kernel
theorem dX10_pair_50 : decode cX10_pair 50 = .ok (.invokevirtual 126, 3) := by decide +kernel
theorem dX10_pair_53 : decode cX10_pair 53 = .ok (.ireturn, 1) := by decide +kernel
theorem dX10_acts_0 : decode cX10_acts 0 = .ok (.aload_n 0, 1) := by decide +kernel
theorem dX10_acts_1 : decode cX10_acts 1 = .ok (.getfield 218, 3) := by decide +kernel
theorem dX10_acts_4 : decode cX10_acts 4 = .ok (.ireturn, 1) := by decide +kernel
theorem dX10_act_0 : decode cX10_act 0 = .ok (.iload_n 1, 1) := by decide +kernel
theorem dX10_act_1 : decode cX10_act 1 = .ok (.iconst 0, 1) := by decide +kernel
theorem dX10_act_2 : decode cX10_act 2 = .ok (.aload_n 0, 1) := by decide +kernel
theorem dX10_act_3 : decode cX10_act 3 = .ok (.getfield 218, 3) := by decide +kernel
theorem dX10_act_6 : decode cX10_act 6 = .ok (.iconst 1, 1) := by decide +kernel
theorem dX10_act_7 : decode cX10_act 7 = .ok (.isub, 1) := by decide +kernel
theorem dX10_act_8 : decode cX10_act 8 = .ok (.invokestatic 96, 3) := by decide +kernel
theorem dX10_act_11 : decode cX10_act 11 = .ok (.ifCond .ne 10, 3) := by decide +kernel
theorem dX10_act_14 : decode cX10_act 14 = .ok (.aload_n 0, 1) := by decide +kernel
theorem dX10_act_15 : decode cX10_act 15 = .ok (.bipush (-6), 2) := by decide +kernel
theorem dX10_act_17 : decode cX10_act 17 = .ok (.invokevirtual 126, 3) := by decide +kernel
theorem dX10_act_20 : decode cX10_act 20 = .ok (.ireturn, 1) := by decide +kernel
theorem dX10_act_21 : decode cX10_act 21 = .ok (.iload_n 2, 1) := by decide +kernel
theorem dX10_act_22 : decode cX10_act 22 = .ok (.ifCond .ne 12, 3) := by decide +kernel
theorem dX10_act_25 : decode cX10_act 25 = .ok (.aload_n 0, 1) := by decide +kernel
theorem dX10_act_26 : decode cX10_act 26 = .ok (.getfield 72, 3) := by decide +kernel
theorem dX10_act_29 : decode cX10_act 29 = .ok (.iload_n 1, 1) := by decide +kernel
theorem dX10_act_30 : decode cX10_act 30 = .ok (.iaload, 1) := by decide +kernel
theorem dX10_act_31 : decode cX10_act 31 = .ok (.goto 36, 3) := by decide +kernel
theorem dX10_act_34 : decode cX10_act 34 = .ok (.iload_n 2, 1) := by decide +kernel
theorem dX10_act_35 : decode cX10_act 35 = .ok (.iconst 1, 1) := by decide +kernel
theorem dX10_act_36 : decode cX10_act 36 = .ok (.if_icmp .ne 12, 3) := by decide +kernel
theorem dX10_act_39 : decode cX10_act 39 = .ok (.aload_n 0, 1) := by decide +kernel
theorem dX10_act_40 : decode cX10_act 40 = .ok (.getfield 75, 3) := by decide +kernel
theorem dX10_act_43 : decode cX10_act 43 = .ok (.iload_n 1, 1) := by decide +kernel
theorem dX10_act_44 : decode cX10_act 44 = .ok (.iaload, 1) := by decide +kernel
theorem dX10_act_45 : decode cX10_act 45 = .ok (.goto 22, 3) := by decide +kernel
theorem dX10_act_48 : decode cX10_act 48 = .ok (.iload_n 2, 1) := by decide +kernel
theorem dX10_act_49 : decode cX10_act 49 = .ok (.iconst 2, 1) := by decide +kernel
theorem dX10_act_50 : decode cX10_act 50 = .ok (.if_icmp .ne 12, 3) := by decide +kernel
theorem dX10_act_53 : decode cX10_act 53 = .ok (.aload_n 0, 1) := by decide +kernel
theorem dX10_act_54 : decode cX10_act 54 = .ok (.getfield 78, 3) := by decide +kernel
theorem dX10_act_57 : decode cX10_act 57 = .ok (.iload_n 1, 1) := by decide +kernel
theorem dX10_act_58 : decode cX10_act 58 = .ok (.iaload, 1) := by decide +kernel
theorem dX10_act_59 : decode cX10_act 59 = .ok (.goto 8, 3) := by decide +kernel
theorem dX10_act_62 : decode cX10_act 62 = .ok (.aload_n 0, 1) := by decide +kernel
theorem dX10_act_63 : decode cX10_act 63 = .ok (.iconst (-1), 1) := by decide +kernel
theorem dX10_act_64 : decode cX10_act 64 = .ok (.invokevirtual 126, 3) := by decide +kernel
theorem dX10_act_67 : decode cX10_act 67 = .ok (.ireturn, 1) := by decide +kernel
theorem dX10_like_0 : decode cX10_like 0 = .ok (.aload_n 0, 1) := by decide +kernel
theorem dX10_like_1 : decode cX10_like 1 = .ok (.getfield 62, 3) := by decide +kernel
theorem dX10_like_4 : decode cX10_like 4 = .ok (.ifCond .ge 12, 3) := by decide +kernel
theorem dX10_like_7 : decode cX10_like 7 = .ok (.aload_n 0, 1) := by decide +kernel
theorem dX10_like_8 : decode cX10_like 8 = .ok (.bipush (-6), 2) := by decide +kernel
theorem dX10_like_10 : decode cX10_like 10 = .ok (.invokevirtual 126, 3) := by decide +kernel
theorem dX10_like_13 : decode cX10_like 13 = .ok (.goto 16, 3) := by decide +kernel
theorem dX10_like_16 : decode cX10_like 16 = .ok (.sipush 200, 3) := by decide +kernel
theorem dX10_like_19 : decode cX10_like 19 = .ok (.aload_n 0, 1) := by decide +kernel
theorem dX10_like_20 : decode cX10_like 20 = .ok (.getfield 224, 3) := by decide +kernel
theorem dX10_like_23 : decode cX10_like 23 = .ok (.imul, 1) := by decide +kernel
theorem dX10_like_24 : decode cX10_like 24 = .ok (.aload_n 0, 1) := by decide +kernel
theorem dX10_like_25 : decode cX10_like 25 = .ok (.getfield 62, 3) := by decide +kernel
theorem dX10_like_28 : decode cX10_like 28 = .ok (.idiv, 1) := by decide +kernel
theorem dX10_like_29 : decode cX10_like 29 = .ok (.ireturn, 1) := by decide +kernel
theorem dX10_areSame_0 : decode cX10_areSame 0 = .ok (.aload_n 0, 1) := by decide +kernel
theorem dX10_areSame_1 : decode cX10_areSame 1 = .ok (.iload_n 1, 1) := by decide +kernel
theorem dX10_areSame_2 : decode cX10_areSame 2 = .ok (.iload_n 2, 1) := by decide +kernel
theorem dX10_areSame_3 : decode cX10_areSame 3 = .ok (.iconst 1, 1) := by decide +kernel
theorem dX10_areSame_4 : decode cX10_areSame 4 = .ok (.invokevirtual 104, 3) := by decide +kernel
theorem dX10_areSame_7 : decode cX10_areSame 7 = .ok (.aload_n 0, 1) := by decide +kernel
theorem dX10_areSame_8 : decode cX10_areSame 8 = .ok (.iload 4, 2) := by decide +kernel
theorem dX10_areSame_10 : decode cX10_areSame 10 = .ok (.iload 5, 2) := by decide +kernel
theorem dX10_areSame_12 : decode cX10_areSame 12 = .ok (.iconst 1, 1) := by decide +kernel
theorem dX10_areSame_13 : decode cX10_areSame 13 = .ok (.invokevirtual 104, 3) := by decide +kernel
theorem dX10_areSame_16 : decode cX10_areSame 16 = .ok (.if_icmp .ne 49, 3) := by decide +kernel
theorem dX10_areSame_19 : decode cX10_areSame 19 = .ok (.aload_n 0, 1) := by decide +kernel
theorem dX10_areSame_20 : decode cX10_areSame 20 = .ok (.iload_n 1, 1) := by decide +kernel
theorem dX10_areSame_21 : decode cX10_areSame 21 = .ok (.iload_n 2, 1) := by decide +kernel
theorem dX10_areSame_22 : decode cX10_areSame 22 = .ok (.iload 4, 2) := by decide +kernel
theorem dX10_areSame_24 : decode cX10_areSame 24 = .ok (.iload 5, 2) := by decide +kernel
theorem dX10_areSame_26 : decode cX10_areSame 26 = .ok (.iconst 3, 1) := by decide +kernel
theorem dX10_areSame_27 : decode cX10_areSame 27 = .ok (.invokevirtual 122, 3) := by decide +kernel
theorem dX10_areSame_30 : decode cX10_areSame 30 = .ok (.ifCond .eq 35, 3) := by decide +kernel
theorem dX10_areSame_33 : decode cX10_areSame 33 = .ok (.aload_n 0, 1) := by decide +kernel
theorem dX10_areSame_34 : decode cX10_areSame 34 = .ok (.iload_n 1, 1) := by decide +kernel
theorem dX10_areSame_35 : decode cX10_areSame 35 = .ok (.iload_n 2, 1) := by decide +kernel
theorem dX10_areSame_36 : decode cX10_areSame 36 = .ok (.iload 4, 2) := by decide +kernel
theorem dX10_areSame_38 : decode cX10_areSame 38 = .ok (.iload 5, 2) := by decide +kernel
theorem dX10_areSame_40 : decode cX10_areSame 40 = .ok (.bipush 10, 2) := by decide +kernel
theorem dX10_areSame_42 : decode cX10_areSame 42 = .ok (.invokevirtual 122, 3) := by decide +kernel
theorem dX10_areSame_45 : decode cX10_areSame 45 = .ok (.ifCond .eq 20, 3) := by decide +kernel
theorem dX10_areSame_48 : decode cX10_areSame 48 = .ok (.aload_n 0, 1) := by decide +kernel
theorem dX10_areSame_49 : decode cX10_areSame 49 = .ok (.iload_n 1, 1) := by decide +kernel
theorem dX10_areSame_50 : decode cX10_areSame 50 = .ok (.iload_n 2, 1) := by decide +kernel
theorem dX10_areSame_51 : decode cX10_areSame 51 = .ok (.invokevirtual 175, 3) := by decide +kernel
theorem dX10_areSame_54 : decode cX10_areSame 54 = .ok (.aload_n 0, 1) := by decide +kernel
theorem dX10_areSame_55 : decode cX10_areSame 55 = .ok (.iload 4, 2) := by decide +kernel
theorem dX10_areSame_57 : decode cX10_areSame 57 = .ok (.iload 5, 2) := by decide +kernel
theorem dX10_areSame_59 : decode cX10_areSame 59 = .ok (.invokevirtual 175, 3) := by decide +kernel
theorem dX10_areSame_62 : decode cX10_areSame 62 = .ok (.if_icmp .eq 5, 3) := by decide +kernel
theorem dX10_areSame_65 : decode cX10_areSame 65 = .ok (.iconst 0, 1) := by decide +kernel
theorem dX10_areSame_66 : decode cX10_areSame 66 = .ok (.ireturn, 1) := by decide +kernel
theorem dX10_areSame_67 : decode cX10_areSame 67 = .ok (.aload_n 0, 1) := by decide +kernel
theorem dX10_areSame_68 : decode cX10_areSame 68 = .ok (.iload_n 1, 1) := by decide +kernel
theorem dX10_areSame_69 : decode cX10_areSame 69 = .ok (.iload_n 2, 1) := by decide +kernel
theorem dX10_areSame_70 : decode cX10_areSame 70 = .ok (.iconst 1, 1) := by decide +kernel
theorem dX10_areSame_71 : decode cX10_areSame 71 = .ok (.invokevirtual 104, 3) := by decide +kernel
theorem dX10_areSame_74 : decode cX10_areSame 74 = .ok (.iconst 1, 1) := by decide +kernel
theorem dX10_areSame_75 : decode cX10_areSame 75 = .ok (.if_icmp .eq 14, 3) := by decide +kernel
theorem dX10_areSame_78 : decode cX10_areSame 78 = .ok (.aload_n 0, 1) := by decide +kernel
theorem dX10_areSame_79 : decode cX10_areSame 79 = .ok (.iload_n 1, 1) := by decide +kernel
theorem dX10_areSame_80 : decode cX10_areSame 80 = .ok (.iload_n 2, 1) := by decide +kernel
theorem dX10_areSame_81 : decode cX10_areSame 81 = .ok (.iconst 1, 1) := by decide +kernel
theorem dX10_areSame_82 : decode cX10_areSame 82 = .ok (.invokevirtual 104, 3) := by decide +kernel
theorem dX10_areSame_85 : decode cX10_areSame 85 = .ok (.iconst 2, 1) := by decide +kernel
theorem dX10_areSame_86 : decode cX10_areSame 86 = .ok (.if_icmp .ne 7, 3) := by decide +kernel
theorem dX10_areSame_89 : decode cX10_areSame 89 = .ok (.iconst 1, 1) := by decide +kernel
theorem dX10_areSame_90 : decode cX10_areSame 90 = .ok (.goto 4, 3) := by decide +kernel
theorem dX10_areSame_93 : decode cX10_areSame 93 = .ok (.iconst 0, 1) := by decide +kernel
theorem dX10_areSame_94 : decode cX10_areSame 94 = .ok (.istore 7, 2) := by decide +kernel
theorem dX10_areSame_96 : decode cX10_areSame 96 = .ok (.iload 5, 2) := by decide +kernel
theorem dX10_areSame_98 : decode cX10_areSame 98 = .ok (.iconst 1, 1) := by decide +kernel
theorem dX10_areSame_99 : decode cX10_areSame 99 = .ok (.iadd, 1) := by decide +kernel
theorem dX10_areSame_100 : decode cX10_areSame 100 = .ok (.istore 8, 2) := by decide +kernel
theorem dX10_areSame_102 : decode cX10_areSame 102 = .ok (.iload_n 2, 1) := by decide +kernel
theorem dX10_areSame_103 : decode cX10_areSame 103 = .ok (.iconst 1, 1) := by decide +kernel
theorem dX10_areSame_104 : decode cX10_areSame 104 = .ok (.iadd, 1) := by decide +kernel
theorem dX10_areSame_105 : decode cX10_areSame 105 = .ok (.istore 9, 2) := by decide +kernel
theorem dX10_areSame_107 : decode cX10_areSame 107 = .ok (.iload 9, 2) := by decide +kernel
theorem dX10_areSame_109 : decode cX10_areSame 109 = .ok (.aload_n 0, 1) := by decide +kernel
theorem dX10_areSame_110 : decode cX10_areSame 110 = .ok (.iload_n 1, 1) := by decide +kernel
theorem dX10_areSame_111 : decode cX10_areSame 111 = .ok (.iload_n 2, 1) := by decide +kernel
theorem dX10_areSame_112 : decode cX10_areSame 112 = .ok (.invokevirtual 119, 3) := by decide +kernel
theorem dX10_areSame_115 : decode cX10_areSame 115 = .ok (.if_icmp .ge 207, 3) := by decide +kernel
theorem dX10_areSame_118 : decode cX10_areSame 118 = .ok (.iload 7, 2) := by decide +kernel
theorem dX10_areSame_120 : decode cX10_areSame 120 = .ok (.ifCond .ne 27, 3) := by decide +kernel
theorem dX10_areSame_123 : decode cX10_areSame 123 = .ok (.aload_n 0, 1) := by decide +kernel
theorem dX10_areSame_124 : decode cX10_areSame 124 = .ok (.getfield 81, 3) := by decide +kernel
theorem dX10_areSame_127 : decode cX10_areSame 127 = .ok (.iload_n 3, 1) := by decide +kernel
theorem dX10_areSame_128 : decode cX10_areSame 128 = .ok (.iload 9, 2) := by decide +kernel
theorem dX10_areSame_130 : decode cX10_areSame 130 = .ok (.iadd, 1) := by decide +kernel
theorem dX10_areSame_131 : decode cX10_areSame 131 = .ok (.iaload, 1) := by decide +kernel
theorem dX10_areSame_132 : decode cX10_areSame 132 = .ok (.aload_n 0, 1) := by decide +kernel
theorem dX10_areSame_133 : decode cX10_areSame 133 = .ok (.getfield 81, 3) := by decide +kernel
theorem dX10_areSame_136 : decode cX10_areSame 136 = .ok (.iload 6, 2) := by decide +kernel
theorem dX10_areSame_138 : decode cX10_areSame 138 = .ok (.iload 8, 2) := by decide +kernel
theorem dX10_areSame_140 : decode cX10_areSame 140 = .ok (.iadd, 1) := by decide +kernel
theorem dX10_areSame_141 : decode cX10_areSame 141 = .ok (.iaload, 1) := by decide +kernel
theorem dX10_areSame_142 : decode cX10_areSame 142 = .ok (.if_icmp .eq 5, 3) := by decide +kernel
theorem dX10_areSame_145 : decode cX10_areSame 145 = .ok (.iconst 0, 1) := by decide +kernel
theorem dX10_areSame_146 : decode cX10_areSame 146 = .ok (.ireturn, 1) := by decide +kernel
theorem dX10_areSame_147 : decode cX10_areSame 147 = .ok (.iload 7, 2) := by decide +kernel
theorem dX10_areSame_149 : decode cX10_areSame 149 = .ok (.ifCond .ne 13, 3) := by decide +kernel
theorem dX10_areSame_152 : decode cX10_areSame 152 = .ok (.aload_n 0, 1) := by decide +kernel
theorem dX10_areSame_153 : decode cX10_areSame 153 = .ok (.iload 4, 2) := by decide +kernel
theorem dX10_areSame_155 : decode cX10_areSame 155 = .ok (.iload 8, 2) := by decide +kernel
theorem dX10_areSame_157 : decode cX10_areSame 157 = .ok (.invokevirtual 119, 3) := by decide +kernel
theorem dX10_areSame_160 : decode cX10_areSame 160 = .ok (.istore 8, 2) := by decide +kernel
theorem dX10_areSame_162 : decode cX10_areSame 162 = .ok (.iconst 0, 1) := by decide +kernel
theorem dX10_areSame_163 : decode cX10_areSame 163 = .ok (.istore 10, 2) := by decide +kernel
theorem dX10_areSame_165 : decode cX10_areSame 165 = .ok (.iconst 0, 1) := by decide +kernel
theorem dX10_areSame_166 : decode cX10_areSame 166 = .ok (.istore 11, 2) := by decide +kernel
theorem dX10_areSame_168 : decode cX10_areSame 168 = .ok (.iload_n 2, 1) := by decide +kernel
theorem dX10_areSame_169 : decode cX10_areSame 169 = .ok (.iconst 1, 1) := by decide +kernel
theorem dX10_areSame_170 : decode cX10_areSame 170 = .ok (.iadd, 1) := by decide +kernel
theorem dX10_areSame_171 : decode cX10_areSame 171 = .ok (.istore 12, 2) := by decide +kernel
theorem dX10_areSame_173 : decode cX10_areSame 173 = .ok (.iload 12, 2) := by decide +kernel
theorem dX10_areSame_175 : decode cX10_areSame 175 = .ok (.aload_n 0, 1) := by decide +kernel
theorem dX10_areSame_176 : decode cX10_areSame 176 = .ok (.iload_n 1, 1) := by decide +kernel
theorem dX10_areSame_177 : decode cX10_areSame 177 = .ok (.iload_n 2, 1) := by decide +kernel
theorem dX10_areSame_178 : decode cX10_areSame 178 = .ok (.invokevirtual 119, 3) := by decide +kernel
theorem dX10_areSame_181 : decode cX10_areSame 181 = .ok (.if_icmp .ge 51, 3) := by decide +kernel
theorem dX10_areSame_184 : decode cX10_areSame 184 = .ok (.iload 7, 2) := by decide +kernel
theorem dX10_areSame_186 : decode cX10_areSame 186 = .ok (.ifCond .eq 46, 3) := by decide +kernel
theorem dX10_areSame_189 : decode cX10_areSame 189 = .ok (.iload 10, 2) := by decide +kernel
theorem dX10_areSame_191 : decode cX10_areSame 191 = .ok (.aload_n 0, 1) := by decide +kernel
theorem dX10_areSame_192 : decode cX10_areSame 192 = .ok (.getfield 81, 3) := by decide +kernel
theorem dX10_areSame_195 : decode cX10_areSame 195 = .ok (.iload_n 3, 1) := by decide +kernel
theorem dX10_areSame_196 : decode cX10_areSame 196 = .ok (.iload 12, 2) := by decide +kernel
theorem dX10_areSame_198 : decode cX10_areSame 198 = .ok (.iadd, 1) := by decide +kernel
theorem dX10_areSame_199 : decode cX10_areSame 199 = .ok (.iaload, 1) := by decide +kernel
theorem dX10_areSame_200 : decode cX10_areSame 200 = .ok (.aload_n 0, 1) := by decide +kernel
theorem dX10_areSame_201 : decode cX10_areSame 201 = .ok (.getfield 81, 3) := by decide +kernel
theorem dX10_areSame_204 : decode cX10_areSame 204 = .ok (.iload_n 3, 1) := by decide +kernel
theorem dX10_areSame_205 : decode cX10_areSame 205 = .ok (.iload 9, 2) := by decide +kernel
theorem dX10_areSame_207 : decode cX10_areSame 207 = .ok (.iadd, 1) := by decide +kernel
theorem dX10_areSame_208 : decode cX10_areSame 208 = .ok (.iaload, 1) := by decide +kernel
theorem dX10_areSame_209 : decode cX10_areSame 209 = .ok (.if_icmp .ne 7, 3) := by decide +kernel
theorem dX10_areSame_212 : decode cX10_areSame 212 = .ok (.iconst 1, 1) := by decide +kernel
theorem dX10_areSame_213 : decode cX10_areSame 213 = .ok (.goto 4, 3) := by decide +kernel
theorem dX10_areSame_216 : decode cX10_areSame 216 = .ok (.iconst 0, 1) := by decide +kernel
theorem dX10_areSame_217 : decode cX10_areSame 217 = .ok (.iadd, 1) := by decide +kernel
theorem dX10_areSame_218 : decode cX10_areSame 218 = .ok (.istore 10, 2) := by decide +kernel
theorem dX10_areSame_220 : decode cX10_areSame 220 = .ok (.aload_n 0, 1) := by decide +kernel
theorem dX10_areSame_221 : decode cX10_areSame 221 = .ok (.iload_n 1, 1) := by decide +kernel
theorem dX10_areSame_222 : decode cX10_areSame 222 = .ok (.iload 12, 2) := by decide +kernel
theorem dX10_areSame_224 : decode cX10_areSame 224 = .ok (.invokevirtual 119, 3) := by decide +kernel
theorem dX10_areSame_227 : decode cX10_areSame 227 = .ok (.istore 12, 2) := by decide +kernel
theorem dX10_areSame_229 : decode cX10_areSame 229 = .ok (.goto (-56), 3) := by decide +kernel
theorem dX10_areSame_232 : decode cX10_areSame 232 = .ok (.iload 5, 2) := by decide +kernel
theorem dX10_areSame_234 : decode cX10_areSame 234 = .ok (.iconst 1, 1) := by decide +kernel
theorem dX10_areSame_235 : decode cX10_areSame 235 = .ok (.iadd, 1) := by decide +kernel
theorem dX10_areSame_236 : decode cX10_areSame 236 = .ok (.istore 12, 2) := by decide +kernel
theorem dX10_areSame_238 : decode cX10_areSame 238 = .ok (.iload 12, 2) := by decide +kernel
theorem dX10_areSame_240 : decode cX10_areSame 240 = .ok (.aload_n 0, 1) := by decide +kernel
theorem dX10_areSame_241 : decode cX10_areSame 241 = .ok (.iload 4, 2) := by decide +kernel
theorem dX10_areSame_243 : decode cX10_areSame 243 = .ok (.iload 5, 2) := by decide +kernel
theorem dX10_areSame_245 : decode cX10_areSame 245 = .ok (.invokevirtual 119, 3) := by decide +kernel
theorem dX10_areSame_248 : decode cX10_areSame 248 = .ok (.if_icmp .ge 53, 3) := by decide +kernel
theorem dX10_areSame_251 : decode cX10_areSame 251 = .ok (.iload 7, 2) := by decide +kernel
theorem dX10_areSame_253 : decode cX10_areSame 253 = .ok (.ifCond .eq 48, 3) := by decide +kernel
theorem dX10_areSame_256 : decode cX10_areSame 256 = .ok (.iload 11, 2) := by decide +kernel
theorem dX10_areSame_258 : decode cX10_areSame 258 = .ok (.aload_n 0, 1) := by decide +kernel
theorem dX10_areSame_259 : decode cX10_areSame 259 = .ok (.getfield 81, 3) := by decide +kernel
theorem dX10_areSame_262 : decode cX10_areSame 262 = .ok (.iload 6, 2) := by decide +kernel
theorem dX10_areSame_264 : decode cX10_areSame 264 = .ok (.iload 12, 2) := by decide +kernel
theorem dX10_areSame_266 : decode cX10_areSame 266 = .ok (.iadd, 1) := by decide +kernel
theorem dX10_areSame_267 : decode cX10_areSame 267 = .ok (.iaload, 1) := by decide +kernel
theorem dX10_areSame_268 : decode cX10_areSame 268 = .ok (.aload_n 0, 1) := by decide +kernel
theorem dX10_areSame_269 : decode cX10_areSame 269 = .ok (.getfield 81, 3) := by decide +kernel
theorem dX10_areSame_272 : decode cX10_areSame 272 = .ok (.iload_n 3, 1) := by decide +kernel
theorem dX10_areSame_273 : decode cX10_areSame 273 = .ok (.iload 9, 2) := by decide +kernel
theorem dX10_areSame_275 : decode cX10_areSame 275 = .ok (.iadd, 1) := by decide +kernel
theorem dX10_areSame_276 : decode cX10_areSame 276 = .ok (.iaload, 1) := by decide +kernel
theorem dX10_areSame_277 : decode cX10_areSame 277 = .ok (.if_icmp .ne 7, 3) := by decide +kernel
theorem dX10_areSame_280 : decode cX10_areSame 280 = .ok (.iconst 1, 1) := by decide +kernel
theorem dX10_areSame_281 : decode cX10_areSame 281 = .ok (.goto 4, 3) := by decide +kernel
theorem dX10_areSame_284 : decode cX10_areSame 284 = .ok (.iconst 0, 1) := by decide +kernel
theorem dX10_areSame_285 : decode cX10_areSame 285 = .ok (.iadd, 1) := by decide +kernel
theorem dX10_areSame_286 : decode cX10_areSame 286 = .ok (.istore 11, 2) := by decide +kernel
theorem dX10_areSame_288 : decode cX10_areSame 288 = .ok (.aload_n 0, 1) := by decide +kernel
theorem dX10_areSame_289 : decode cX10_areSame 289 = .ok (.iload 4, 2) := by decide +kernel
theorem dX10_areSame_291 : decode cX10_areSame 291 = .ok (.iload 12, 2) := by decide +kernel
theorem dX10_areSame_293 : decode cX10_areSame 293 = .ok (.invokevirtual 119, 3) := by decide +kernel
theorem dX10_areSame_296 : decode cX10_areSame 296 = .ok (.istore 12, 2) := by decide +kernel
theorem dX10_areSame_298 : decode cX10_areSame 298 = .ok (.goto (-60), 3) := by decide +kernel
theorem dX10_areSame_301 : decode cX10_areSame 301 = .ok (.iload 10, 2) := by decide +kernel
theorem dX10_areSame_303 : decode cX10_areSame 303 = .ok (.iload 11, 2) := by decide +kernel
theorem dX10_areSame_305 : decode cX10_areSame 305 = .ok (.if_icmp .eq 5, 3) := by decide +kernel
theorem dX10_areSame_308 : decode cX10_areSame 308 = .ok (.iconst 0, 1) := by decide +kernel
theorem dX10_areSame_309 : decode cX10_areSame 309 = .ok (.ireturn, 1) := by decide +kernel
theorem dX10_areSame_310 : decode cX10_areSame 310 = .ok (.aload_n 0, 1) := by decide +kernel
theorem dX10_areSame_311 : decode cX10_areSame 311 = .ok (.iload_n 1, 1) := by decide +kernel
theorem dX10_areSame_312 : decode cX10_areSame 312 = .ok (.iload 9, 2) := by decide +kernel
theorem dX10_areSame_314 : decode cX10_areSame 314 = .ok (.invokevirtual 119, 3) := by decide +kernel
theorem dX10_areSame_317 : decode cX10_areSame 317 = .ok (.istore 9, 2) := by decide +kernel
theorem dX10_areSame_319 : decode cX10_areSame 319 = .ok (.goto (-212), 3) := by decide +kernel
theorem dX10_areSame_322 : decode cX10_areSame 322 = .ok (.iconst 1, 1) := by decide +kernel
theorem dX10_areSame_323 : decode cX10_areSame 323 = .ok (.ireturn, 1) := by decide +kernel
theorem dX10_sort_0 : decode cX10_sort 0 = .ok (.aload_n 0, 1) := by decide +kernel
theorem dX10_sort_1 : decode cX10_sort 1 = .ok (.getfield 13, 3) := by decide +kernel
theorem dX10_sort_4 : decode cX10_sort 4 = .ok (.iload_n 1, 1) := by decide +kernel
theorem dX10_sort_5 : decode cX10_sort 5 = .ok (.iaload, 1) := by decide +kernel
theorem dX10_sort_6 : decode cX10_sort 6 = .ok (.iconst 1, 1) := by decide +kernel
theorem dX10_sort_7 : decode cX10_sort 7 = .ok (.isub, 1) := by decide +kernel
theorem dX10_sort_8 : decode cX10_sort 8 = .ok (.istore_n 3, 1) := by decide +kernel
theorem dX10_sort_9 : decode cX10_sort 9 = .ok (.iload_n 3, 1) := by decide +kernel
theorem dX10_sort_10 : decode cX10_sort 10 = .ok (.ifCond .lt 65, 3) := by decide +kernel
theorem dX10_sort_13 : decode cX10_sort 13 = .ok (.aload_n 0, 1) := by decide +kernel
theorem dX10_sort_14 : decode cX10_sort 14 = .ok (.getfield 81, 3) := by decide +kernel
theorem dX10_sort_17 : decode cX10_sort 17 = .ok (.iload_n 3, 1) := by decide +kernel
theorem dX10_sort_18 : decode cX10_sort 18 = .ok (.iload_n 3, 1) := by decide +kernel
theorem dX10_sort_19 : decode cX10_sort 19 = .ok (.iastore, 1) := by decide +kernel
theorem dX10_sort_20 : decode cX10_sort 20 = .ok (.aload_n 0, 1) := by decide +kernel
theorem dX10_sort_21 : decode cX10_sort 21 = .ok (.getfield 13, 3) := by decide +kernel
theorem dX10_sort_24 : decode cX10_sort 24 = .ok (.iload_n 1, 1) := by decide +kernel
theorem dX10_sort_25 : decode cX10_sort 25 = .ok (.iaload, 1) := by decide +kernel
theorem dX10_sort_26 : decode cX10_sort 26 = .ok (.iconst 1, 1) := by decide +kernel
theorem dX10_sort_27 : decode cX10_sort 27 = .ok (.isub, 1) := by decide +kernel
theorem dX10_sort_28 : decode cX10_sort 28 = .ok (.istore 4, 2) := by decide +kernel
theorem dX10_sort_30 : decode cX10_sort 30 = .ok (.iload 4, 2) := by decide +kernel
theorem dX10_sort_32 : decode cX10_sort 32 = .ok (.iload_n 3, 1) := by decide +kernel
theorem dX10_sort_33 : decode cX10_sort 33 = .ok (.if_icmp .le 36, 3) := by decide +kernel
theorem dX10_sort_36 : decode cX10_sort 36 = .ok (.aload_n 0, 1) := by decide +kernel
theorem dX10_sort_37 : decode cX10_sort 37 = .ok (.iload_n 1, 1) := by decide +kernel
theorem dX10_sort_38 : decode cX10_sort 38 = .ok (.iload_n 3, 1) := by decide +kernel
theorem dX10_sort_39 : decode cX10_sort 39 = .ok (.iconst 0, 1) := by decide +kernel
theorem dX10_sort_40 : decode cX10_sort 40 = .ok (.iload_n 1, 1) := by decide +kernel
theorem dX10_sort_41 : decode cX10_sort 41 = .ok (.iload 4, 2) := by decide +kernel
theorem dX10_sort_43 : decode cX10_sort 43 = .ok (.iconst 0, 1) := by decide +kernel
theorem dX10_sort_44 : decode cX10_sort 44 = .ok (.invokevirtual 230, 3) := by decide +kernel
theorem dX10_sort_47 : decode cX10_sort 47 = .ok (.ifCond .eq 16, 3) := by decide +kernel
theorem dX10_sort_50 : decode cX10_sort 50 = .ok (.aload_n 0, 1) := by decide +kernel
theorem dX10_sort_51 : decode cX10_sort 51 = .ok (.getfield 81, 3) := by decide +kernel
theorem dX10_sort_54 : decode cX10_sort 54 = .ok (.iload_n 3, 1) := by decide +kernel
theorem dX10_sort_55 : decode cX10_sort 55 = .ok (.aload_n 0, 1) := by decide +kernel
theorem dX10_sort_56 : decode cX10_sort 56 = .ok (.getfield 81, 3) := by decide +kernel
theorem dX10_sort_59 : decode cX10_sort 59 = .ok (.iload 4, 2) := by decide +kernel
theorem dX10_sort_61 : decode cX10_sort 61 = .ok (.iaload, 1) := by decide +kernel
theorem dX10_sort_62 : decode cX10_sort 62 = .ok (.iastore, 1) := by decide +kernel
theorem dX10_sort_63 : decode cX10_sort 63 = .ok (.iinc 4 (-1), 3) := by decide +kernel
theorem dX10_sort_66 : decode cX10_sort 66 = .ok (.goto (-36), 3) := by decide +kernel
theorem dX10_sort_69 : decode cX10_sort 69 = .ok (.iinc 3 (-1), 3) := by decide +kernel
theorem dX10_sort_72 : decode cX10_sort 72 = .ok (.goto (-63), 3) := by decide +kernel
theorem dX10_sort_75 : decode cX10_sort 75 = .ok (.aload_n 0, 1) := by decide +kernel
theorem dX10_sort_76 : decode cX10_sort 76 = .ok (.getfield 13, 3) := by decide +kernel
theorem dX10_sort_79 : decode cX10_sort 79 = .ok (.iload_n 2, 1) := by decide +kernel
theorem dX10_sort_80 : decode cX10_sort 80 = .ok (.iaload, 1) := by decide +kernel
theorem dX10_sort_81 : decode cX10_sort 81 = .ok (.iconst 1, 1) := by decide +kernel
theorem dX10_sort_82 : decode cX10_sort 82 = .ok (.isub, 1) := by decide +kernel
theorem dX10_sort_83 : decode cX10_sort 83 = .ok (.istore_n 3, 1) := by decide +kernel
theorem dX10_sort_84 : decode cX10_sort 84 = .ok (.iload_n 3, 1) := by decide +kernel
theorem dX10_sort_85 : decode cX10_sort 85 = .ok (.ifCond .lt 131, 3) := by decide +kernel
theorem dX10_sort_88 : decode cX10_sort 88 = .ok (.aload_n 0, 1) := by decide +kernel
theorem dX10_sort_89 : decode cX10_sort 89 = .ok (.getfield 81, 3) := by decide +kernel
theorem dX10_sort_92 : decode cX10_sort 92 = .ok (.bipush 30, 2) := by decide +kernel
theorem dX10_sort_94 : decode cX10_sort 94 = .ok (.iload_n 3, 1) := by decide +kernel
theorem dX10_sort_95 : decode cX10_sort 95 = .ok (.iadd, 1) := by decide +kernel
theorem dX10_sort_96 : decode cX10_sort 96 = .ok (.bipush 30, 2) := by decide +kernel
theorem dX10_sort_98 : decode cX10_sort 98 = .ok (.iload_n 3, 1) := by decide +kernel
theorem dX10_sort_99 : decode cX10_sort 99 = .ok (.iadd, 1) := by decide +kernel
theorem dX10_sort_100 : decode cX10_sort 100 = .ok (.iastore, 1) := by decide +kernel
theorem dX10_sort_101 : decode cX10_sort 101 = .ok (.aload_n 0, 1) := by decide +kernel
theorem dX10_sort_102 : decode cX10_sort 102 = .ok (.getfield 13, 3) := by decide +kernel
theorem dX10_sort_105 : decode cX10_sort 105 = .ok (.iload_n 2, 1) := by decide +kernel
theorem dX10_sort_106 : decode cX10_sort 106 = .ok (.iaload, 1) := by decide +kernel
theorem dX10_sort_107 : decode cX10_sort 107 = .ok (.iconst 1, 1) := by decide +kernel
theorem dX10_sort_108 : decode cX10_sort 108 = .ok (.isub, 1) := by decide +kernel
theorem dX10_sort_109 : decode cX10_sort 109 = .ok (.istore 4, 2) := by decide +kernel
theorem dX10_sort_111 : decode cX10_sort 111 = .ok (.iload 4, 2) := by decide +kernel
theorem dX10_sort_113 : decode cX10_sort 113 = .ok (.iload_n 3, 1) := by decide +kernel
theorem dX10_sort_114 : decode cX10_sort 114 = .ok (.if_icmp .le 44, 3) := by decide +kernel
theorem dX10_sort_117 : decode cX10_sort 117 = .ok (.aload_n 0, 1) := by decide +kernel
theorem dX10_sort_118 : decode cX10_sort 118 = .ok (.iload_n 2, 1) := by decide +kernel
theorem dX10_sort_119 : decode cX10_sort 119 = .ok (.iload_n 3, 1) := by decide +kernel
theorem dX10_sort_120 : decode cX10_sort 120 = .ok (.bipush 30, 2) := by decide +kernel
theorem dX10_sort_122 : decode cX10_sort 122 = .ok (.iload_n 2, 1) := by decide +kernel
theorem dX10_sort_123 : decode cX10_sort 123 = .ok (.iload 4, 2) := by decide +kernel
theorem dX10_sort_125 : decode cX10_sort 125 = .ok (.bipush 30, 2) := by decide +kernel
theorem dX10_sort_127 : decode cX10_sort 127 = .ok (.invokevirtual 230, 3) := by decide +kernel
theorem dX10_sort_130 : decode cX10_sort 130 = .ok (.ifCond .eq 22, 3) := by decide +kernel
theorem dX10_sort_133 : decode cX10_sort 133 = .ok (.aload_n 0, 1) := by decide +kernel
theorem dX10_sort_134 : decode cX10_sort 134 = .ok (.getfield 81, 3) := by decide +kernel
theorem dX10_sort_137 : decode cX10_sort 137 = .ok (.bipush 30, 2) := by decide +kernel
theorem dX10_sort_139 : decode cX10_sort 139 = .ok (.iload_n 3, 1) := by decide +kernel
theorem dX10_sort_140 : decode cX10_sort 140 = .ok (.iadd, 1) := by decide +kernel
theorem dX10_sort_141 : decode cX10_sort 141 = .ok (.aload_n 0, 1) := by decide +kernel
theorem dX10_sort_142 : decode cX10_sort 142 = .ok (.getfield 81, 3) := by decide +kernel
theorem dX10_sort_145 : decode cX10_sort 145 = .ok (.bipush 30, 2) := by decide +kernel
theorem dX10_sort_147 : decode cX10_sort 147 = .ok (.iload 4, 2) := by decide +kernel
theorem dX10_sort_149 : decode cX10_sort 149 = .ok (.iadd, 1) := by decide +kernel
theorem dX10_sort_150 : decode cX10_sort 150 = .ok (.iaload, 1) := by decide +kernel
theorem dX10_sort_151 : decode cX10_sort 151 = .ok (.iastore, 1) := by decide +kernel
theorem dX10_sort_152 : decode cX10_sort 152 = .ok (.iinc 4 (-1), 3) := by decide +kernel
theorem dX10_sort_155 : decode cX10_sort 155 = .ok (.goto (-44), 3) := by decide +kernel
theorem dX10_sort_158 : decode cX10_sort 158 = .ok (.aload_n 0, 1) := by decide +kernel
theorem dX10_sort_159 : decode cX10_sort 159 = .ok (.getfield 13, 3) := by decide +kernel
theorem dX10_sort_162 : decode cX10_sort 162 = .ok (.iload_n 1, 1) := by decide +kernel
theorem dX10_sort_163 : decode cX10_sort 163 = .ok (.iaload, 1) := by decide +kernel
theorem dX10_sort_164 : decode cX10_sort 164 = .ok (.iconst 1, 1) := by decide +kernel
theorem dX10_sort_165 : decode cX10_sort 165 = .ok (.isub, 1) := by decide +kernel
theorem dX10_sort_166 : decode cX10_sort 166 = .ok (.istore 4, 2) := by decide +kernel
theorem dX10_sort_168 : decode cX10_sort 168 = .ok (.iload 4, 2) := by decide +kernel
theorem dX10_sort_170 : decode cX10_sort 170 = .ok (.ifCond .lt 40, 3) := by decide +kernel
theorem dX10_sort_173 : decode cX10_sort 173 = .ok (.aload_n 0, 1) := by decide +kernel
theorem dX10_sort_174 : decode cX10_sort 174 = .ok (.iload_n 2, 1) := by decide +kernel
theorem dX10_sort_175 : decode cX10_sort 175 = .ok (.iload_n 3, 1) := by decide +kernel
theorem dX10_sort_176 : decode cX10_sort 176 = .ok (.bipush 30, 2) := by decide +kernel
theorem dX10_sort_178 : decode cX10_sort 178 = .ok (.iload_n 1, 1) := by decide +kernel
theorem dX10_sort_179 : decode cX10_sort 179 = .ok (.iload 4, 2) := by decide +kernel
theorem dX10_sort_181 : decode cX10_sort 181 = .ok (.iconst 0, 1) := by decide +kernel
theorem dX10_sort_182 : decode cX10_sort 182 = .ok (.invokevirtual 230, 3) := by decide +kernel
theorem dX10_sort_185 : decode cX10_sort 185 = .ok (.ifCond .eq 19, 3) := by decide +kernel
theorem dX10_sort_188 : decode cX10_sort 188 = .ok (.aload_n 0, 1) := by decide +kernel
theorem dX10_sort_189 : decode cX10_sort 189 = .ok (.getfield 81, 3) := by decide +kernel
theorem dX10_sort_192 : decode cX10_sort 192 = .ok (.bipush 30, 2) := by decide +kernel
theorem dX10_sort_194 : decode cX10_sort 194 = .ok (.iload_n 3, 1) := by decide +kernel
theorem dX10_sort_195 : decode cX10_sort 195 = .ok (.iadd, 1) := by decide +kernel
theorem dX10_sort_196 : decode cX10_sort 196 = .ok (.aload_n 0, 1) := by decide +kernel
theorem dX10_sort_197 : decode cX10_sort 197 = .ok (.getfield 81, 3) := by decide +kernel
theorem dX10_sort_200 : decode cX10_sort 200 = .ok (.iload 4, 2) := by decide +kernel
theorem dX10_sort_202 : decode cX10_sort 202 = .ok (.iaload, 1) := by decide +kernel
theorem dX10_sort_203 : decode cX10_sort 203 = .ok (.iastore, 1) := by decide +kernel
theorem dX10_sort_204 : decode cX10_sort 204 = .ok (.iinc 4 (-1), 3) := by decide +kernel
theorem dX10_sort_207 : decode cX10_sort 207 = .ok (.goto (-39), 3) := by decide +kernel
theorem dX10_sort_210 : decode cX10_sort 210 = .ok (.iinc 3 (-1), 3) := by decide +kernel
theorem dX10_sort_213 : decode cX10_sort 213 = .ok (.goto (-129), 3) := by decide +kernel
theorem dX10_sort_216 : decode cX10_sort 216 = .ok (.return_, 1) := by decide +kernel
theorem dX10_same_0 : decode cX10_same 0 = .ok (.aload_n 0, 1) := by decide +kernel
theorem dX10_same_1 : decode cX10_same 1 = .ok (.iload_n 1, 1) := by decide +kernel
theorem dX10_same_2 : decode cX10_same 2 = .ok (.invokevirtual 161, 3) := by decide +kernel
theorem dX10_same_5 : decode cX10_same 5 = .ok (.istore_n 3, 1) := by decide +kernel
theorem dX10_same_6 : decode cX10_same 6 = .ok (.iload_n 3, 1) := by decide +kernel
theorem dX10_same_7 : decode cX10_same 7 = .ok (.ifCond .ge 9, 3) := by decide +kernel
theorem dX10_same_10 : decode cX10_same 10 = .ok (.aload_n 0, 1) := by decide +kernel
theorem dX10_same_11 : decode cX10_same 11 = .ok (.iload_n 3, 1) := by decide +kernel
theorem dX10_same_12 : decode cX10_same 12 = .ok (.invokevirtual 126, 3) := by decide +kernel
theorem dX10_same_15 : decode cX10_same 15 = .ok (.ireturn, 1) := by decide +kernel
theorem dX10_same_16 : decode cX10_same 16 = .ok (.aload_n 0, 1) := by decide +kernel
theorem dX10_same_17 : decode cX10_same 17 = .ok (.iload_n 2, 1) := by decide +kernel
theorem dX10_same_18 : decode cX10_same 18 = .ok (.invokevirtual 161, 3) := by decide +kernel
theorem dX10_same_21 : decode cX10_same 21 = .ok (.istore_n 3, 1) := by decide +kernel
theorem dX10_same_22 : decode cX10_same 22 = .ok (.iload_n 3, 1) := by decide +kernel
theorem dX10_same_23 : decode cX10_same 23 = .ok (.ifCond .ge 9, 3) := by decide +kernel
theorem dX10_same_26 : decode cX10_same 26 = .ok (.aload_n 0, 1) := by decide +kernel
theorem dX10_same_27 : decode cX10_same 27 = .ok (.iload_n 3, 1) := by decide +kernel
theorem dX10_same_28 : decode cX10_same 28 = .ok (.invokevirtual 126, 3) := by decide +kernel
theorem dX10_same_31 : decode cX10_same 31 = .ok (.ireturn, 1) := by decide +kernel
theorem dX10_same_32 : decode cX10_same 32 = .ok (.aload_n 0, 1) := by decide +kernel
theorem dX10_same_33 : decode cX10_same 33 = .ok (.iload_n 1, 1) := by decide +kernel
theorem dX10_same_34 : decode cX10_same 34 = .ok (.iload_n 2, 1) := by decide +kernel
theorem dX10_same_35 : decode cX10_same 35 = .ok (.invokevirtual 234, 3) := by decide +kernel
theorem dX10_same_38 : decode cX10_same 38 = .ok (.aload_n 0, 1) := by decide +kernel
theorem dX10_same_39 : decode cX10_same 39 = .ok (.getfield 81, 3) := by decide +kernel
theorem dX10_same_42 : decode cX10_same 42 = .ok (.iconst 0, 1) := by decide +kernel
theorem dX10_same_43 : decode cX10_same 43 = .ok (.iaload, 1) := by decide +kernel
theorem dX10_same_44 : decode cX10_same 44 = .ok (.aload_n 0, 1) := by decide +kernel
theorem dX10_same_45 : decode cX10_same 45 = .ok (.getfield 81, 3) := by decide +kernel
theorem dX10_same_48 : decode cX10_same 48 = .ok (.bipush 30, 2) := by decide +kernel
theorem dX10_same_50 : decode cX10_same 50 = .ok (.iaload, 1) := by decide +kernel
theorem dX10_same_51 : decode cX10_same 51 = .ok (.if_icmp .ne 7, 3) := by decide +kernel
theorem dX10_same_54 : decode cX10_same 54 = .ok (.iconst 1, 1) := by decide +kernel
theorem dX10_same_55 : decode cX10_same 55 = .ok (.goto 4, 3) := by decide +kernel
theorem dX10_same_58 : decode cX10_same 58 = .ok (.iconst 0, 1) := by decide +kernel
theorem dX10_same_59 : decode cX10_same 59 = .ok (.ireturn, 1) := by decide +kernel
theorem dX10_unlike_0 : decode cX10_unlike 0 = .ok (.aload_n 0, 1) := by decide +kernel
theorem dX10_unlike_1 : decode cX10_unlike 1 = .ok (.iload_n 1, 1) := by decide +kernel
theorem dX10_unlike_2 : decode cX10_unlike 2 = .ok (.invokevirtual 161, 3) := by decide +kernel
theorem dX10_unlike_5 : decode cX10_unlike 5 = .ok (.istore_n 2, 1) := by decide +kernel
theorem dX10_unlike_6 : decode cX10_unlike 6 = .ok (.iload_n 2, 1) := by decide +kernel
theorem dX10_unlike_7 : decode cX10_unlike 7 = .ok (.ifCond .ge 9, 3) := by decide +kernel
theorem dX10_unlike_10 : decode cX10_unlike 10 = .ok (.aload_n 0, 1) := by decide +kernel
theorem dX10_unlike_11 : decode cX10_unlike 11 = .ok (.iload_n 2, 1) := by decide +kernel
theorem dX10_unlike_12 : decode cX10_unlike 12 = .ok (.invokevirtual 126, 3) := by decide +kernel
theorem dX10_unlike_15 : decode cX10_unlike 15 = .ok (.ireturn, 1) := by decide +kernel
theorem dX10_unlike_16 : decode cX10_unlike 16 = .ok (.aload_n 0, 1) := by decide +kernel
theorem dX10_unlike_17 : decode cX10_unlike 17 = .ok (.iload_n 1, 1) := by decide +kernel
theorem dX10_unlike_18 : decode cX10_unlike 18 = .ok (.iload_n 1, 1) := by decide +kernel
theorem dX10_unlike_19 : decode cX10_unlike 19 = .ok (.invokevirtual 234, 3) := by decide +kernel
theorem dX10_unlike_22 : decode cX10_unlike 22 = .ok (.iconst 0, 1) := by decide +kernel
theorem dX10_unlike_23 : decode cX10_unlike 23 = .ok (.istore_n 3, 1) := by decide +kernel
theorem dX10_unlike_24 : decode cX10_unlike 24 = .ok (.iconst 0, 1) := by decide +kernel
theorem dX10_unlike_25 : decode cX10_unlike 25 = .ok (.istore 4, 2) := by decide +kernel
theorem dX10_unlike_27 : decode cX10_unlike 27 = .ok (.iload 4, 2) := by decide +kernel
theorem dX10_unlike_29 : decode cX10_unlike 29 = .ok (.aload_n 0, 1) := by decide +kernel
theorem dX10_unlike_30 : decode cX10_unlike 30 = .ok (.getfield 13, 3) := by decide +kernel
theorem dX10_unlike_33 : decode cX10_unlike 33 = .ok (.iload_n 1, 1) := by decide +kernel
theorem dX10_unlike_34 : decode cX10_unlike 34 = .ok (.iaload, 1) := by decide +kernel
theorem dX10_unlike_35 : decode cX10_unlike 35 = .ok (.if_icmp .ge 29, 3) := by decide +kernel
theorem dX10_unlike_38 : decode cX10_unlike 38 = .ok (.iload_n 3, 1) := by decide +kernel
theorem dX10_unlike_39 : decode cX10_unlike 39 = .ok (.aload_n 0, 1) := by decide +kernel
theorem dX10_unlike_40 : decode cX10_unlike 40 = .ok (.getfield 81, 3) := by decide +kernel
theorem dX10_unlike_43 : decode cX10_unlike 43 = .ok (.iload 4, 2) := by decide +kernel
theorem dX10_unlike_45 : decode cX10_unlike 45 = .ok (.iaload, 1) := by decide +kernel
theorem dX10_unlike_46 : decode cX10_unlike 46 = .ok (.iload 4, 2) := by decide +kernel
theorem dX10_unlike_48 : decode cX10_unlike 48 = .ok (.if_icmp .ne 7, 3) := by decide +kernel
theorem dX10_unlike_51 : decode cX10_unlike 51 = .ok (.iconst 1, 1) := by decide +kernel
theorem dX10_unlike_52 : decode cX10_unlike 52 = .ok (.goto 4, 3) := by decide +kernel
theorem dX10_unlike_55 : decode cX10_unlike 55 = .ok (.iconst 0, 1) := by decide +kernel
theorem dX10_unlike_56 : decode cX10_unlike 56 = .ok (.iadd, 1) := by decide +kernel
theorem dX10_unlike_57 : decode cX10_unlike 57 = .ok (.istore_n 3, 1) := by decide +kernel
theorem dX10_unlike_58 : decode cX10_unlike 58 = .ok (.iinc 4 1, 3) := by decide +kernel
theorem dX10_unlike_61 : decode cX10_unlike 61 = .ok (.goto (-34), 3) := by decide +kernel
theorem dX10_unlike_64 : decode cX10_unlike 64 = .ok (.iload_n 3, 1) := by decide +kernel
theorem dX10_unlike_65 : decode cX10_unlike 65 = .ok (.ireturn, 1) := by decide +kernel
theorem dX10_shared_0 : decode cX10_shared 0 = .ok (.aload_n 0, 1) := by decide +kernel
theorem dX10_shared_1 : decode cX10_shared 1 = .ok (.iload_n 1, 1) := by decide +kernel
theorem dX10_shared_2 : decode cX10_shared 2 = .ok (.invokevirtual 161, 3) := by decide +kernel
theorem dX10_shared_5 : decode cX10_shared 5 = .ok (.istore_n 3, 1) := by decide +kernel
theorem dX10_shared_6 : decode cX10_shared 6 = .ok (.iload_n 3, 1) := by decide +kernel
theorem dX10_shared_7 : decode cX10_shared 7 = .ok (.ifCond .ge 9, 3) := by decide +kernel
theorem dX10_shared_10 : decode cX10_shared 10 = .ok (.aload_n 0, 1) := by decide +kernel
theorem dX10_shared_11 : decode cX10_shared 11 = .ok (.iload_n 3, 1) := by decide +kernel
theorem dX10_shared_12 : decode cX10_shared 12 = .ok (.invokevirtual 126, 3) := by decide +kernel
theorem dX10_shared_15 : decode cX10_shared 15 = .ok (.ireturn, 1) := by decide +kernel
theorem dX10_shared_16 : decode cX10_shared 16 = .ok (.aload_n 0, 1) := by decide +kernel
theorem dX10_shared_17 : decode cX10_shared 17 = .ok (.iload_n 2, 1) := by decide +kernel
theorem dX10_shared_18 : decode cX10_shared 18 = .ok (.invokevirtual 161, 3) := by decide +kernel
theorem dX10_shared_21 : decode cX10_shared 21 = .ok (.istore_n 3, 1) := by decide +kernel
theorem dX10_shared_22 : decode cX10_shared 22 = .ok (.iload_n 3, 1) := by decide +kernel
theorem dX10_shared_23 : decode cX10_shared 23 = .ok (.ifCond .ge 9, 3) := by decide +kernel
theorem dX10_shared_26 : decode cX10_shared 26 = .ok (.aload_n 0, 1) := by decide +kernel
theorem dX10_shared_27 : decode cX10_shared 27 = .ok (.iload_n 3, 1) := by decide +kernel
theorem dX10_shared_28 : decode cX10_shared 28 = .ok (.invokevirtual 126, 3) := by decide +kernel
theorem dX10_shared_31 : decode cX10_shared 31 = .ok (.ireturn, 1) := by decide +kernel
theorem dX10_shared_32 : decode cX10_shared 32 = .ok (.aload_n 0, 1) := by decide +kernel
theorem dX10_shared_33 : decode cX10_shared 33 = .ok (.iload_n 1, 1) := by decide +kernel
theorem dX10_shared_34 : decode cX10_shared 34 = .ok (.iload_n 2, 1) := by decide +kernel
theorem dX10_shared_35 : decode cX10_shared 35 = .ok (.invokevirtual 234, 3) := by decide +kernel
theorem dX10_shared_38 : decode cX10_shared 38 = .ok (.iconst 0, 1) := by decide +kernel
theorem dX10_shared_39 : decode cX10_shared 39 = .ok (.istore 4, 2) := by decide +kernel
theorem dX10_shared_41 : decode cX10_shared 41 = .ok (.iconst 0, 1) := by decide +kernel
theorem dX10_shared_42 : decode cX10_shared 42 = .ok (.istore 5, 2) := by decide +kernel
theorem dX10_shared_44 : decode cX10_shared 44 = .ok (.iload 5, 2) := by decide +kernel
theorem dX10_shared_46 : decode cX10_shared 46 = .ok (.aload_n 0, 1) := by decide +kernel
theorem dX10_shared_47 : decode cX10_shared 47 = .ok (.getfield 13, 3) := by decide +kernel
theorem dX10_shared_50 : decode cX10_shared 50 = .ok (.iload_n 1, 1) := by decide +kernel
theorem dX10_shared_51 : decode cX10_shared 51 = .ok (.iaload, 1) := by decide +kernel
theorem dX10_shared_52 : decode cX10_shared 52 = .ok (.if_icmp .ge 79, 3) := by decide +kernel
theorem dX10_shared_55 : decode cX10_shared 55 = .ok (.iconst 0, 1) := by decide +kernel
theorem dX10_shared_56 : decode cX10_shared 56 = .ok (.istore 6, 2) := by decide +kernel
theorem dX10_shared_58 : decode cX10_shared 58 = .ok (.iconst 0, 1) := by decide +kernel
theorem dX10_shared_59 : decode cX10_shared 59 = .ok (.istore 7, 2) := by decide +kernel
theorem dX10_shared_61 : decode cX10_shared 61 = .ok (.iload 7, 2) := by decide +kernel
theorem dX10_shared_63 : decode cX10_shared 63 = .ok (.aload_n 0, 1) := by decide +kernel
theorem dX10_shared_64 : decode cX10_shared 64 = .ok (.getfield 13, 3) := by decide +kernel
theorem dX10_shared_67 : decode cX10_shared 67 = .ok (.iload_n 2, 1) := by decide +kernel
theorem dX10_shared_68 : decode cX10_shared 68 = .ok (.iaload, 1) := by decide +kernel
theorem dX10_shared_69 : decode cX10_shared 69 = .ok (.if_icmp .ge 41, 3) := by decide +kernel
theorem dX10_shared_72 : decode cX10_shared 72 = .ok (.iload 6, 2) := by decide +kernel
theorem dX10_shared_74 : decode cX10_shared 74 = .ok (.ifCond .ne 23, 3) := by decide +kernel
theorem dX10_shared_77 : decode cX10_shared 77 = .ok (.aload_n 0, 1) := by decide +kernel
