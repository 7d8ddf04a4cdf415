/-! laid by program from the bytecode: R_step, R_run -/
theorem d_R_step_0 : decode prog_9_method_41_code 0 = .ok (.aload_n 0, 1) := by decide +kernel
theorem d_R_step_1 : decode prog_9_method_41_code 1 = .ok (.getfield 163, 3) := by decide +kernel
theorem d_R_step_4 : decode prog_9_method_41_code 4 = .ok (.iconst 1, 1) := by decide +kernel
theorem d_R_step_5 : decode prog_9_method_41_code 5 = .ok (.isub, 1) := by decide +kernel
theorem d_R_step_6 : decode prog_9_method_41_code 6 = .ok (.istore_n 2, 1) := by decide +kernel
theorem d_R_step_7 : decode prog_9_method_41_code 7 = .ok (.aload_n 0, 1) := by decide +kernel
theorem d_R_step_8 : decode prog_9_method_41_code 8 = .ok (.getfield 74, 3) := by decide +kernel
theorem d_R_step_11 : decode prog_9_method_41_code 11 = .ok (.iload_n 2, 1) := by decide +kernel
theorem d_R_step_12 : decode prog_9_method_41_code 12 = .ok (.iaload, 1) := by decide +kernel
theorem d_R_step_13 : decode prog_9_method_41_code 13 = .ok (.istore_n 3, 1) := by decide +kernel
theorem d_R_step_14 : decode prog_9_method_41_code 14 = .ok (.aload_n 0, 1) := by decide +kernel
theorem d_R_step_15 : decode prog_9_method_41_code 15 = .ok (.getfield 77, 3) := by decide +kernel
theorem d_R_step_18 : decode prog_9_method_41_code 18 = .ok (.iload_n 2, 1) := by decide +kernel
theorem d_R_step_19 : decode prog_9_method_41_code 19 = .ok (.iaload, 1) := by decide +kernel
theorem d_R_step_20 : decode prog_9_method_41_code 20 = .ok (.aload_n 0, 1) := by decide +kernel
theorem d_R_step_21 : decode prog_9_method_41_code 21 = .ok (.getfield 37, 3) := by decide +kernel
theorem d_R_step_24 : decode prog_9_method_41_code 24 = .ok (.bipush 30, 2) := by decide +kernel
theorem d_R_step_26 : decode prog_9_method_41_code 26 = .ok (.iload_n 1, 1) := by decide +kernel
theorem d_R_step_27 : decode prog_9_method_41_code 27 = .ok (.imul, 1) := by decide +kernel
theorem d_R_step_28 : decode prog_9_method_41_code 28 = .ok (.iload_n 3, 1) := by decide +kernel
theorem d_R_step_29 : decode prog_9_method_41_code 29 = .ok (.iadd, 1) := by decide +kernel
theorem d_R_step_30 : decode prog_9_method_41_code 30 = .ok (.iaload, 1) := by decide +kernel
theorem d_R_step_31 : decode prog_9_method_41_code 31 = .ok (.if_icmp .lt 9, 3) := by decide +kernel
theorem d_R_step_34 : decode prog_9_method_41_code 34 = .ok (.aload_n 0, 1) := by decide +kernel
theorem d_R_step_35 : decode prog_9_method_41_code 35 = .ok (.iconst 5, 1) := by decide +kernel
theorem d_R_step_36 : decode prog_9_method_41_code 36 = .ok (.putfield 92, 3) := by decide +kernel
theorem d_R_step_39 : decode prog_9_method_41_code 39 = .ok (.return_, 1) := by decide +kernel
theorem d_R_step_40 : decode prog_9_method_41_code 40 = .ok (.aload_n 0, 1) := by decide +kernel
theorem d_R_step_41 : decode prog_9_method_41_code 41 = .ok (.getfield 44, 3) := by decide +kernel
theorem d_R_step_44 : decode prog_9_method_41_code 44 = .ok (.sipush 600, 3) := by decide +kernel
theorem d_R_step_47 : decode prog_9_method_41_code 47 = .ok (.iload_n 1, 1) := by decide +kernel
theorem d_R_step_48 : decode prog_9_method_41_code 48 = .ok (.imul, 1) := by decide +kernel
theorem d_R_step_49 : decode prog_9_method_41_code 49 = .ok (.bipush 20, 2) := by decide +kernel
theorem d_R_step_51 : decode prog_9_method_41_code 51 = .ok (.iload_n 3, 1) := by decide +kernel
theorem d_R_step_52 : decode prog_9_method_41_code 52 = .ok (.imul, 1) := by decide +kernel
theorem d_R_step_53 : decode prog_9_method_41_code 53 = .ok (.iadd, 1) := by decide +kernel
theorem d_R_step_54 : decode prog_9_method_41_code 54 = .ok (.aload_n 0, 1) := by decide +kernel
theorem d_R_step_55 : decode prog_9_method_41_code 55 = .ok (.getfield 77, 3) := by decide +kernel
theorem d_R_step_58 : decode prog_9_method_41_code 58 = .ok (.iload_n 2, 1) := by decide +kernel
theorem d_R_step_59 : decode prog_9_method_41_code 59 = .ok (.iaload, 1) := by decide +kernel
theorem d_R_step_60 : decode prog_9_method_41_code 60 = .ok (.iadd, 1) := by decide +kernel
theorem d_R_step_61 : decode prog_9_method_41_code 61 = .ok (.iaload, 1) := by decide +kernel
theorem d_R_step_62 : decode prog_9_method_41_code 62 = .ok (.istore 4, 2) := by decide +kernel
theorem d_R_step_64 : decode prog_9_method_41_code 64 = .ok (.aload_n 0, 1) := by decide +kernel
theorem d_R_step_65 : decode prog_9_method_41_code 65 = .ok (.getfield 47, 3) := by decide +kernel
theorem d_R_step_68 : decode prog_9_method_41_code 68 = .ok (.sipush 600, 3) := by decide +kernel
theorem d_R_step_71 : decode prog_9_method_41_code 71 = .ok (.iload_n 1, 1) := by decide +kernel
theorem d_R_step_72 : decode prog_9_method_41_code 72 = .ok (.imul, 1) := by decide +kernel
theorem d_R_step_73 : decode prog_9_method_41_code 73 = .ok (.bipush 20, 2) := by decide +kernel
theorem d_R_step_75 : decode prog_9_method_41_code 75 = .ok (.iload_n 3, 1) := by decide +kernel
theorem d_R_step_76 : decode prog_9_method_41_code 76 = .ok (.imul, 1) := by decide +kernel
theorem d_R_step_77 : decode prog_9_method_41_code 77 = .ok (.iadd, 1) := by decide +kernel
theorem d_R_step_78 : decode prog_9_method_41_code 78 = .ok (.aload_n 0, 1) := by decide +kernel
theorem d_R_step_79 : decode prog_9_method_41_code 79 = .ok (.getfield 77, 3) := by decide +kernel
theorem d_R_step_82 : decode prog_9_method_41_code 82 = .ok (.iload_n 2, 1) := by decide +kernel
theorem d_R_step_83 : decode prog_9_method_41_code 83 = .ok (.iaload, 1) := by decide +kernel
theorem d_R_step_84 : decode prog_9_method_41_code 84 = .ok (.iadd, 1) := by decide +kernel
theorem d_R_step_85 : decode prog_9_method_41_code 85 = .ok (.iaload, 1) := by decide +kernel
theorem d_R_step_86 : decode prog_9_method_41_code 86 = .ok (.istore 5, 2) := by decide +kernel
theorem d_R_step_88 : decode prog_9_method_41_code 88 = .ok (.aload_n 0, 1) := by decide +kernel
theorem d_R_step_89 : decode prog_9_method_41_code 89 = .ok (.getfield 28, 3) := by decide +kernel
theorem d_R_step_92 : decode prog_9_method_41_code 92 = .ok (.bipush 30, 2) := by decide +kernel
theorem d_R_step_94 : decode prog_9_method_41_code 94 = .ok (.iload_n 1, 1) := by decide +kernel
theorem d_R_step_95 : decode prog_9_method_41_code 95 = .ok (.imul, 1) := by decide +kernel
theorem d_R_step_96 : decode prog_9_method_41_code 96 = .ok (.iload_n 3, 1) := by decide +kernel
theorem d_R_step_97 : decode prog_9_method_41_code 97 = .ok (.iadd, 1) := by decide +kernel
theorem d_R_step_98 : decode prog_9_method_41_code 98 = .ok (.iaload, 1) := by decide +kernel
theorem d_R_step_99 : decode prog_9_method_41_code 99 = .ok (.istore 6, 2) := by decide +kernel
theorem d_R_step_101 : decode prog_9_method_41_code 101 = .ok (.aload_n 0, 1) := by decide +kernel
theorem d_R_step_102 : decode prog_9_method_41_code 102 = .ok (.getfield 77, 3) := by decide +kernel
theorem d_R_step_105 : decode prog_9_method_41_code 105 = .ok (.iload_n 2, 1) := by decide +kernel
theorem d_R_step_106 : decode prog_9_method_41_code 106 = .ok (.dup2, 1) := by decide +kernel
theorem d_R_step_107 : decode prog_9_method_41_code 107 = .ok (.iaload, 1) := by decide +kernel
theorem d_R_step_108 : decode prog_9_method_41_code 108 = .ok (.iconst 1, 1) := by decide +kernel
theorem d_R_step_109 : decode prog_9_method_41_code 109 = .ok (.iadd, 1) := by decide +kernel
theorem d_R_step_110 : decode prog_9_method_41_code 110 = .ok (.iastore, 1) := by decide +kernel
theorem d_R_step_111 : decode prog_9_method_41_code 111 = .ok (.iload 4, 2) := by decide +kernel
theorem d_R_step_113 : decode prog_9_method_41_code 113 = .ok (.tableswitch 301 0 12 #[67, 88, 110, 136, 154, 301, 301, 301, 301, 181, 212, 223, 273], 67) := by decide +kernel
theorem d_R_step_180 : decode prog_9_method_41_code 180 = .ok (.aload_n 0, 1) := by decide +kernel
theorem d_R_step_181 : decode prog_9_method_41_code 181 = .ok (.aload_n 0, 1) := by decide +kernel
theorem d_R_step_182 : decode prog_9_method_41_code 182 = .ok (.getfield 22, 3) := by decide +kernel
theorem d_R_step_185 : decode prog_9_method_41_code 185 = .ok (.iload_n 1, 1) := by decide +kernel
theorem d_R_step_186 : decode prog_9_method_41_code 186 = .ok (.iload 6, 2) := by decide +kernel
theorem d_R_step_188 : decode prog_9_method_41_code 188 = .ok (.invokestatic 100, 3) := by decide +kernel
theorem d_R_step_191 : decode prog_9_method_41_code 191 = .ok (.iload 5, 2) := by decide +kernel
theorem d_R_step_193 : decode prog_9_method_41_code 193 = .ok (.iadd, 1) := by decide +kernel
theorem d_R_step_194 : decode prog_9_method_41_code 194 = .ok (.iaload, 1) := by decide +kernel
theorem d_R_step_195 : decode prog_9_method_41_code 195 = .ok (.invokevirtual 169, 3) := by decide +kernel
theorem d_R_step_198 : decode prog_9_method_41_code 198 = .ok (.goto 222, 3) := by decide +kernel
theorem d_R_step_201 : decode prog_9_method_41_code 201 = .ok (.aload_n 0, 1) := by decide +kernel
theorem d_R_step_202 : decode prog_9_method_41_code 202 = .ok (.aload_n 0, 1) := by decide +kernel
theorem d_R_step_203 : decode prog_9_method_41_code 203 = .ok (.getfield 71, 3) := by decide +kernel
theorem d_R_step_206 : decode prog_9_method_41_code 206 = .ok (.aload_n 0, 1) := by decide +kernel
theorem d_R_step_207 : decode prog_9_method_41_code 207 = .ok (.iload_n 1, 1) := by decide +kernel
theorem d_R_step_208 : decode prog_9_method_41_code 208 = .ok (.iload 6, 2) := by decide +kernel
theorem d_R_step_210 : decode prog_9_method_41_code 210 = .ok (.iload 5, 2) := by decide +kernel
theorem d_R_step_212 : decode prog_9_method_41_code 212 = .ok (.iconst 3, 1) := by decide +kernel
theorem d_R_step_213 : decode prog_9_method_41_code 213 = .ok (.invokevirtual 121, 3) := by decide +kernel
theorem d_R_step_216 : decode prog_9_method_41_code 216 = .ok (.iaload, 1) := by decide +kernel
theorem d_R_step_217 : decode prog_9_method_41_code 217 = .ok (.invokevirtual 169, 3) := by decide +kernel
theorem d_R_step_220 : decode prog_9_method_41_code 220 = .ok (.goto 200, 3) := by decide +kernel
theorem d_R_step_223 : decode prog_9_method_41_code 223 = .ok (.aload_n 0, 1) := by decide +kernel
theorem d_R_step_224 : decode prog_9_method_41_code 224 = .ok (.invokevirtual 166, 3) := by decide +kernel
theorem d_R_step_227 : decode prog_9_method_41_code 227 = .ok (.istore 7, 2) := by decide +kernel
theorem d_R_step_229 : decode prog_9_method_41_code 229 = .ok (.aload_n 0, 1) := by decide +kernel
theorem d_R_step_230 : decode prog_9_method_41_code 230 = .ok (.getfield 71, 3) := by decide +kernel
theorem d_R_step_233 : decode prog_9_method_41_code 233 = .ok (.aload_n 0, 1) := by decide +kernel
theorem d_R_step_234 : decode prog_9_method_41_code 234 = .ok (.iload_n 1, 1) := by decide +kernel
theorem d_R_step_235 : decode prog_9_method_41_code 235 = .ok (.iload 6, 2) := by decide +kernel
theorem d_R_step_237 : decode prog_9_method_41_code 237 = .ok (.iload 5, 2) := by decide +kernel
theorem d_R_step_239 : decode prog_9_method_41_code 239 = .ok (.iconst 3, 1) := by decide +kernel
theorem d_R_step_240 : decode prog_9_method_41_code 240 = .ok (.invokevirtual 121, 3) := by decide +kernel
theorem d_R_step_243 : decode prog_9_method_41_code 243 = .ok (.iload 7, 2) := by decide +kernel
theorem d_R_step_245 : decode prog_9_method_41_code 245 = .ok (.iastore, 1) := by decide +kernel
theorem d_R_step_246 : decode prog_9_method_41_code 246 = .ok (.goto 174, 3) := by decide +kernel
theorem d_R_step_249 : decode prog_9_method_41_code 249 = .ok (.aload_n 0, 1) := by decide +kernel
theorem d_R_step_250 : decode prog_9_method_41_code 250 = .ok (.iload_n 1, 1) := by decide +kernel
theorem d_R_step_251 : decode prog_9_method_41_code 251 = .ok (.aload_n 0, 1) := by decide +kernel
theorem d_R_step_252 : decode prog_9_method_41_code 252 = .ok (.iload_n 1, 1) := by decide +kernel
theorem d_R_step_253 : decode prog_9_method_41_code 253 = .ok (.iload 6, 2) := by decide +kernel
theorem d_R_step_255 : decode prog_9_method_41_code 255 = .ok (.iload 5, 2) := by decide +kernel
theorem d_R_step_257 : decode prog_9_method_41_code 257 = .ok (.iconst 4, 1) := by decide +kernel
theorem d_R_step_258 : decode prog_9_method_41_code 258 = .ok (.invokevirtual 121, 3) := by decide +kernel
theorem d_R_step_261 : decode prog_9_method_41_code 261 = .ok (.invokevirtual 176, 3) := by decide +kernel
theorem d_R_step_264 : decode prog_9_method_41_code 264 = .ok (.goto 156, 3) := by decide +kernel
theorem d_R_step_267 : decode prog_9_method_41_code 267 = .ok (.aload_n 0, 1) := by decide +kernel
theorem d_R_step_268 : decode prog_9_method_41_code 268 = .ok (.iload 5, 2) := by decide +kernel
theorem d_R_step_270 : decode prog_9_method_41_code 270 = .ok (.ifCond .ne 12, 3) := by decide +kernel
theorem d_R_step_273 : decode prog_9_method_41_code 273 = .ok (.aload_n 0, 1) := by decide +kernel
theorem d_R_step_274 : decode prog_9_method_41_code 274 = .ok (.getfield 80, 3) := by decide +kernel
theorem d_R_step_277 : decode prog_9_method_41_code 277 = .ok (.iload_n 2, 1) := by decide +kernel
theorem d_R_step_278 : decode prog_9_method_41_code 278 = .ok (.iaload, 1) := by decide +kernel
theorem d_R_step_279 : decode prog_9_method_41_code 279 = .ok (.goto 9, 3) := by decide +kernel
theorem d_R_step_282 : decode prog_9_method_41_code 282 = .ok (.aload_n 0, 1) := by decide +kernel
theorem d_R_step_283 : decode prog_9_method_41_code 283 = .ok (.getfield 83, 3) := by decide +kernel
theorem d_R_step_286 : decode prog_9_method_41_code 286 = .ok (.iload_n 2, 1) := by decide +kernel
theorem d_R_step_287 : decode prog_9_method_41_code 287 = .ok (.iaload, 1) := by decide +kernel
theorem d_R_step_288 : decode prog_9_method_41_code 288 = .ok (.invokevirtual 169, 3) := by decide +kernel
theorem d_R_step_291 : decode prog_9_method_41_code 291 = .ok (.goto 129, 3) := by decide +kernel
theorem d_R_step_294 : decode prog_9_method_41_code 294 = .ok (.aload_n 0, 1) := by decide +kernel
theorem d_R_step_295 : decode prog_9_method_41_code 295 = .ok (.invokevirtual 166, 3) := by decide +kernel
theorem d_R_step_298 : decode prog_9_method_41_code 298 = .ok (.istore 8, 2) := by decide +kernel
theorem d_R_step_300 : decode prog_9_method_41_code 300 = .ok (.aload_n 0, 1) := by decide +kernel
theorem d_R_step_301 : decode prog_9_method_41_code 301 = .ok (.getfield 77, 3) := by decide +kernel
theorem d_R_step_304 : decode prog_9_method_41_code 304 = .ok (.iload_n 2, 1) := by decide +kernel
theorem d_R_step_305 : decode prog_9_method_41_code 305 = .ok (.iload 8, 2) := by decide +kernel
theorem d_R_step_307 : decode prog_9_method_41_code 307 = .ok (.ifCond .ne 8, 3) := by decide +kernel
theorem d_R_step_310 : decode prog_9_method_41_code 310 = .ok (.iload 5, 2) := by decide +kernel
theorem d_R_step_312 : decode prog_9_method_41_code 312 = .ok (.goto 9, 3) := by decide +kernel
theorem d_R_step_315 : decode prog_9_method_41_code 315 = .ok (.aload_n 0, 1) := by decide +kernel
theorem d_R_step_316 : decode prog_9_method_41_code 316 = .ok (.getfield 77, 3) := by decide +kernel
theorem d_R_step_319 : decode prog_9_method_41_code 319 = .ok (.iload_n 2, 1) := by decide +kernel
theorem d_R_step_320 : decode prog_9_method_41_code 320 = .ok (.iaload, 1) := by decide +kernel
theorem d_R_step_321 : decode prog_9_method_41_code 321 = .ok (.iastore, 1) := by decide +kernel
theorem d_R_step_322 : decode prog_9_method_41_code 322 = .ok (.goto 98, 3) := by decide +kernel
theorem d_R_step_325 : decode prog_9_method_41_code 325 = .ok (.aload_n 0, 1) := by decide +kernel
theorem d_R_step_326 : decode prog_9_method_41_code 326 = .ok (.getfield 77, 3) := by decide +kernel
theorem d_R_step_329 : decode prog_9_method_41_code 329 = .ok (.iload_n 2, 1) := by decide +kernel
theorem d_R_step_330 : decode prog_9_method_41_code 330 = .ok (.iload 5, 2) := by decide +kernel
theorem d_R_step_332 : decode prog_9_method_41_code 332 = .ok (.iastore, 1) := by decide +kernel
theorem d_R_step_333 : decode prog_9_method_41_code 333 = .ok (.goto 87, 3) := by decide +kernel
theorem d_R_step_336 : decode prog_9_method_41_code 336 = .ok (.aload_n 0, 1) := by decide +kernel
theorem d_R_step_337 : decode prog_9_method_41_code 337 = .ok (.aload_n 0, 1) := by decide +kernel
theorem d_R_step_338 : decode prog_9_method_41_code 338 = .ok (.invokevirtual 166, 3) := by decide +kernel
theorem d_R_step_341 : decode prog_9_method_41_code 341 = .ok (.putfield 180, 3) := by decide +kernel
theorem d_R_step_344 : decode prog_9_method_41_code 344 = .ok (.aload_n 0, 1) := by decide +kernel
theorem d_R_step_345 : decode prog_9_method_41_code 345 = .ok (.getfield 92, 3) := by decide +kernel
theorem d_R_step_348 : decode prog_9_method_41_code 348 = .ok (.ifCond .ne 13, 3) := by decide +kernel
theorem d_R_step_351 : decode prog_9_method_41_code 351 = .ok (.aload_n 0, 1) := by decide +kernel
theorem d_R_step_352 : decode prog_9_method_41_code 352 = .ok (.dup, 1) := by decide +kernel
theorem d_R_step_353 : decode prog_9_method_41_code 353 = .ok (.getfield 163, 3) := by decide +kernel
theorem d_R_step_356 : decode prog_9_method_41_code 356 = .ok (.iconst 1, 1) := by decide +kernel
theorem d_R_step_357 : decode prog_9_method_41_code 357 = .ok (.isub, 1) := by decide +kernel
theorem d_R_step_358 : decode prog_9_method_41_code 358 = .ok (.putfield 163, 3) := by decide +kernel
theorem d_R_step_361 : decode prog_9_method_41_code 361 = .ok (.aload_n 0, 1) := by decide +kernel
theorem d_R_step_362 : decode prog_9_method_41_code 362 = .ok (.getfield 92, 3) := by decide +kernel
theorem d_R_step_365 : decode prog_9_method_41_code 365 = .ok (.ifCond .ne 55, 3) := by decide +kernel
theorem d_R_step_368 : decode prog_9_method_41_code 368 = .ok (.aload_n 0, 1) := by decide +kernel
theorem d_R_step_369 : decode prog_9_method_41_code 369 = .ok (.getfield 163, 3) := by decide +kernel
theorem d_R_step_372 : decode prog_9_method_41_code 372 = .ok (.ifCond .le 48, 3) := by decide +kernel
theorem d_R_step_375 : decode prog_9_method_41_code 375 = .ok (.aload_n 0, 1) := by decide +kernel
theorem d_R_step_376 : decode prog_9_method_41_code 376 = .ok (.aload_n 0, 1) := by decide +kernel
theorem d_R_step_377 : decode prog_9_method_41_code 377 = .ok (.getfield 180, 3) := by decide +kernel
theorem d_R_step_380 : decode prog_9_method_41_code 380 = .ok (.invokevirtual 169, 3) := by decide +kernel
theorem d_R_step_383 : decode prog_9_method_41_code 383 = .ok (.goto 37, 3) := by decide +kernel
theorem d_R_step_386 : decode prog_9_method_41_code 386 = .ok (.aload_n 0, 1) := by decide +kernel
theorem d_R_step_387 : decode prog_9_method_41_code 387 = .ok (.invokevirtual 166, 3) := by decide +kernel
theorem d_R_step_390 : decode prog_9_method_41_code 390 = .ok (.istore 9, 2) := by decide +kernel
theorem d_R_step_392 : decode prog_9_method_41_code 392 = .ok (.aload_n 0, 1) := by decide +kernel
theorem d_R_step_393 : decode prog_9_method_41_code 393 = .ok (.aload_n 0, 1) := by decide +kernel
theorem d_R_step_394 : decode prog_9_method_41_code 394 = .ok (.getfield 92, 3) := by decide +kernel
theorem d_R_step_397 : decode prog_9_method_41_code 397 = .ok (.ifCond .le 10, 3) := by decide +kernel
theorem d_R_step_400 : decode prog_9_method_41_code 400 = .ok (.aload_n 0, 1) := by decide +kernel
theorem d_R_step_401 : decode prog_9_method_41_code 401 = .ok (.getfield 92, 3) := by decide +kernel
theorem d_R_step_404 : decode prog_9_method_41_code 404 = .ok (.goto 4, 3) := by decide +kernel
theorem d_R_step_407 : decode prog_9_method_41_code 407 = .ok (.iconst 4, 1) := by decide +kernel
theorem d_R_step_408 : decode prog_9_method_41_code 408 = .ok (.putfield 92, 3) := by decide +kernel
theorem d_R_step_411 : decode prog_9_method_41_code 411 = .ok (.goto 9, 3) := by decide +kernel
theorem d_R_step_414 : decode prog_9_method_41_code 414 = .ok (.aload_n 0, 1) := by decide +kernel
theorem d_R_step_415 : decode prog_9_method_41_code 415 = .ok (.iload 4, 2) := by decide +kernel
theorem d_R_step_417 : decode prog_9_method_41_code 417 = .ok (.invokevirtual 183, 3) := by decide +kernel
theorem d_R_step_420 : decode prog_9_method_41_code 420 = .ok (.return_, 1) := by decide +kernel
theorem d_R_run_0 : decode prog_9_method_42_code 0 = .ok (.iload_n 1, 1) := by decide +kernel
theorem d_R_run_1 : decode prog_9_method_42_code 1 = .ok (.ifCond .eq 7, 3) := by decide +kernel
theorem d_R_run_4 : decode prog_9_method_42_code 4 = .ok (.iconst 1, 1) := by decide +kernel
theorem d_R_run_5 : decode prog_9_method_42_code 5 = .ok (.goto 4, 3) := by decide +kernel
theorem d_R_run_8 : decode prog_9_method_42_code 8 = .ok (.iconst 0, 1) := by decide +kernel
theorem d_R_run_9 : decode prog_9_method_42_code 9 = .ok (.istore 5, 2) := by decide +kernel
theorem d_R_run_11 : decode prog_9_method_42_code 11 = .ok (.aload_n 0, 1) := by decide +kernel
theorem d_R_run_12 : decode prog_9_method_42_code 12 = .ok (.aload_n 0, 1) := by decide +kernel
theorem d_R_run_13 : decode prog_9_method_42_code 13 = .ok (.iload 5, 2) := by decide +kernel
theorem d_R_run_15 : decode prog_9_method_42_code 15 = .ok (.iload_n 2, 1) := by decide +kernel
theorem d_R_run_16 : decode prog_9_method_42_code 16 = .ok (.invokevirtual 118, 3) := by decide +kernel
theorem d_R_run_19 : decode prog_9_method_42_code 19 = .ok (.ifCond .eq 7, 3) := by decide +kernel
theorem d_R_run_22 : decode prog_9_method_42_code 22 = .ok (.iconst 1, 1) := by decide +kernel
theorem d_R_run_23 : decode prog_9_method_42_code 23 = .ok (.goto 19, 3) := by decide +kernel
theorem d_R_run_26 : decode prog_9_method_42_code 26 = .ok (.iload_n 1, 1) := by decide +kernel
theorem d_R_run_27 : decode prog_9_method_42_code 27 = .ok (.ifCond .ne 14, 3) := by decide +kernel
theorem d_R_run_30 : decode prog_9_method_42_code 30 = .ok (.aload_n 0, 1) := by decide +kernel
theorem d_R_run_31 : decode prog_9_method_42_code 31 = .ok (.invokevirtual 129, 3) := by decide +kernel
theorem d_R_run_34 : decode prog_9_method_42_code 34 = .ok (.ifCond .lt 7, 3) := by decide +kernel
theorem d_R_run_37 : decode prog_9_method_42_code 37 = .ok (.iconst 2, 1) := by decide +kernel
theorem d_R_run_38 : decode prog_9_method_42_code 38 = .ok (.goto 4, 3) := by decide +kernel
theorem d_R_run_41 : decode prog_9_method_42_code 41 = .ok (.iconst 0, 1) := by decide +kernel
theorem d_R_run_42 : decode prog_9_method_42_code 42 = .ok (.putfield 92, 3) := by decide +kernel
theorem d_R_run_45 : decode prog_9_method_42_code 45 = .ok (.aload_n 0, 1) := by decide +kernel
theorem d_R_run_46 : decode prog_9_method_42_code 46 = .ok (.getfield 92, 3) := by decide +kernel
theorem d_R_run_49 : decode prog_9_method_42_code 49 = .ok (.ifCond .le 5, 3) := by decide +kernel
theorem d_R_run_52 : decode prog_9_method_42_code 52 = .ok (.iconst 0, 1) := by decide +kernel
theorem d_R_run_53 : decode prog_9_method_42_code 53 = .ok (.ireturn, 1) := by decide +kernel
theorem d_R_run_54 : decode prog_9_method_42_code 54 = .ok (.iconst 0, 1) := by decide +kernel
theorem d_R_run_55 : decode prog_9_method_42_code 55 = .ok (.istore 6, 2) := by decide +kernel
theorem d_R_run_57 : decode prog_9_method_42_code 57 = .ok (.iload 6, 2) := by decide +kernel
theorem d_R_run_59 : decode prog_9_method_42_code 59 = .ok (.bipush 30, 2) := by decide +kernel
theorem d_R_run_61 : decode prog_9_method_42_code 61 = .ok (.if_icmp .ge 17, 3) := by decide +kernel
theorem d_R_run_64 : decode prog_9_method_42_code 64 = .ok (.aload_n 0, 1) := by decide +kernel
theorem d_R_run_65 : decode prog_9_method_42_code 65 = .ok (.getfield 71, 3) := by decide +kernel
theorem d_R_run_68 : decode prog_9_method_42_code 68 = .ok (.iload 6, 2) := by decide +kernel
theorem d_R_run_70 : decode prog_9_method_42_code 70 = .ok (.iconst 0, 1) := by decide +kernel
theorem d_R_run_71 : decode prog_9_method_42_code 71 = .ok (.iastore, 1) := by decide +kernel
theorem d_R_run_72 : decode prog_9_method_42_code 72 = .ok (.iinc 6 1, 3) := by decide +kernel
theorem d_R_run_75 : decode prog_9_method_42_code 75 = .ok (.goto (-18), 3) := by decide +kernel
theorem d_R_run_78 : decode prog_9_method_42_code 78 = .ok (.aload_n 0, 1) := by decide +kernel
theorem d_R_run_79 : decode prog_9_method_42_code 79 = .ok (.iconst 0, 1) := by decide +kernel
theorem d_R_run_80 : decode prog_9_method_42_code 80 = .ok (.putfield 163, 3) := by decide +kernel
theorem d_R_run_83 : decode prog_9_method_42_code 83 = .ok (.aload_n 0, 1) := by decide +kernel
theorem d_R_run_84 : decode prog_9_method_42_code 84 = .ok (.iload_n 2, 1) := by decide +kernel
theorem d_R_run_85 : decode prog_9_method_42_code 85 = .ok (.iload_n 3, 1) := by decide +kernel
theorem d_R_run_86 : decode prog_9_method_42_code 86 = .ok (.iload 4, 2) := by decide +kernel
theorem d_R_run_88 : decode prog_9_method_42_code 88 = .ok (.invokevirtual 172, 3) := by decide +kernel
theorem d_R_run_91 : decode prog_9_method_42_code 91 = .ok (.iconst 0, 1) := by decide +kernel
theorem d_R_run_92 : decode prog_9_method_42_code 92 = .ok (.istore 6, 2) := by decide +kernel
theorem d_R_run_94 : decode prog_9_method_42_code 94 = .ok (.aload_n 0, 1) := by decide +kernel
theorem d_R_run_95 : decode prog_9_method_42_code 95 = .ok (.getfield 92, 3) := by decide +kernel
theorem d_R_run_98 : decode prog_9_method_42_code 98 = .ok (.ifCond .ne 38, 3) := by decide +kernel
theorem d_R_run_101 : decode prog_9_method_42_code 101 = .ok (.aload_n 0, 1) := by decide +kernel
theorem d_R_run_102 : decode prog_9_method_42_code 102 = .ok (.getfield 163, 3) := by decide +kernel
theorem d_R_run_105 : decode prog_9_method_42_code 105 = .ok (.ifCond .le 31, 3) := by decide +kernel
theorem d_R_run_108 : decode prog_9_method_42_code 108 = .ok (.iload 6, 2) := by decide +kernel
theorem d_R_run_110 : decode prog_9_method_42_code 110 = .ok (.sipush 400, 3) := by decide +kernel
theorem d_R_run_113 : decode prog_9_method_42_code 113 = .ok (.if_icmp .ne 11, 3) := by decide +kernel
theorem d_R_run_116 : decode prog_9_method_42_code 116 = .ok (.aload_n 0, 1) := by decide +kernel
theorem d_R_run_117 : decode prog_9_method_42_code 117 = .ok (.iconst 5, 1) := by decide +kernel
theorem d_R_run_118 : decode prog_9_method_42_code 118 = .ok (.putfield 92, 3) := by decide +kernel
theorem d_R_run_121 : decode prog_9_method_42_code 121 = .ok (.goto (-27), 3) := by decide +kernel
theorem d_R_run_124 : decode prog_9_method_42_code 124 = .ok (.iinc 6 1, 3) := by decide +kernel
theorem d_R_run_127 : decode prog_9_method_42_code 127 = .ok (.aload_n 0, 1) := by decide +kernel
theorem d_R_run_128 : decode prog_9_method_42_code 128 = .ok (.iload 5, 2) := by decide +kernel
theorem d_R_run_130 : decode prog_9_method_42_code 130 = .ok (.invokevirtual 186, 3) := by decide +kernel
theorem d_R_run_133 : decode prog_9_method_42_code 133 = .ok (.goto (-39), 3) := by decide +kernel
theorem d_R_run_136 : decode prog_9_method_42_code 136 = .ok (.aload_n 0, 1) := by decide +kernel
theorem d_R_run_137 : decode prog_9_method_42_code 137 = .ok (.getfield 92, 3) := by decide +kernel
theorem d_R_run_140 : decode prog_9_method_42_code 140 = .ok (.ifCond .le 7, 3) := by decide +kernel
theorem d_R_run_143 : decode prog_9_method_42_code 143 = .ok (.iconst 0, 1) := by decide +kernel
theorem d_R_run_144 : decode prog_9_method_42_code 144 = .ok (.goto 7, 3) := by decide +kernel
theorem d_R_run_147 : decode prog_9_method_42_code 147 = .ok (.aload_n 0, 1) := by decide +kernel
theorem d_R_run_148 : decode prog_9_method_42_code 148 = .ok (.getfield 180, 3) := by decide +kernel
theorem d_R_run_151 : decode prog_9_method_42_code 151 = .ok (.ireturn, 1) := by decide +kernel
def g_R_step_361 (v0 : Nat) (M : XM) : XP :=
    gI M 27 v0 0 fun t1 =>
    if ¬ t1 = 0 then
    (some (.inl none, M))
    else
    gI M 27 v0 22 fun t2 =>
    if t2 ≤ 0 then
    (some (.inl none, M))
    else
    gI M 27 v0 29 fun t3 =>
    rv M 27 v0 <|
    cV (g_R_push v0 t3 M) fun M5 =>
    some (.inl none, M5)
def g_R_step (v0 : Nat) (v1 : Int32) (M : XM) : XP :=
    gI M 27 v0 22 fun t1 =>
    gR M 27 v0 23 fun t2 =>
    aI M t2 (t1 - 1) fun t3 =>
    gR M 27 v0 24 fun t4 =>
    aI M t4 (t1 - 1) fun t5 =>
    gR M 27 v0 10 fun t6 =>
    aI M t6 ((30 * v1) + t3) fun t7 =>
    if t5 < t7 then
    (gR M 27 v0 12 fun t8 =>
    gR M 27 v0 24 fun t9 =>
    aI M t9 (t1 - 1) fun t10 =>
    aI M t8 (((600 * v1) + (20 * t3)) + t10) fun t11 =>
    gR M 27 v0 13 fun t12 =>
    gR M 27 v0 24 fun t13 =>
    aI M t13 (t1 - 1) fun t14 =>
    aI M t12 (((600 * v1) + (20 * t3)) + t14) fun t15 =>
    gR M 27 v0 7 fun t16 =>
    aI M t16 ((30 * v1) + t3) fun t17 =>
    gR M 27 v0 24 fun t18 =>
    aI M t18 (t1 - 1) fun t19 =>
    sI M t18 (t1 - 1) (t19 + 1) fun M20 =>
    if t11 = 0 then
    (gR M20 27 v0 5 fun t83 =>
    cI (g_R_base v1 t17 M20) fun t85 M84 =>
    aI M84 t83 (t85 + t15) fun t86 =>
    rv M84 27 v0 <|
    cV (g_R_push v0 t86 M84) fun M88 =>
    some (.inl none, M88))
    else
    if t11 = 1 then
    (gR M20 27 v0 21 fun t76 =>
    rv M20 27 v0 <|
    cI (g_R_meant v0 v1 t17 t15 3 M20) fun t79 M78 =>
    aI M78 t76 t79 fun t80 =>
    rv M78 27 v0 <|
    cV (g_R_push v0 t80 M78) fun M82 =>
    some (.inl none, M82))
    else
    if t11 = 2 then
    (rv M20 27 v0 <|
    cI (g_R_pop v0  M20) fun t70 M69 =>
    gR M69 27 v0 21 fun t71 =>
    rv M69 27 v0 <|
    cI (g_R_meant v0 v1 t17 t15 3 M69) fun t74 M73 =>
    sI M73 t71 t74 t70 fun M75 =>
    some (.inl none, M75))
    else
    if t11 = 3 then
    (rv M20 27 v0 <|
    cI (g_R_meant v0 v1 t17 t15 4 M20) fun t65 M64 =>
    rv M64 27 v0 <|
    cV (g_R_call v0 v1 t65 M64) fun M67 =>
    some (.inl none, M67))
    else
    if t11 = 4 then
    (if ¬ t15 = 0 then
    (gR M20 27 v0 26 fun t55 =>
    aI M20 t55 (t1 - 1) fun t56 =>
    rv M20 27 v0 <|
    cV (g_R_push v0 t56 M20) fun M58 =>
    some (.inl none, M58))
    else
    gR M20 27 v0 25 fun t59 =>
    aI M20 t59 (t1 - 1) fun t60 =>
    rv M20 27 v0 <|
    cV (g_R_push v0 t60 M20) fun M62 =>
    some (.inl none, M62))
    else
    if t11 = 5 then
    (rv M20 27 v0 <|
    cV (g_R_arithmetic v0 t11 M20) fun M54 =>
    some (.inl none, M54))
    else
    if t11 = 6 then
    (rv M20 27 v0 <|
    cV (g_R_arithmetic v0 t11 M20) fun M52 =>
    some (.inl none, M52))
    else
    if t11 = 7 then
    (rv M20 27 v0 <|
    cV (g_R_arithmetic v0 t11 M20) fun M50 =>
    some (.inl none, M50))
    else
    if t11 = 8 then
    (rv M20 27 v0 <|
    cV (g_R_arithmetic v0 t11 M20) fun M48 =>
    some (.inl none, M48))
    else
    if t11 = 9 then
    (rv M20 27 v0 <|
    cI (g_R_pop v0  M20) fun t41 M40 =>
    gR M40 27 v0 24 fun t42 =>
    if ¬ t41 = 0 then
    (gR M40 27 v0 24 fun t43 =>
    aI M40 t43 (t1 - 1) fun t44 =>
    sI M40 t42 (t1 - 1) t44 fun M45 =>
    some (.inl none, M45))
    else
    sI M40 t42 (t1 - 1) t15 fun M46 =>
    some (.inl none, M46))
    else
    if t11 = 10 then
    (gR M20 27 v0 24 fun t37 =>
    sI M20 t37 (t1 - 1) t15 fun M38 =>
    some (.inl none, M38))
    else
    if t11 = 11 then
    (rv M20 27 v0 <|
    cI (g_R_pop v0  M20) fun t32 M31 =>
    uI M31 27 v0 29 t32 fun M33 =>
    gI M33 27 v0 0 fun t34 =>
    if ¬ t34 = 0 then
    (g_R_step_361 v0 M33)
    else
    gI M33 27 v0 22 fun t35 =>
    uI M33 27 v0 22 (t35 - 1) fun M36 =>
    g_R_step_361 v0 M36)
    else
    if t11 = 12 then
    (rv M20 27 v0 <|
    cI (g_R_pop v0  M20) fun t25 M24 =>
    gI M24 27 v0 0 fun t26 =>
    if t26 ≤ 0 then
    (uI M24 27 v0 0 4 fun M27 =>
    some (.inl none, M27))
    else
    gI M24 27 v0 0 fun t28 =>
    uI M24 27 v0 0 t28 fun M29 =>
    some (.inl none, M29))
    else
    rv M20 27 v0 <|
    cV (g_R_arithmetic v0 t11 M20) fun M22 =>
    some (.inl none, M22))
    else
    uI M 27 v0 0 5 fun M89 =>
    some (.inl none, M89)
def g_R_run_136 (v0 : Nat) (M : XM) : XP :=
    gI M 27 v0 0 fun t1 =>
    if t1 ≤ 0 then
    (gI M 27 v0 29 fun t2 =>
    some (.inl (some (.int t2)), M))
    else
    some (.inl (some (.int 0)), M)
def g_R_run_94 : Nat → Nat → Int32 → Int32 → XM → XP
  | 0, _, _, _, _ => none
  | n + 1, v0, v5, v6, M =>
    gI M 27 v0 0 fun t1 =>
    if ¬ t1 = 0 then
    (g_R_run_136 v0 M)
    else
    gI M 27 v0 22 fun t2 =>
    if t2 ≤ 0 then
    (g_R_run_136 v0 M)
    else
    if ¬ v6 = 400 then
    (rv M 27 v0 <|
    cV (g_R_step v0 v5 M) fun M4 =>
    g_R_run_94 n v0 v5 ((v6 + 1)) M4)
    else
    uI M 27 v0 0 5 fun M5 =>
    g_R_run_94 n v0 v5 v6 M5
def g_R_run_57 : Nat → Nat → Int32 → Int32 → Int32 → Int32 → Int32 → XM → XP
  | 0, _, _, _, _, _, _, _ => none
  | n + 1, v0, v2, v3, v4, v5, v6, M =>
    if 30 ≤ v6 then
    (uI M 27 v0 22 0 fun M1 =>
    rv M1 27 v0 <|
    cV (g_R_begin v0 v2 v3 v4 M1) fun M3 =>
    g_R_run_94 FU v0 v5 0 M3)
    else
    gR M 27 v0 21 fun t4 =>
    sI M t4 v6 0 fun M5 =>
    g_R_run_57 n v0 v2 v3 v4 v5 ((v6 + 1)) M5
def g_R_run_42 (v0 : Nat) (v2 : Int32) (v3 : Int32) (v4 : Int32) (v5 : Int32) (s0 : Nat) (s1 : Int32) (M : XM) : XP :=
    uI M 27 s0 0 s1 fun M1 =>
    gI M1 27 v0 0 fun t2 =>
    if t2 ≤ 0 then
    (g_R_run_57 FU v0 v2 v3 v4 v5 0 M1)
    else
    some (.inl (some (.int 0)), M1)
def g_R_run_41 (v0 : Nat) (v2 : Int32) (v3 : Int32) (v4 : Int32) (v5 : Int32) (s0 : Nat) (M : XM) : XP :=
    g_R_run_42 v0 v2 v3 v4 v5 s0 0 M
def g_R_run_9 (v0 : Nat) (v1 : Int32) (v2 : Int32) (v3 : Int32) (v4 : Int32) (s0 : Int32) (M : XM) : XP :=
    rv M 27 v0 <|
    cI (g_R_noMethod v0 s0 v2 M) fun t3 M2 =>
    if t3 = 0 then
    (if ¬ v1 = 0 then
    (g_R_run_41 v0 v2 v3 v4 s0 v0 M2)
    else
    rv M2 27 v0 <|
    cI (g_R_firstFault v0  M2) fun t6 M5 =>
    if t6 < 0 then
    (g_R_run_41 v0 v2 v3 v4 s0 v0 M5)
    else
    g_R_run_42 v0 v2 v3 v4 s0 v0 2 M5)
    else
    g_R_run_42 v0 v2 v3 v4 s0 v0 1 M2
def g_R_run (v0 : Nat) (v1 : Int32) (v2 : Int32) (v3 : Int32) (v4 : Int32) (M : XM) : XP :=
    if v1 = 0 then
    (g_R_run_9 v0 v1 v2 v3 v4 0 M)
    else
    g_R_run_9 v0 v1 v2 v3 v4 1 M
section XG
variable {K : XK} {o : XO} {N : XM}
theorem p_R_step_361 (G : xG K) (v0 : Nat) (M : XM) (h : g_R_step_361 v0 M = some (o, N)) : cA K y_R_step 361 [(0, .ref v0)] [] M o N := by
  unfold g_R_step_361 at h
  refine x_aload_n (pc := 361) d_R_step_361 rfl 0 rfl ?_
  refine h_getI G (pc := 362) (ci := 7) (j := 0) d_R_step_362 rfl rfl rfl lf_R_92 h fun t1 h => ?_
  refine h_if_ne (pc := 365) 420 d_R_step_365 (by decide) h (fun _ h => ?_) (fun _ h => ?_)
  · exact h_return (pc := 420) d_R_step_420 rfl h
  · refine x_aload_n (pc := 368) d_R_step_368 rfl 0 rfl ?_
    refine h_getI G (pc := 369) (ci := 7) (j := 22) d_R_step_369 rfl rfl rfl lf_R_163 h fun t2 h => ?_
    refine h_if_le (pc := 372) 420 d_R_step_372 (by decide) h (fun _ h => ?_) (fun _ h => ?_)
    · exact h_return (pc := 420) d_R_step_420 rfl h
    · refine x_aload_n (pc := 375) d_R_step_375 rfl 0 rfl ?_
      refine x_aload_n (pc := 376) d_R_step_376 rfl 0 rfl ?_
      refine h_getI G (pc := 377) (ci := 7) (j := 29) d_R_step_377 rfl rfl rfl lf_R_180 h fun t3 h => ?_
      obtain ⟨⟨ra4, ra4t⟩, h⟩ := h_ok h
      refine h_callV G (x_siteV G (pc := 380) (y2 := y_R_push) (As := [.int t3]) (S := []) (ci := 7) d_R_step_380 rfl lm_R_169 mi_R_push ms_R_push mw_R_push.1 mx_R_push.1 mx_R_push.2 rfl ra4 ra4t) mw_R_push ⟨Nat.le_of_ble_eq_true rfl, Nat.le_of_ble_eq_true rfl⟩ rfl (fun _ _ e => p_R_push G _ _ _ e) h fun M5 h => ?_
      refine x_goto (pc := 383) 420 d_R_step_383 (by decide) ?_
      exact h_return (pc := 420) d_R_step_420 rfl h
theorem p_R_step (G : xG K) (v0 : Nat) (v1 : Int32) (M : XM) (h : g_R_step v0 v1 M = some (o, N)) : Ct K y_R_step [.ref v0, .int v1] M o N := by
  refine ct_of (by decide) (List.forall_mem_cons.mpr ⟨rfl, List.forall_mem_cons.mpr ⟨rfl, fun _ q => absurd q List.not_mem_nil⟩⟩) (Nat.le_of_ble_eq_true rfl) ?_
  show cA K y_R_step 0 [(0, .ref v0), (1, .int v1)] [] M o N
  unfold g_R_step at h
  refine x_aload_n (pc := 0) d_R_step_0 rfl 0 rfl ?_
  refine h_getI G (pc := 1) (ci := 7) (j := 22) d_R_step_1 rfl rfl rfl lf_R_163 h fun t1 h => ?_
  refine x_iconst (pc := 4) d_R_step_4 rfl ?_
  refine x_isub (pc := 5) d_R_step_5 ?_
  refine x_istore_n (pc := 6) (L' := [(0, .ref v0), (1, .int v1), (2, .int (t1 - 1))]) d_R_step_6 rfl (by decide) rfl ?_
  refine x_aload_n (pc := 7) d_R_step_7 rfl 0 rfl ?_
  refine h_getR G (pc := 8) (ci := 7) (j := 23) d_R_step_8 rfl rfl rfl lf_R_74 h fun t2 h => ?_
  refine x_iload_n (pc := 11) d_R_step_11 rfl 2 rfl ?_
  refine h_iaload (pc := 12) d_R_step_12 h fun t3 h => ?_
  refine x_istore_n (pc := 13) (L' := [(0, .ref v0), (1, .int v1), (2, .int (t1 - 1)), (3, .int t3)]) d_R_step_13 rfl (by decide) rfl ?_
  refine x_aload_n (pc := 14) d_R_step_14 rfl 0 rfl ?_
  refine h_getR G (pc := 15) (ci := 7) (j := 24) d_R_step_15 rfl rfl rfl lf_R_77 h fun t4 h => ?_
  refine x_iload_n (pc := 18) d_R_step_18 rfl 2 rfl ?_
  refine h_iaload (pc := 19) d_R_step_19 h fun t5 h => ?_
  refine x_aload_n (pc := 20) d_R_step_20 rfl 0 rfl ?_
  refine h_getR G (pc := 21) (ci := 7) (j := 10) d_R_step_21 rfl rfl rfl lf_R_37 h fun t6 h => ?_
  refine x_bipush (pc := 24) (v := 30) d_R_step_24 (by decide) ?_
  refine x_iload_n (pc := 26) d_R_step_26 rfl 1 rfl ?_
  refine x_imul (pc := 27) d_R_step_27 ?_
  refine x_iload_n (pc := 28) d_R_step_28 rfl 3 rfl ?_
  refine x_iadd (pc := 29) d_R_step_29 ?_
  refine h_iaload (pc := 30) d_R_step_30 h fun t7 h => ?_
  refine h_icmp_lt (pc := 31) 40 d_R_step_31 (by decide) h (fun _ h => ?_) (fun _ h => ?_)
  · refine x_aload_n (pc := 40) d_R_step_40 rfl 0 rfl ?_
    refine h_getR G (pc := 41) (ci := 7) (j := 12) d_R_step_41 rfl rfl rfl lf_R_44 h fun t8 h => ?_
    refine x_sipush (pc := 44) (v := 600) d_R_step_44 (by decide) ?_
    refine x_iload_n (pc := 47) d_R_step_47 rfl 1 rfl ?_
    refine x_imul (pc := 48) d_R_step_48 ?_
    refine x_bipush (pc := 49) (v := 20) d_R_step_49 (by decide) ?_
    refine x_iload_n (pc := 51) d_R_step_51 rfl 3 rfl ?_
    refine x_imul (pc := 52) d_R_step_52 ?_
    refine x_iadd (pc := 53) d_R_step_53 ?_
    refine x_aload_n (pc := 54) d_R_step_54 rfl 0 rfl ?_
    refine h_getR G (pc := 55) (ci := 7) (j := 24) d_R_step_55 rfl rfl rfl lf_R_77 h fun t9 h => ?_
    refine x_iload_n (pc := 58) d_R_step_58 rfl 2 rfl ?_
    refine h_iaload (pc := 59) d_R_step_59 h fun t10 h => ?_
    refine x_iadd (pc := 60) d_R_step_60 ?_
    refine h_iaload (pc := 61) d_R_step_61 h fun t11 h => ?_
    refine x_istore (pc := 62) (L' := [(0, .ref v0), (1, .int v1), (2, .int (t1 - 1)), (3, .int t3), (4, .int t11)]) d_R_step_62 (by decide) rfl ?_
    refine x_aload_n (pc := 64) d_R_step_64 rfl 0 rfl ?_
    refine h_getR G (pc := 65) (ci := 7) (j := 13) d_R_step_65 rfl rfl rfl lf_R_47 h fun t12 h => ?_
    refine x_sipush (pc := 68) (v := 600) d_R_step_68 (by decide) ?_
    refine x_iload_n (pc := 71) d_R_step_71 rfl 1 rfl ?_
    refine x_imul (pc := 72) d_R_step_72 ?_
    refine x_bipush (pc := 73) (v := 20) d_R_step_73 (by decide) ?_
    refine x_iload_n (pc := 75) d_R_step_75 rfl 3 rfl ?_
    refine x_imul (pc := 76) d_R_step_76 ?_
    refine x_iadd (pc := 77) d_R_step_77 ?_
    refine x_aload_n (pc := 78) d_R_step_78 rfl 0 rfl ?_
    refine h_getR G (pc := 79) (ci := 7) (j := 24) d_R_step_79 rfl rfl rfl lf_R_77 h fun t13 h => ?_
    refine x_iload_n (pc := 82) d_R_step_82 rfl 2 rfl ?_
    refine h_iaload (pc := 83) d_R_step_83 h fun t14 h => ?_
    refine x_iadd (pc := 84) d_R_step_84 ?_
    refine h_iaload (pc := 85) d_R_step_85 h fun t15 h => ?_
    refine x_istore (pc := 86) (L' := [(0, .ref v0), (1, .int v1), (2, .int (t1 - 1)), (3, .int t3), (4, .int t11), (5, .int t15)]) d_R_step_86 (by decide) rfl ?_
    refine x_aload_n (pc := 88) d_R_step_88 rfl 0 rfl ?_
    refine h_getR G (pc := 89) (ci := 7) (j := 7) d_R_step_89 rfl rfl rfl lf_R_28 h fun t16 h => ?_
    refine x_bipush (pc := 92) (v := 30) d_R_step_92 (by decide) ?_
    refine x_iload_n (pc := 94) d_R_step_94 rfl 1 rfl ?_
    refine x_imul (pc := 95) d_R_step_95 ?_
    refine x_iload_n (pc := 96) d_R_step_96 rfl 3 rfl ?_
    refine x_iadd (pc := 97) d_R_step_97 ?_
    refine h_iaload (pc := 98) d_R_step_98 h fun t17 h => ?_
    refine x_istore (pc := 99) (L' := [(0, .ref v0), (1, .int v1), (2, .int (t1 - 1)), (3, .int t3), (4, .int t11), (5, .int t15), (6, .int t17)]) d_R_step_99 (by decide) rfl ?_
    refine x_aload_n (pc := 101) d_R_step_101 rfl 0 rfl ?_
    refine h_getR G (pc := 102) (ci := 7) (j := 24) d_R_step_102 rfl rfl rfl lf_R_77 h fun t18 h => ?_
    refine x_iload_n (pc := 105) d_R_step_105 rfl 2 rfl ?_
    refine x_dup2 (pc := 106) d_R_step_106 rfl rfl ?_
    refine h_iaload (pc := 107) d_R_step_107 h fun t19 h => ?_
    refine x_iconst (pc := 108) d_R_step_108 rfl ?_
    refine x_iadd (pc := 109) d_R_step_109 ?_
    refine h_iastore G (pc := 110) d_R_step_110 h fun M20 h => ?_
    refine x_iload (pc := 111) d_R_step_111 4 rfl ?_
    refine h_case h (fun c0 h => ?_) (fun c0 h => ?_)
    · refine x_tableIn (pc := 113) 180 d_R_step_113 (by rw [c0]; decide) (by rw [c0]; decide) (off := 67) (by rw [c0]; rfl) (by decide) ?_
      refine x_aload_n (pc := 180) d_R_step_180 rfl 0 rfl ?_
      refine x_aload_n (pc := 181) d_R_step_181 rfl 0 rfl ?_
      refine h_getR G (pc := 182) (ci := 7) (j := 5) d_R_step_182 rfl rfl rfl lf_R_22 h fun t83 h => ?_
      refine x_iload_n (pc := 185) d_R_step_185 rfl 1 rfl ?_
      refine x_iload (pc := 186) d_R_step_186 6 rfl ?_
      refine h_callI G (x_siteS G (pc := 188) (y2 := y_R_base) (As := [.int v1, .int t17]) (S := [.ref t83, .ref v0]) d_R_step_188 lm_R_100 mi_R_base mw_R_base.2 mw_R_base.1 mx_R_base.1 mx_R_base.2 rfl) mw_R_base ⟨Nat.le_of_ble_eq_true rfl, Nat.le_of_ble_eq_true rfl⟩ rfl (fun _ _ e => p_R_base G _ _ _ e) h fun t85 M84 h => ?_
      refine x_iload (pc := 191) d_R_step_191 5 rfl ?_
      refine x_iadd (pc := 193) d_R_step_193 ?_
      refine h_iaload (pc := 194) d_R_step_194 h fun t86 h => ?_
      obtain ⟨⟨ra87, ra87t⟩, h⟩ := h_ok h
      refine h_callV G (x_siteV G (pc := 195) (y2 := y_R_push) (As := [.int t86]) (S := []) (ci := 7) d_R_step_195 rfl lm_R_169 mi_R_push ms_R_push mw_R_push.1 mx_R_push.1 mx_R_push.2 rfl ra87 ra87t) mw_R_push ⟨Nat.le_of_ble_eq_true rfl, Nat.le_of_ble_eq_true rfl⟩ rfl (fun _ _ e => p_R_push G _ _ _ e) h fun M88 h => ?_
      refine x_goto (pc := 198) 420 d_R_step_198 (by decide) ?_
      exact h_return (pc := 420) d_R_step_420 rfl h
    · refine h_case h (fun c1 h => ?_) (fun c1 h => ?_)
      · refine x_tableIn (pc := 113) 201 d_R_step_113 (by rw [c1]; decide) (by rw [c1]; decide) (off := 88) (by rw [c1]; rfl) (by decide) ?_
        refine x_aload_n (pc := 201) d_R_step_201 rfl 0 rfl ?_
        refine x_aload_n (pc := 202) d_R_step_202 rfl 0 rfl ?_
        refine h_getR G (pc := 203) (ci := 7) (j := 21) d_R_step_203 rfl rfl rfl lf_R_71 h fun t76 h => ?_
        refine x_aload_n (pc := 206) d_R_step_206 rfl 0 rfl ?_
        refine x_iload_n (pc := 207) d_R_step_207 rfl 1 rfl ?_
        refine x_iload (pc := 208) d_R_step_208 6 rfl ?_
        refine x_iload (pc := 210) d_R_step_210 5 rfl ?_
        refine x_iconst (pc := 212) d_R_step_212 rfl ?_
        obtain ⟨⟨ra77, ra77t⟩, h⟩ := h_ok h
        refine h_callI G (x_siteV G (pc := 213) (y2 := y_R_meant) (As := [.int v1, .int t17, .int t15, .int 3]) (S := [.ref t76, .ref v0]) (ci := 7) d_R_step_213 rfl lm_R_121 mi_R_meant ms_R_meant mw_R_meant.1 mx_R_meant.1 mx_R_meant.2 rfl ra77 ra77t) mw_R_meant ⟨Nat.le_of_ble_eq_true rfl, Nat.le_of_ble_eq_true rfl⟩ rfl (fun _ _ e => p_R_meant G _ _ _ _ _ _ e) h fun t79 M78 h => ?_
        refine h_iaload (pc := 216) d_R_step_216 h fun t80 h => ?_
        obtain ⟨⟨ra81, ra81t⟩, h⟩ := h_ok h
        refine h_callV G (x_siteV G (pc := 217) (y2 := y_R_push) (As := [.int t80]) (S := []) (ci := 7) d_R_step_217 rfl lm_R_169 mi_R_push ms_R_push mw_R_push.1 mx_R_push.1 mx_R_push.2 rfl ra81 ra81t) mw_R_push ⟨Nat.le_of_ble_eq_true rfl, Nat.le_of_ble_eq_true rfl⟩ rfl (fun _ _ e => p_R_push G _ _ _ e) h fun M82 h => ?_
        refine x_goto (pc := 220) 420 d_R_step_220 (by decide) ?_
        exact h_return (pc := 420) d_R_step_420 rfl h
      · refine h_case h (fun c2 h => ?_) (fun c2 h => ?_)
        · refine x_tableIn (pc := 113) 223 d_R_step_113 (by rw [c2]; decide) (by rw [c2]; decide) (off := 110) (by rw [c2]; rfl) (by decide) ?_
          refine x_aload_n (pc := 223) d_R_step_223 rfl 0 rfl ?_
          obtain ⟨⟨ra68, ra68t⟩, h⟩ := h_ok h
          refine h_callI G (x_siteV G (pc := 224) (y2 := y_R_pop) (As := []) (S := []) (ci := 7) d_R_step_224 rfl lm_R_166 mi_R_pop ms_R_pop mw_R_pop.1 mx_R_pop.1 mx_R_pop.2 rfl ra68 ra68t) mw_R_pop ⟨Nat.le_of_ble_eq_true rfl, Nat.le_of_ble_eq_true rfl⟩ rfl (fun _ _ e => p_R_pop G _ _ e) h fun t70 M69 h => ?_
          refine x_istore (pc := 227) (L' := [(0, .ref v0), (1, .int v1), (2, .int (t1 - 1)), (3, .int t3), (4, .int t11), (5, .int t15), (6, .int t17), (7, .int t70)]) d_R_step_227 (by decide) rfl ?_
          refine x_aload_n (pc := 229) d_R_step_229 rfl 0 rfl ?_
          refine h_getR G (pc := 230) (ci := 7) (j := 21) d_R_step_230 rfl rfl rfl lf_R_71 h fun t71 h => ?_
          refine x_aload_n (pc := 233) d_R_step_233 rfl 0 rfl ?_
          refine x_iload_n (pc := 234) d_R_step_234 rfl 1 rfl ?_
          refine x_iload (pc := 235) d_R_step_235 6 rfl ?_
          refine x_iload (pc := 237) d_R_step_237 5 rfl ?_
          refine x_iconst (pc := 239) d_R_step_239 rfl ?_
          obtain ⟨⟨ra72, ra72t⟩, h⟩ := h_ok h
          refine h_callI G (x_siteV G (pc := 240) (y2 := y_R_meant) (As := [.int v1, .int t17, .int t15, .int 3]) (S := [.ref t71]) (ci := 7) d_R_step_240 rfl lm_R_121 mi_R_meant ms_R_meant mw_R_meant.1 mx_R_meant.1 mx_R_meant.2 rfl ra72 ra72t) mw_R_meant ⟨Nat.le_of_ble_eq_true rfl, Nat.le_of_ble_eq_true rfl⟩ rfl (fun _ _ e => p_R_meant G _ _ _ _ _ _ e) h fun t74 M73 h => ?_
          refine x_iload (pc := 243) d_R_step_243 7 rfl ?_
          refine h_iastore G (pc := 245) d_R_step_245 h fun M75 h => ?_
          refine x_goto (pc := 246) 420 d_R_step_246 (by decide) ?_
          exact h_return (pc := 420) d_R_step_420 rfl h
        · refine h_case h (fun c3 h => ?_) (fun c3 h => ?_)
          · refine x_tableIn (pc := 113) 249 d_R_step_113 (by rw [c3]; decide) (by rw [c3]; decide) (off := 136) (by rw [c3]; rfl) (by decide) ?_
            refine x_aload_n (pc := 249) d_R_step_249 rfl 0 rfl ?_
            refine x_iload_n (pc := 250) d_R_step_250 rfl 1 rfl ?_
            refine x_aload_n (pc := 251) d_R_step_251 rfl 0 rfl ?_
            refine x_iload_n (pc := 252) d_R_step_252 rfl 1 rfl ?_
            refine x_iload (pc := 253) d_R_step_253 6 rfl ?_
            refine x_iload (pc := 255) d_R_step_255 5 rfl ?_
            refine x_iconst (pc := 257) d_R_step_257 rfl ?_
            obtain ⟨⟨ra63, ra63t⟩, h⟩ := h_ok h
            refine h_callI G (x_siteV G (pc := 258) (y2 := y_R_meant) (As := [.int v1, .int t17, .int t15, .int 4]) (S := [.int v1, .ref v0]) (ci := 7) d_R_step_258 rfl lm_R_121 mi_R_meant ms_R_meant mw_R_meant.1 mx_R_meant.1 mx_R_meant.2 rfl ra63 ra63t) mw_R_meant ⟨Nat.le_of_ble_eq_true rfl, Nat.le_of_ble_eq_true rfl⟩ rfl (fun _ _ e => p_R_meant G _ _ _ _ _ _ e) h fun t65 M64 h => ?_
            obtain ⟨⟨ra66, ra66t⟩, h⟩ := h_ok h
            refine h_callV G (x_siteV G (pc := 261) (y2 := y_R_call) (As := [.int v1, .int t65]) (S := []) (ci := 7) d_R_step_261 rfl lm_R_176 mi_R_call ms_R_call mw_R_call.1 mx_R_call.1 mx_R_call.2 rfl ra66 ra66t) mw_R_call ⟨Nat.le_of_ble_eq_true rfl, Nat.le_of_ble_eq_true rfl⟩ rfl (fun _ _ e => p_R_call G _ _ _ _ e) h fun M67 h => ?_
            refine x_goto (pc := 264) 420 d_R_step_264 (by decide) ?_
            exact h_return (pc := 420) d_R_step_420 rfl h
          · refine h_case h (fun c4 h => ?_) (fun c4 h => ?_)
            · refine x_tableIn (pc := 113) 267 d_R_step_113 (by rw [c4]; decide) (by rw [c4]; decide) (off := 154) (by rw [c4]; rfl) (by decide) ?_
              refine x_aload_n (pc := 267) d_R_step_267 rfl 0 rfl ?_
              refine x_iload (pc := 268) d_R_step_268 5 rfl ?_
              refine h_if_ne (pc := 270) 282 d_R_step_270 (by decide) h (fun _ h => ?_) (fun _ h => ?_)
              · refine x_aload_n (pc := 282) d_R_step_282 rfl 0 rfl ?_
                refine h_getR G (pc := 283) (ci := 7) (j := 26) d_R_step_283 rfl rfl rfl lf_R_83 h fun t55 h => ?_
                refine x_iload_n (pc := 286) d_R_step_286 rfl 2 rfl ?_
                refine h_iaload (pc := 287) d_R_step_287 h fun t56 h => ?_
                obtain ⟨⟨ra57, ra57t⟩, h⟩ := h_ok h
                refine h_callV G (x_siteV G (pc := 288) (y2 := y_R_push) (As := [.int t56]) (S := []) (ci := 7) d_R_step_288 rfl lm_R_169 mi_R_push ms_R_push mw_R_push.1 mx_R_push.1 mx_R_push.2 rfl ra57 ra57t) mw_R_push ⟨Nat.le_of_ble_eq_true rfl, Nat.le_of_ble_eq_true rfl⟩ rfl (fun _ _ e => p_R_push G _ _ _ e) h fun M58 h => ?_
                refine x_goto (pc := 291) 420 d_R_step_291 (by decide) ?_
                exact h_return (pc := 420) d_R_step_420 rfl h
              · refine x_aload_n (pc := 273) d_R_step_273 rfl 0 rfl ?_
                refine h_getR G (pc := 274) (ci := 7) (j := 25) d_R_step_274 rfl rfl rfl lf_R_80 h fun t59 h => ?_
                refine x_iload_n (pc := 277) d_R_step_277 rfl 2 rfl ?_
                refine h_iaload (pc := 278) d_R_step_278 h fun t60 h => ?_
                refine x_goto (pc := 279) 288 d_R_step_279 (by decide) ?_
                obtain ⟨⟨ra61, ra61t⟩, h⟩ := h_ok h
                refine h_callV G (x_siteV G (pc := 288) (y2 := y_R_push) (As := [.int t60]) (S := []) (ci := 7) d_R_step_288 rfl lm_R_169 mi_R_push ms_R_push mw_R_push.1 mx_R_push.1 mx_R_push.2 rfl ra61 ra61t) mw_R_push ⟨Nat.le_of_ble_eq_true rfl, Nat.le_of_ble_eq_true rfl⟩ rfl (fun _ _ e => p_R_push G _ _ _ e) h fun M62 h => ?_
                refine x_goto (pc := 291) 420 d_R_step_291 (by decide) ?_
                exact h_return (pc := 420) d_R_step_420 rfl h
            · refine h_case h (fun c5 h => ?_) (fun c5 h => ?_)
              · refine x_tableIn (pc := 113) 414 d_R_step_113 (by rw [c5]; decide) (by rw [c5]; decide) (off := 301) (by rw [c5]; rfl) (by decide) ?_
                refine x_aload_n (pc := 414) d_R_step_414 rfl 0 rfl ?_
                refine x_iload (pc := 415) d_R_step_415 4 rfl ?_
                obtain ⟨⟨ra53, ra53t⟩, h⟩ := h_ok h
                refine h_callV G (x_siteV G (pc := 417) (y2 := y_R_arithmetic) (As := [.int t11]) (S := []) (ci := 7) d_R_step_417 rfl lm_R_183 mi_R_arithmetic ms_R_arithmetic mw_R_arithmetic.1 mx_R_arithmetic.1 mx_R_arithmetic.2 rfl ra53 ra53t) mw_R_arithmetic ⟨Nat.le_of_ble_eq_true rfl, Nat.le_of_ble_eq_true rfl⟩ rfl (fun _ _ e => p_R_arithmetic G _ _ _ e) h fun M54 h => ?_
                exact h_return (pc := 420) d_R_step_420 rfl h
              · refine h_case h (fun c6 h => ?_) (fun c6 h => ?_)
                · refine x_tableIn (pc := 113) 414 d_R_step_113 (by rw [c6]; decide) (by rw [c6]; decide) (off := 301) (by rw [c6]; rfl) (by decide) ?_
                  refine x_aload_n (pc := 414) d_R_step_414 rfl 0 rfl ?_
                  refine x_iload (pc := 415) d_R_step_415 4 rfl ?_
                  obtain ⟨⟨ra51, ra51t⟩, h⟩ := h_ok h
                  refine h_callV G (x_siteV G (pc := 417) (y2 := y_R_arithmetic) (As := [.int t11]) (S := []) (ci := 7) d_R_step_417 rfl lm_R_183 mi_R_arithmetic ms_R_arithmetic mw_R_arithmetic.1 mx_R_arithmetic.1 mx_R_arithmetic.2 rfl ra51 ra51t) mw_R_arithmetic ⟨Nat.le_of_ble_eq_true rfl, Nat.le_of_ble_eq_true rfl⟩ rfl (fun _ _ e => p_R_arithmetic G _ _ _ e) h fun M52 h => ?_
                  exact h_return (pc := 420) d_R_step_420 rfl h
                · refine h_case h (fun c7 h => ?_) (fun c7 h => ?_)
                  · refine x_tableIn (pc := 113) 414 d_R_step_113 (by rw [c7]; decide) (by rw [c7]; decide) (off := 301) (by rw [c7]; rfl) (by decide) ?_
                    refine x_aload_n (pc := 414) d_R_step_414 rfl 0 rfl ?_
                    refine x_iload (pc := 415) d_R_step_415 4 rfl ?_
                    obtain ⟨⟨ra49, ra49t⟩, h⟩ := h_ok h
                    refine h_callV G (x_siteV G (pc := 417) (y2 := y_R_arithmetic) (As := [.int t11]) (S := []) (ci := 7) d_R_step_417 rfl lm_R_183 mi_R_arithmetic ms_R_arithmetic mw_R_arithmetic.1 mx_R_arithmetic.1 mx_R_arithmetic.2 rfl ra49 ra49t) mw_R_arithmetic ⟨Nat.le_of_ble_eq_true rfl, Nat.le_of_ble_eq_true rfl⟩ rfl (fun _ _ e => p_R_arithmetic G _ _ _ e) h fun M50 h => ?_
                    exact h_return (pc := 420) d_R_step_420 rfl h
                  · refine h_case h (fun c8 h => ?_) (fun c8 h => ?_)
                    · refine x_tableIn (pc := 113) 414 d_R_step_113 (by rw [c8]; decide) (by rw [c8]; decide) (off := 301) (by rw [c8]; rfl) (by decide) ?_
                      refine x_aload_n (pc := 414) d_R_step_414 rfl 0 rfl ?_
                      refine x_iload (pc := 415) d_R_step_415 4 rfl ?_
                      obtain ⟨⟨ra47, ra47t⟩, h⟩ := h_ok h
                      refine h_callV G (x_siteV G (pc := 417) (y2 := y_R_arithmetic) (As := [.int t11]) (S := []) (ci := 7) d_R_step_417 rfl lm_R_183 mi_R_arithmetic ms_R_arithmetic mw_R_arithmetic.1 mx_R_arithmetic.1 mx_R_arithmetic.2 rfl ra47 ra47t) mw_R_arithmetic ⟨Nat.le_of_ble_eq_true rfl, Nat.le_of_ble_eq_true rfl⟩ rfl (fun _ _ e => p_R_arithmetic G _ _ _ e) h fun M48 h => ?_
                      exact h_return (pc := 420) d_R_step_420 rfl h
                    · refine h_case h (fun c9 h => ?_) (fun c9 h => ?_)
                      · refine x_tableIn (pc := 113) 294 d_R_step_113 (by rw [c9]; decide) (by rw [c9]; decide) (off := 181) (by rw [c9]; rfl) (by decide) ?_
                        refine x_aload_n (pc := 294) d_R_step_294 rfl 0 rfl ?_
                        obtain ⟨⟨ra39, ra39t⟩, h⟩ := h_ok h
                        refine h_callI G (x_siteV G (pc := 295) (y2 := y_R_pop) (As := []) (S := []) (ci := 7) d_R_step_295 rfl lm_R_166 mi_R_pop ms_R_pop mw_R_pop.1 mx_R_pop.1 mx_R_pop.2 rfl ra39 ra39t) mw_R_pop ⟨Nat.le_of_ble_eq_true rfl, Nat.le_of_ble_eq_true rfl⟩ rfl (fun _ _ e => p_R_pop G _ _ e) h fun t41 M40 h => ?_
                        refine x_istore (pc := 298) (L' := [(0, .ref v0), (1, .int v1), (2, .int (t1 - 1)), (3, .int t3), (4, .int t11), (5, .int t15), (6, .int t17), (8, .int t41)]) d_R_step_298 (by decide) rfl ?_
                        refine x_aload_n (pc := 300) d_R_step_300 rfl 0 rfl ?_
                        refine h_getR G (pc := 301) (ci := 7) (j := 24) d_R_step_301 rfl rfl rfl lf_R_77 h fun t42 h => ?_
                        refine x_iload_n (pc := 304) d_R_step_304 rfl 2 rfl ?_
                        refine x_iload (pc := 305) d_R_step_305 7 rfl ?_
                        refine h_if_ne (pc := 307) 315 d_R_step_307 (by decide) h (fun _ h => ?_) (fun _ h => ?_)
                        · refine x_aload_n (pc := 315) d_R_step_315 rfl 0 rfl ?_
                          refine h_getR G (pc := 316) (ci := 7) (j := 24) d_R_step_316 rfl rfl rfl lf_R_77 h fun t43 h => ?_
                          refine x_iload_n (pc := 319) d_R_step_319 rfl 2 rfl ?_
                          refine h_iaload (pc := 320) d_R_step_320 h fun t44 h => ?_
                          refine h_iastore G (pc := 321) d_R_step_321 h fun M45 h => ?_
                          refine x_goto (pc := 322) 420 d_R_step_322 (by decide) ?_
                          exact h_return (pc := 420) d_R_step_420 rfl h
                        · refine x_iload (pc := 310) d_R_step_310 5 rfl ?_
                          refine x_goto (pc := 312) 321 d_R_step_312 (by decide) ?_
                          refine h_iastore G (pc := 321) d_R_step_321 h fun M46 h => ?_
                          refine x_goto (pc := 322) 420 d_R_step_322 (by decide) ?_
                          exact h_return (pc := 420) d_R_step_420 rfl h
                      · refine h_case h (fun c10 h => ?_) (fun c10 h => ?_)
                        · refine x_tableIn (pc := 113) 325 d_R_step_113 (by rw [c10]; decide) (by rw [c10]; decide) (off := 212) (by rw [c10]; rfl) (by decide) ?_
                          refine x_aload_n (pc := 325) d_R_step_325 rfl 0 rfl ?_
                          refine h_getR G (pc := 326) (ci := 7) (j := 24) d_R_step_326 rfl rfl rfl lf_R_77 h fun t37 h => ?_
                          refine x_iload_n (pc := 329) d_R_step_329 rfl 2 rfl ?_
                          refine x_iload (pc := 330) d_R_step_330 5 rfl ?_
                          refine h_iastore G (pc := 332) d_R_step_332 h fun M38 h => ?_
                          refine x_goto (pc := 333) 420 d_R_step_333 (by decide) ?_
                          exact h_return (pc := 420) d_R_step_420 rfl h
                        · refine h_case h (fun c11 h => ?_) (fun c11 h => ?_)
                          · refine x_tableIn (pc := 113) 336 d_R_step_113 (by rw [c11]; decide) (by rw [c11]; decide) (off := 223) (by rw [c11]; rfl) (by decide) ?_
                            refine x_aload_n (pc := 336) d_R_step_336 rfl 0 rfl ?_
                            refine x_aload_n (pc := 337) d_R_step_337 rfl 0 rfl ?_
                            obtain ⟨⟨ra30, ra30t⟩, h⟩ := h_ok h
                            refine h_callI G (x_siteV G (pc := 338) (y2 := y_R_pop) (As := []) (S := [.ref v0]) (ci := 7) d_R_step_338 rfl lm_R_166 mi_R_pop ms_R_pop mw_R_pop.1 mx_R_pop.1 mx_R_pop.2 rfl ra30 ra30t) mw_R_pop ⟨Nat.le_of_ble_eq_true rfl, Nat.le_of_ble_eq_true rfl⟩ rfl (fun _ _ e => p_R_pop G _ _ e) h fun t32 M31 h => ?_
                            refine h_putI G (pc := 341) (ci := 7) (j := 29) d_R_step_341 rfl rfl rfl lf_R_180 h fun M33 h => ?_
                            refine x_aload_n (pc := 344) d_R_step_344 rfl 0 rfl ?_
                            refine h_getI G (pc := 345) (ci := 7) (j := 0) d_R_step_345 rfl rfl rfl lf_R_92 h fun t34 h => ?_
                            refine h_if_ne (pc := 348) 361 d_R_step_348 (by decide) h (fun _ h => ?_) (fun _ h => ?_)
                            · refine x_weak [0] rfl ?_
                              exact p_R_step_361 G _ _ h
                            · refine x_aload_n (pc := 351) d_R_step_351 rfl 0 rfl ?_
                              refine x_dup (pc := 352) d_R_step_352 rfl ?_
                              refine h_getI G (pc := 353) (ci := 7) (j := 22) d_R_step_353 rfl rfl rfl lf_R_163 h fun t35 h => ?_
                              refine x_iconst (pc := 356) d_R_step_356 rfl ?_
                              refine x_isub (pc := 357) d_R_step_357 ?_
                              refine h_putI G (pc := 358) (ci := 7) (j := 22) d_R_step_358 rfl rfl rfl lf_R_163 h fun M36 h => ?_
                              refine x_weak [0] rfl ?_
                              exact p_R_step_361 G _ _ h
                          · refine h_case h (fun c12 h => ?_) (fun c12 h => ?_)
                            · refine x_tableIn (pc := 113) 386 d_R_step_113 (by rw [c12]; decide) (by rw [c12]; decide) (off := 273) (by rw [c12]; rfl) (by decide) ?_
                              refine x_aload_n (pc := 386) d_R_step_386 rfl 0 rfl ?_
                              obtain ⟨⟨ra23, ra23t⟩, h⟩ := h_ok h
                              refine h_callI G (x_siteV G (pc := 387) (y2 := y_R_pop) (As := []) (S := []) (ci := 7) d_R_step_387 rfl lm_R_166 mi_R_pop ms_R_pop mw_R_pop.1 mx_R_pop.1 mx_R_pop.2 rfl ra23 ra23t) mw_R_pop ⟨Nat.le_of_ble_eq_true rfl, Nat.le_of_ble_eq_true rfl⟩ rfl (fun _ _ e => p_R_pop G _ _ e) h fun t25 M24 h => ?_
                              refine x_istore (pc := 390) (L' := [(0, .ref v0), (1, .int v1), (2, .int (t1 - 1)), (3, .int t3), (4, .int t11), (5, .int t15), (6, .int t17), (9, .int t25)]) d_R_step_390 (by decide) rfl ?_
                              refine x_aload_n (pc := 392) d_R_step_392 rfl 0 rfl ?_
                              refine x_aload_n (pc := 393) d_R_step_393 rfl 0 rfl ?_
                              refine h_getI G (pc := 394) (ci := 7) (j := 0) d_R_step_394 rfl rfl rfl lf_R_92 h fun t26 h => ?_
                              refine h_if_le (pc := 397) 407 d_R_step_397 (by decide) h (fun _ h => ?_) (fun _ h => ?_)
                              · refine x_iconst (pc := 407) d_R_step_407 rfl ?_
                                refine h_putI G (pc := 408) (ci := 7) (j := 0) d_R_step_408 rfl rfl rfl lf_R_92 h fun M27 h => ?_
                                refine x_goto (pc := 411) 420 d_R_step_411 (by decide) ?_
                                exact h_return (pc := 420) d_R_step_420 rfl h
                              · refine x_aload_n (pc := 400) d_R_step_400 rfl 0 rfl ?_
                                refine h_getI G (pc := 401) (ci := 7) (j := 0) d_R_step_401 rfl rfl rfl lf_R_92 h fun t28 h => ?_
                                refine x_goto (pc := 404) 408 d_R_step_404 (by decide) ?_
                                refine h_putI G (pc := 408) (ci := 7) (j := 0) d_R_step_408 rfl rfl rfl lf_R_92 h fun M29 h => ?_
                                refine x_goto (pc := 411) 420 d_R_step_411 (by decide) ?_
                                exact h_return (pc := 420) d_R_step_420 rfl h
                            · refine x_tableOut (pc := 113) 414 d_R_step_113 (by have q0 := lv_neT (a := 0) c0 (by decide); have q1 := lv_neT (a := 1) c1 (by decide); have q2 := lv_neT (a := 2) c2 (by decide); have q3 := lv_neT (a := 3) c3 (by decide); have q4 := lv_neT (a := 4) c4 (by decide); have q5 := lv_neT (a := 5) c5 (by decide); have q6 := lv_neT (a := 6) c6 (by decide); have q7 := lv_neT (a := 7) c7 (by decide); have q8 := lv_neT (a := 8) c8 (by decide); have q9 := lv_neT (a := 9) c9 (by decide); have q10 := lv_neT (a := 10) c10 (by decide); have q11 := lv_neT (a := 11) c11 (by decide); have q12 := lv_neT (a := 12) c12 (by decide); omega) (by decide) ?_
                              refine x_aload_n (pc := 414) d_R_step_414 rfl 0 rfl ?_
                              refine x_iload (pc := 415) d_R_step_415 4 rfl ?_
                              obtain ⟨⟨ra21, ra21t⟩, h⟩ := h_ok h
                              refine h_callV G (x_siteV G (pc := 417) (y2 := y_R_arithmetic) (As := [.int t11]) (S := []) (ci := 7) d_R_step_417 rfl lm_R_183 mi_R_arithmetic ms_R_arithmetic mw_R_arithmetic.1 mx_R_arithmetic.1 mx_R_arithmetic.2 rfl ra21 ra21t) mw_R_arithmetic ⟨Nat.le_of_ble_eq_true rfl, Nat.le_of_ble_eq_true rfl⟩ rfl (fun _ _ e => p_R_arithmetic G _ _ _ e) h fun M22 h => ?_
                              exact h_return (pc := 420) d_R_step_420 rfl h
  · refine x_aload_n (pc := 34) d_R_step_34 rfl 0 rfl ?_
    refine x_iconst (pc := 35) d_R_step_35 rfl ?_
    refine h_putI G (pc := 36) (ci := 7) (j := 0) d_R_step_36 rfl rfl rfl lf_R_92 h fun M89 h => ?_
    exact h_return (pc := 39) d_R_step_39 rfl h
theorem p_R_run_136 (G : xG K) (v0 : Nat) (M : XM) (h : g_R_run_136 v0 M = some (o, N)) : cA K y_R_run 136 [(0, .ref v0)] [] M o N := by
  unfold g_R_run_136 at h
  refine x_aload_n (pc := 136) d_R_run_136 rfl 0 rfl ?_
  refine h_getI G (pc := 137) (ci := 7) (j := 0) d_R_run_137 rfl rfl rfl lf_R_92 h fun t1 h => ?_
  refine h_if_le (pc := 140) 147 d_R_run_140 (by decide) h (fun _ h => ?_) (fun _ h => ?_)
  · refine x_aload_n (pc := 147) d_R_run_147 rfl 0 rfl ?_
    refine h_getI G (pc := 148) (ci := 7) (j := 29) d_R_run_148 rfl rfl rfl lf_R_180 h fun t2 h => ?_
    exact h_ireturn (pc := 151) d_R_run_151 rfl h
  · refine x_iconst (pc := 143) d_R_run_143 rfl ?_
    refine x_goto (pc := 144) 151 d_R_run_144 (by decide) ?_
    exact h_ireturn (pc := 151) d_R_run_151 rfl h
theorem p_R_run_94 (G : xG K) : ∀ (n : Nat) (v0 : Nat) (v5 : Int32) (v6 : Int32) (M : XM), g_R_run_94 n v0 v5 v6 M = some (o, N) → cA K y_R_run 94 [(0, .ref v0), (5, .int v5), (6, .int v6)] [] M o N := by
  intro n
  induction n with
  | zero =>
    intro v0 v5 v6 M h
    rw [g_R_run_94] at h
    cases h
  | succ n ih =>
    intro v0 v5 v6 M h
    rw [g_R_run_94] at h
    refine x_aload_n (pc := 94) d_R_run_94 rfl 0 rfl ?_
    refine h_getI G (pc := 95) (ci := 7) (j := 0) d_R_run_95 rfl rfl rfl lf_R_92 h fun t1 h => ?_
    refine h_if_ne (pc := 98) 136 d_R_run_98 (by decide) h (fun _ h => ?_) (fun _ h => ?_)
    · refine x_weak [0] rfl ?_
      exact p_R_run_136 G _ _ h
    · refine x_aload_n (pc := 101) d_R_run_101 rfl 0 rfl ?_
      refine h_getI G (pc := 102) (ci := 7) (j := 22) d_R_run_102 rfl rfl rfl lf_R_163 h fun t2 h => ?_
      refine h_if_le (pc := 105) 136 d_R_run_105 (by decide) h (fun _ h => ?_) (fun _ h => ?_)
      · refine x_weak [0] rfl ?_
        exact p_R_run_136 G _ _ h
      · refine x_iload (pc := 108) d_R_run_108 2 rfl ?_
        refine x_sipush (pc := 110) (v := 400) d_R_run_110 (by decide) ?_
        refine h_icmp_ne (pc := 113) 124 d_R_run_113 (by decide) h (fun _ h => ?_) (fun _ h => ?_)
        · refine x_iinc (pc := 124) (n := 2) (L' := [(0, .ref v0), (5, .int v5), (6, .int (v6 + 1))]) d_R_run_124 (by decide) rfl rfl ?_
          refine x_aload_n (pc := 127) d_R_run_127 rfl 0 rfl ?_
          refine x_iload (pc := 128) d_R_run_128 1 rfl ?_
          obtain ⟨⟨ra3, ra3t⟩, h⟩ := h_ok h
          refine h_callV G (x_siteV G (pc := 130) (y2 := y_R_step) (As := [.int v5]) (S := []) (ci := 7) d_R_run_130 rfl lm_R_186 mi_R_step ms_R_step mw_R_step.1 mx_R_step.1 mx_R_step.2 rfl ra3 ra3t) mw_R_step ⟨Nat.le_of_ble_eq_true rfl, Nat.le_of_ble_eq_true rfl⟩ rfl (fun _ _ e => p_R_step G _ _ _ e) h fun M4 h => ?_
          refine x_goto (pc := 133) 94 d_R_run_133 (by decide) ?_
          refine x_weak [0, 1, 2] rfl ?_
          exact ih _ _ _ _ h
        · refine x_aload_n (pc := 116) d_R_run_116 rfl 0 rfl ?_
          refine x_iconst (pc := 117) d_R_run_117 rfl ?_
          refine h_putI G (pc := 118) (ci := 7) (j := 0) d_R_run_118 rfl rfl rfl lf_R_92 h fun M5 h => ?_
          refine x_goto (pc := 121) 94 d_R_run_121 (by decide) ?_
          refine x_weak [0, 1, 2] rfl ?_
          exact ih _ _ _ _ h
theorem p_R_run_57 (G : xG K) : ∀ (n : Nat) (v0 : Nat) (v2 : Int32) (v3 : Int32) (v4 : Int32) (v5 : Int32) (v6 : Int32) (M : XM), g_R_run_57 n v0 v2 v3 v4 v5 v6 M = some (o, N) → cA K y_R_run 57 [(0, .ref v0), (2, .int v2), (3, .int v3), (4, .int v4), (5, .int v5), (6, .int v6)] [] M o N := by
  intro n
  induction n with
  | zero =>
    intro v0 v2 v3 v4 v5 v6 M h
    rw [g_R_run_57] at h
    cases h
  | succ n ih =>
    intro v0 v2 v3 v4 v5 v6 M h
    rw [g_R_run_57] at h
    refine x_iload (pc := 57) d_R_run_57 5 rfl ?_
    refine x_bipush (pc := 59) (v := 30) d_R_run_59 (by decide) ?_
    refine h_icmp_ge (pc := 61) 78 d_R_run_61 (by decide) h (fun _ h => ?_) (fun _ h => ?_)
    · refine x_aload_n (pc := 78) d_R_run_78 rfl 0 rfl ?_
      refine x_iconst (pc := 79) d_R_run_79 rfl ?_
      refine h_putI G (pc := 80) (ci := 7) (j := 22) d_R_run_80 rfl rfl rfl lf_R_163 h fun M1 h => ?_
      refine x_aload_n (pc := 83) d_R_run_83 rfl 0 rfl ?_
      refine x_iload_n (pc := 84) d_R_run_84 rfl 1 rfl ?_
      refine x_iload_n (pc := 85) d_R_run_85 rfl 2 rfl ?_
      refine x_iload (pc := 86) d_R_run_86 3 rfl ?_
      obtain ⟨⟨ra2, ra2t⟩, h⟩ := h_ok h
      refine h_callV G (x_siteV G (pc := 88) (y2 := y_R_begin) (As := [.int v2, .int v3, .int v4]) (S := []) (ci := 7) d_R_run_88 rfl lm_R_172 mi_R_begin ms_R_begin mw_R_begin.1 mx_R_begin.1 mx_R_begin.2 rfl ra2 ra2t) mw_R_begin ⟨Nat.le_of_ble_eq_true rfl, Nat.le_of_ble_eq_true rfl⟩ rfl (fun _ _ e => p_R_begin G _ _ _ _ _ e) h fun M3 h => ?_
      refine x_iconst (pc := 91) d_R_run_91 rfl ?_
      refine x_istore (pc := 92) (L' := [(0, .ref v0), (2, .int v2), (3, .int v3), (4, .int v4), (5, .int v5), (6, .int 0)]) d_R_run_92 (by decide) rfl ?_
      refine x_weak [0, 4, 5] rfl ?_
      exact p_R_run_94 G FU _ _ _ _ h
    · refine x_aload_n (pc := 64) d_R_run_64 rfl 0 rfl ?_
      refine h_getR G (pc := 65) (ci := 7) (j := 21) d_R_run_65 rfl rfl rfl lf_R_71 h fun t4 h => ?_
      refine x_iload (pc := 68) d_R_run_68 5 rfl ?_
      refine x_iconst (pc := 70) d_R_run_70 rfl ?_
      refine h_iastore G (pc := 71) d_R_run_71 h fun M5 h => ?_
      refine x_iinc (pc := 72) (n := 5) (L' := [(0, .ref v0), (2, .int v2), (3, .int v3), (4, .int v4), (5, .int v5), (6, .int (v6 + 1))]) d_R_run_72 (by decide) rfl rfl ?_
      refine x_goto (pc := 75) 57 d_R_run_75 (by decide) ?_
      refine x_weak [0, 1, 2, 3, 4, 5] rfl ?_
      exact ih _ _ _ _ _ _ _ h
theorem p_R_run_42 (G : xG K) (v0 : Nat) (v2 : Int32) (v3 : Int32) (v4 : Int32) (v5 : Int32) (s0 : Nat) (s1 : Int32) (M : XM) (h : g_R_run_42 v0 v2 v3 v4 v5 s0 s1 M = some (o, N)) : cA K y_R_run 42 [(0, .ref v0), (2, .int v2), (3, .int v3), (4, .int v4), (5, .int v5)] [.int s1, .ref s0] M o N := by
  unfold g_R_run_42 at h
  refine h_putI G (pc := 42) (ci := 7) (j := 0) d_R_run_42 rfl rfl rfl lf_R_92 h fun M1 h => ?_
  refine x_aload_n (pc := 45) d_R_run_45 rfl 0 rfl ?_
  refine h_getI G (pc := 46) (ci := 7) (j := 0) d_R_run_46 rfl rfl rfl lf_R_92 h fun t2 h => ?_
  refine h_if_le (pc := 49) 54 d_R_run_49 (by decide) h (fun _ h => ?_) (fun _ h => ?_)
  · refine x_iconst (pc := 54) d_R_run_54 rfl ?_
    refine x_istore (pc := 55) (L' := [(0, .ref v0), (2, .int v2), (3, .int v3), (4, .int v4), (5, .int v5), (6, .int 0)]) d_R_run_55 (by decide) rfl ?_
    refine x_weak [0, 1, 2, 3, 4, 5] rfl ?_
    exact p_R_run_57 G FU _ _ _ _ _ _ _ h
  · refine x_iconst (pc := 52) d_R_run_52 rfl ?_
    exact h_ireturn (pc := 53) d_R_run_53 rfl h
theorem p_R_run_41 (G : xG K) (v0 : Nat) (v2 : Int32) (v3 : Int32) (v4 : Int32) (v5 : Int32) (s0 : Nat) (M : XM) (h : g_R_run_41 v0 v2 v3 v4 v5 s0 M = some (o, N)) : cA K y_R_run 41 [(0, .ref v0), (2, .int v2), (3, .int v3), (4, .int v4), (5, .int v5)] [.ref s0] M o N := by
  unfold g_R_run_41 at h
  refine x_iconst (pc := 41) d_R_run_41 rfl ?_
  refine x_weak [0, 1, 2, 3, 4] rfl ?_
  exact p_R_run_42 G _ _ _ _ _ _ _ _ h
theorem p_R_run_9 (G : xG K) (v0 : Nat) (v1 : Int32) (v2 : Int32) (v3 : Int32) (v4 : Int32) (s0 : Int32) (M : XM) (h : g_R_run_9 v0 v1 v2 v3 v4 s0 M = some (o, N)) : cA K y_R_run 9 [(0, .ref v0), (1, .int v1), (2, .int v2), (3, .int v3), (4, .int v4)] [.int s0] M o N := by
  unfold g_R_run_9 at h
  refine x_istore (pc := 9) (L' := [(0, .ref v0), (1, .int v1), (2, .int v2), (3, .int v3), (4, .int v4), (5, .int s0)]) d_R_run_9 (by decide) rfl ?_
  refine x_aload_n (pc := 11) d_R_run_11 rfl 0 rfl ?_
  refine x_aload_n (pc := 12) d_R_run_12 rfl 0 rfl ?_
  refine x_iload (pc := 13) d_R_run_13 5 rfl ?_
  refine x_iload_n (pc := 15) d_R_run_15 rfl 2 rfl ?_
  obtain ⟨⟨ra1, ra1t⟩, h⟩ := h_ok h
  refine h_callI G (x_siteV G (pc := 16) (y2 := y_R_noMethod) (As := [.int s0, .int v2]) (S := [.ref v0]) (ci := 7) d_R_run_16 rfl lm_R_118 mi_R_noMethod ms_R_noMethod mw_R_noMethod.1 mx_R_noMethod.1 mx_R_noMethod.2 rfl ra1 ra1t) mw_R_noMethod ⟨Nat.le_of_ble_eq_true rfl, Nat.le_of_ble_eq_true rfl⟩ rfl (fun _ _ e => p_R_noMethod G _ _ _ _ e) h fun t3 M2 h => ?_
  refine h_if_eq (pc := 19) 26 d_R_run_19 (by decide) h (fun _ h => ?_) (fun _ h => ?_)
  · refine x_iload_n (pc := 26) d_R_run_26 rfl 1 rfl ?_
    refine h_if_ne (pc := 27) 41 d_R_run_27 (by decide) h (fun _ h => ?_) (fun _ h => ?_)
    · refine x_weak [0, 2, 3, 4, 5] rfl ?_
      exact p_R_run_41 G _ _ _ _ _ _ _ h
    · refine x_aload_n (pc := 30) d_R_run_30 rfl 0 rfl ?_
      obtain ⟨⟨ra4, ra4t⟩, h⟩ := h_ok h
      refine h_callI G (x_siteV G (pc := 31) (y2 := y_R_firstFault) (As := []) (S := [.ref v0]) (ci := 7) d_R_run_31 rfl lm_R_129 mi_R_firstFault ms_R_firstFault mw_R_firstFault.1 mx_R_firstFault.1 mx_R_firstFault.2 rfl ra4 ra4t) mw_R_firstFault ⟨Nat.le_of_ble_eq_true rfl, Nat.le_of_ble_eq_true rfl⟩ rfl (fun _ _ e => p_R_firstFault G _ _ e) h fun t6 M5 h => ?_
      refine h_if_lt (pc := 34) 41 d_R_run_34 (by decide) h (fun _ h => ?_) (fun _ h => ?_)
      · refine x_weak [0, 2, 3, 4, 5] rfl ?_
        exact p_R_run_41 G _ _ _ _ _ _ _ h
      · refine x_iconst (pc := 37) d_R_run_37 rfl ?_
        refine x_goto (pc := 38) 42 d_R_run_38 (by decide) ?_
        refine x_weak [0, 2, 3, 4, 5] rfl ?_
        exact p_R_run_42 G _ _ _ _ _ _ _ _ h
  · refine x_iconst (pc := 22) d_R_run_22 rfl ?_
    refine x_goto (pc := 23) 42 d_R_run_23 (by decide) ?_
    refine x_weak [0, 2, 3, 4, 5] rfl ?_
    exact p_R_run_42 G _ _ _ _ _ _ _ _ h
theorem p_R_run (G : xG K) (v0 : Nat) (v1 : Int32) (v2 : Int32) (v3 : Int32) (v4 : Int32) (M : XM) (h : g_R_run v0 v1 v2 v3 v4 M = some (o, N)) : Ct K y_R_run [.ref v0, .int v1, .int v2, .int v3, .int v4] M o N := by
  refine ct_of (by decide) (List.forall_mem_cons.mpr ⟨rfl, List.forall_mem_cons.mpr ⟨rfl, List.forall_mem_cons.mpr ⟨rfl, List.forall_mem_cons.mpr ⟨rfl, List.forall_mem_cons.mpr ⟨rfl, fun _ q => absurd q List.not_mem_nil⟩⟩⟩⟩⟩) (Nat.le_of_ble_eq_true rfl) ?_
  show cA K y_R_run 0 [(0, .ref v0), (1, .int v1), (2, .int v2), (3, .int v3), (4, .int v4)] [] M o N
  unfold g_R_run at h
  refine x_iload_n (pc := 0) d_R_run_0 rfl 1 rfl ?_
  refine h_if_eq (pc := 1) 8 d_R_run_1 (by decide) h (fun _ h => ?_) (fun _ h => ?_)
  · refine x_iconst (pc := 8) d_R_run_8 rfl ?_
    refine x_weak [0, 1, 2, 3, 4] rfl ?_
    exact p_R_run_9 G _ _ _ _ _ _ _ h
  · refine x_iconst (pc := 4) d_R_run_4 rfl ?_
    refine x_goto (pc := 5) 9 d_R_run_5 (by decide) ?_
    refine x_weak [0, 1, 2, 3, 4] rfl ?_
    exact p_R_run_9 G _ _ _ _ _ _ _ h
end XG
