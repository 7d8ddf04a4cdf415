/-! laid by program from the bytecode: W_law -/
theorem d_W_law_0 : decode code 0 = .ok (.new 8, 3) := by decide +kernel
theorem d_W_law_3 : decode code 3 = .ok (.dup, 1) := by decide +kernel
theorem d_W_law_4 : decode code 4 = .ok (.invokespecial 62, 3) := by decide +kernel
theorem d_W_law_7 : decode code 7 = .ok (.astore_n 1, 1) := by decide +kernel
theorem d_W_law_8 : decode code 8 = .ok (.new 63, 3) := by decide +kernel
theorem d_W_law_11 : decode code 11 = .ok (.dup, 1) := by decide +kernel
theorem d_W_law_12 : decode code 12 = .ok (.invokespecial 65, 3) := by decide +kernel
theorem d_W_law_15 : decode code 15 = .ok (.astore_n 2, 1) := by decide +kernel
theorem d_W_law_16 : decode code 16 = .ok (.iconst 1, 1) := by decide +kernel
theorem d_W_law_17 : decode code 17 = .ok (.newarray .long, 2) := by decide +kernel
theorem d_W_law_19 : decode code 19 = .ok (.astore_n 3, 1) := by decide +kernel
theorem d_W_law_20 : decode code 20 = .ok (.iconst 0, 1) := by decide +kernel
theorem d_W_law_21 : decode code 21 = .ok (.istore 4, 2) := by decide +kernel
theorem d_W_law_23 : decode code 23 = .ok (.iload 4, 2) := by decide +kernel
theorem d_W_law_25 : decode code 25 = .ok (.aload_n 0, 1) := by decide +kernel
theorem d_W_law_26 : decode code 26 = .ok (.arraylength, 1) := by decide +kernel
theorem d_W_law_27 : decode code 27 = .ok (.iconst 5, 1) := by decide +kernel
theorem d_W_law_28 : decode code 28 = .ok (.isub, 1) := by decide +kernel
theorem d_W_law_29 : decode code 29 = .ok (.if_icmp .gt 1118, 3) := by decide +kernel
theorem d_W_law_32 : decode code 32 = .ok (.aload_n 0, 1) := by decide +kernel
theorem d_W_law_33 : decode code 33 = .ok (.iload 4, 2) := by decide +kernel
theorem d_W_law_35 : decode code 35 = .ok (.iaload, 1) := by decide +kernel
theorem d_W_law_36 : decode code 36 = .ok (.bipush 15, 2) := by decide +kernel
theorem d_W_law_38 : decode code 38 = .ok (.iand, 1) := by decide +kernel
theorem d_W_law_39 : decode code 39 = .ok (.tableswitch 1102 0 14 #[73, 117, 209, 289, 369, 433, 444, 457, 501, 585, 669, 777, 873, 969, 994], 73) := by decide +kernel
theorem d_W_law_112 : decode code 112 = .ok (.aload_n 1, 1) := by decide +kernel
theorem d_W_law_113 : decode code 113 = .ok (.aload_n 3, 1) := by decide +kernel
theorem d_W_law_114 : decode code 114 = .ok (.invokestatic 66, 3) := by decide +kernel
theorem d_W_law_117 : decode code 117 = .ok (.istore 5, 2) := by decide +kernel
theorem d_W_law_119 : decode code 119 = .ok (.aload_n 2, 1) := by decide +kernel
theorem d_W_law_120 : decode code 120 = .ok (.invokevirtual 71, 3) := by decide +kernel
theorem d_W_law_123 : decode code 123 = .ok (.istore 6, 2) := by decide +kernel
theorem d_W_law_125 : decode code 125 = .ok (.aload_n 2, 1) := by decide +kernel
theorem d_W_law_126 : decode code 126 = .ok (.invokevirtual 72, 3) := by decide +kernel
theorem d_W_law_129 : decode code 129 = .ok (.iload 5, 2) := by decide +kernel
theorem d_W_law_131 : decode code 131 = .ok (.if_icmp .eq 5, 3) := by decide +kernel
theorem d_W_law_134 : decode code 134 = .ok (.iconst 0, 1) := by decide +kernel
theorem d_W_law_135 : decode code 135 = .ok (.ireturn, 1) := by decide +kernel
theorem d_W_law_136 : decode code 136 = .ok (.iload 5, 2) := by decide +kernel
theorem d_W_law_138 : decode code 138 = .ok (.ifCond .ne 15, 3) := by decide +kernel
theorem d_W_law_141 : decode code 141 = .ok (.aload_n 3, 1) := by decide +kernel
theorem d_W_law_142 : decode code 142 = .ok (.iconst 0, 1) := by decide +kernel
theorem d_W_law_143 : decode code 143 = .ok (.laload, 1) := by decide +kernel
theorem d_W_law_144 : decode code 144 = .ok (.iload 6, 2) := by decide +kernel
theorem d_W_law_146 : decode code 146 = .ok (.i2l, 1) := by decide +kernel
theorem d_W_law_147 : decode code 147 = .ok (.lcmp, 1) := by decide +kernel
theorem d_W_law_148 : decode code 148 = .ok (.ifCond .eq 5, 3) := by decide +kernel
theorem d_W_law_151 : decode code 151 = .ok (.iconst 0, 1) := by decide +kernel
theorem d_W_law_152 : decode code 152 = .ok (.ireturn, 1) := by decide +kernel
theorem d_W_law_153 : decode code 153 = .ok (.goto 988, 3) := by decide +kernel
theorem d_W_law_156 : decode code 156 = .ok (.aload_n 1, 1) := by decide +kernel
theorem d_W_law_157 : decode code 157 = .ok (.aload_n 0, 1) := by decide +kernel
theorem d_W_law_158 : decode code 158 = .ok (.iload 4, 2) := by decide +kernel
theorem d_W_law_160 : decode code 160 = .ok (.iconst 1, 1) := by decide +kernel
theorem d_W_law_161 : decode code 161 = .ok (.iadd, 1) := by decide +kernel
theorem d_W_law_162 : decode code 162 = .ok (.iaload, 1) := by decide +kernel
theorem d_W_law_163 : decode code 163 = .ok (.aload_n 0, 1) := by decide +kernel
theorem d_W_law_164 : decode code 164 = .ok (.iload 4, 2) := by decide +kernel
theorem d_W_law_166 : decode code 166 = .ok (.iconst 2, 1) := by decide +kernel
theorem d_W_law_167 : decode code 167 = .ok (.iadd, 1) := by decide +kernel
theorem d_W_law_168 : decode code 168 = .ok (.iaload, 1) := by decide +kernel
theorem d_W_law_169 : decode code 169 = .ok (.aload_n 0, 1) := by decide +kernel
theorem d_W_law_170 : decode code 170 = .ok (.iload 4, 2) := by decide +kernel
theorem d_W_law_172 : decode code 172 = .ok (.iconst 3, 1) := by decide +kernel
theorem d_W_law_173 : decode code 173 = .ok (.iadd, 1) := by decide +kernel
theorem d_W_law_174 : decode code 174 = .ok (.iaload, 1) := by decide +kernel
theorem d_W_law_175 : decode code 175 = .ok (.aload_n 0, 1) := by decide +kernel
theorem d_W_law_176 : decode code 176 = .ok (.iload 4, 2) := by decide +kernel
theorem d_W_law_178 : decode code 178 = .ok (.iconst 4, 1) := by decide +kernel
theorem d_W_law_179 : decode code 179 = .ok (.iadd, 1) := by decide +kernel
theorem d_W_law_180 : decode code 180 = .ok (.iaload, 1) := by decide +kernel
theorem d_W_law_181 : decode code 181 = .ok (.aload_n 3, 1) := by decide +kernel
theorem d_W_law_182 : decode code 182 = .ok (.invokestatic 75, 3) := by decide +kernel
theorem d_W_law_185 : decode code 185 = .ok (.istore 5, 2) := by decide +kernel
theorem d_W_law_187 : decode code 187 = .ok (.aload_n 2, 1) := by decide +kernel
theorem d_W_law_188 : decode code 188 = .ok (.aload_n 0, 1) := by decide +kernel
theorem d_W_law_189 : decode code 189 = .ok (.iload 4, 2) := by decide +kernel
theorem d_W_law_191 : decode code 191 = .ok (.iconst 1, 1) := by decide +kernel
theorem d_W_law_192 : decode code 192 = .ok (.iadd, 1) := by decide +kernel
theorem d_W_law_193 : decode code 193 = .ok (.iaload, 1) := by decide +kernel
theorem d_W_law_194 : decode code 194 = .ok (.aload_n 0, 1) := by decide +kernel
theorem d_W_law_195 : decode code 195 = .ok (.iload 4, 2) := by decide +kernel
theorem d_W_law_197 : decode code 197 = .ok (.iconst 2, 1) := by decide +kernel
theorem d_W_law_198 : decode code 198 = .ok (.iadd, 1) := by decide +kernel
theorem d_W_law_199 : decode code 199 = .ok (.iaload, 1) := by decide +kernel
theorem d_W_law_200 : decode code 200 = .ok (.aload_n 0, 1) := by decide +kernel
theorem d_W_law_201 : decode code 201 = .ok (.iload 4, 2) := by decide +kernel
theorem d_W_law_203 : decode code 203 = .ok (.iconst 3, 1) := by decide +kernel
theorem d_W_law_204 : decode code 204 = .ok (.iadd, 1) := by decide +kernel
theorem d_W_law_205 : decode code 205 = .ok (.iaload, 1) := by decide +kernel
theorem d_W_law_206 : decode code 206 = .ok (.aload_n 0, 1) := by decide +kernel
theorem d_W_law_207 : decode code 207 = .ok (.iload 4, 2) := by decide +kernel
theorem d_W_law_209 : decode code 209 = .ok (.iconst 4, 1) := by decide +kernel
theorem d_W_law_210 : decode code 210 = .ok (.iadd, 1) := by decide +kernel
theorem d_W_law_211 : decode code 211 = .ok (.iaload, 1) := by decide +kernel
theorem d_W_law_212 : decode code 212 = .ok (.invokevirtual 78, 3) := by decide +kernel
theorem d_W_law_215 : decode code 215 = .ok (.istore 6, 2) := by decide +kernel
theorem d_W_law_217 : decode code 217 = .ok (.aload_n 2, 1) := by decide +kernel
theorem d_W_law_218 : decode code 218 = .ok (.invokevirtual 72, 3) := by decide +kernel
theorem d_W_law_221 : decode code 221 = .ok (.iload 5, 2) := by decide +kernel
theorem d_W_law_223 : decode code 223 = .ok (.if_icmp .eq 5, 3) := by decide +kernel
theorem d_W_law_226 : decode code 226 = .ok (.iconst 0, 1) := by decide +kernel
theorem d_W_law_227 : decode code 227 = .ok (.ireturn, 1) := by decide +kernel
theorem d_W_law_228 : decode code 228 = .ok (.iload 5, 2) := by decide +kernel
theorem d_W_law_230 : decode code 230 = .ok (.ifCond .ne 15, 3) := by decide +kernel
theorem d_W_law_233 : decode code 233 = .ok (.aload_n 3, 1) := by decide +kernel
theorem d_W_law_234 : decode code 234 = .ok (.iconst 0, 1) := by decide +kernel
theorem d_W_law_235 : decode code 235 = .ok (.laload, 1) := by decide +kernel
theorem d_W_law_236 : decode code 236 = .ok (.iload 6, 2) := by decide +kernel
theorem d_W_law_238 : decode code 238 = .ok (.i2l, 1) := by decide +kernel
theorem d_W_law_239 : decode code 239 = .ok (.lcmp, 1) := by decide +kernel
theorem d_W_law_240 : decode code 240 = .ok (.ifCond .eq 5, 3) := by decide +kernel
theorem d_W_law_243 : decode code 243 = .ok (.iconst 0, 1) := by decide +kernel
theorem d_W_law_244 : decode code 244 = .ok (.ireturn, 1) := by decide +kernel
theorem d_W_law_245 : decode code 245 = .ok (.goto 896, 3) := by decide +kernel
theorem d_W_law_248 : decode code 248 = .ok (.aload_n 1, 1) := by decide +kernel
theorem d_W_law_249 : decode code 249 = .ok (.aload_n 0, 1) := by decide +kernel
theorem d_W_law_250 : decode code 250 = .ok (.iload 4, 2) := by decide +kernel
theorem d_W_law_252 : decode code 252 = .ok (.iconst 1, 1) := by decide +kernel
theorem d_W_law_253 : decode code 253 = .ok (.iadd, 1) := by decide +kernel
theorem d_W_law_254 : decode code 254 = .ok (.iaload, 1) := by decide +kernel
theorem d_W_law_255 : decode code 255 = .ok (.aload_n 0, 1) := by decide +kernel
theorem d_W_law_256 : decode code 256 = .ok (.iload 4, 2) := by decide +kernel
theorem d_W_law_258 : decode code 258 = .ok (.iconst 2, 1) := by decide +kernel
theorem d_W_law_259 : decode code 259 = .ok (.iadd, 1) := by decide +kernel
theorem d_W_law_260 : decode code 260 = .ok (.iaload, 1) := by decide +kernel
theorem d_W_law_261 : decode code 261 = .ok (.aload_n 0, 1) := by decide +kernel
theorem d_W_law_262 : decode code 262 = .ok (.iload 4, 2) := by decide +kernel
theorem d_W_law_264 : decode code 264 = .ok (.iconst 3, 1) := by decide +kernel
theorem d_W_law_265 : decode code 265 = .ok (.iadd, 1) := by decide +kernel
theorem d_W_law_266 : decode code 266 = .ok (.iaload, 1) := by decide +kernel
theorem d_W_law_267 : decode code 267 = .ok (.aload_n 3, 1) := by decide +kernel
theorem d_W_law_268 : decode code 268 = .ok (.invokestatic 79, 3) := by decide +kernel
theorem d_W_law_271 : decode code 271 = .ok (.istore 5, 2) := by decide +kernel
theorem d_W_law_273 : decode code 273 = .ok (.aload_n 2, 1) := by decide +kernel
theorem d_W_law_274 : decode code 274 = .ok (.aload_n 0, 1) := by decide +kernel
theorem d_W_law_275 : decode code 275 = .ok (.iload 4, 2) := by decide +kernel
theorem d_W_law_277 : decode code 277 = .ok (.iconst 1, 1) := by decide +kernel
theorem d_W_law_278 : decode code 278 = .ok (.iadd, 1) := by decide +kernel
theorem d_W_law_279 : decode code 279 = .ok (.iaload, 1) := by decide +kernel
theorem d_W_law_280 : decode code 280 = .ok (.aload_n 0, 1) := by decide +kernel
theorem d_W_law_281 : decode code 281 = .ok (.iload 4, 2) := by decide +kernel
theorem d_W_law_283 : decode code 283 = .ok (.iconst 2, 1) := by decide +kernel
theorem d_W_law_284 : decode code 284 = .ok (.iadd, 1) := by decide +kernel
theorem d_W_law_285 : decode code 285 = .ok (.iaload, 1) := by decide +kernel
theorem d_W_law_286 : decode code 286 = .ok (.aload_n 0, 1) := by decide +kernel
theorem d_W_law_287 : decode code 287 = .ok (.iload 4, 2) := by decide +kernel
theorem d_W_law_289 : decode code 289 = .ok (.iconst 3, 1) := by decide +kernel
theorem d_W_law_290 : decode code 290 = .ok (.iadd, 1) := by decide +kernel
theorem d_W_law_291 : decode code 291 = .ok (.iaload, 1) := by decide +kernel
theorem d_W_law_292 : decode code 292 = .ok (.invokevirtual 82, 3) := by decide +kernel
theorem d_W_law_295 : decode code 295 = .ok (.istore 6, 2) := by decide +kernel
theorem d_W_law_297 : decode code 297 = .ok (.aload_n 2, 1) := by decide +kernel
theorem d_W_law_298 : decode code 298 = .ok (.invokevirtual 72, 3) := by decide +kernel
theorem d_W_law_301 : decode code 301 = .ok (.iload 5, 2) := by decide +kernel
theorem d_W_law_303 : decode code 303 = .ok (.if_icmp .eq 5, 3) := by decide +kernel
theorem d_W_law_306 : decode code 306 = .ok (.iconst 0, 1) := by decide +kernel
theorem d_W_law_307 : decode code 307 = .ok (.ireturn, 1) := by decide +kernel
theorem d_W_law_308 : decode code 308 = .ok (.iload 5, 2) := by decide +kernel
theorem d_W_law_310 : decode code 310 = .ok (.ifCond .ne 15, 3) := by decide +kernel
theorem d_W_law_313 : decode code 313 = .ok (.aload_n 3, 1) := by decide +kernel
theorem d_W_law_314 : decode code 314 = .ok (.iconst 0, 1) := by decide +kernel
theorem d_W_law_315 : decode code 315 = .ok (.laload, 1) := by decide +kernel
theorem d_W_law_316 : decode code 316 = .ok (.iload 6, 2) := by decide +kernel
theorem d_W_law_318 : decode code 318 = .ok (.i2l, 1) := by decide +kernel
theorem d_W_law_319 : decode code 319 = .ok (.lcmp, 1) := by decide +kernel
theorem d_W_law_320 : decode code 320 = .ok (.ifCond .eq 5, 3) := by decide +kernel
theorem d_W_law_323 : decode code 323 = .ok (.iconst 0, 1) := by decide +kernel
theorem d_W_law_324 : decode code 324 = .ok (.ireturn, 1) := by decide +kernel
theorem d_W_law_325 : decode code 325 = .ok (.goto 816, 3) := by decide +kernel
theorem d_W_law_328 : decode code 328 = .ok (.aload_n 1, 1) := by decide +kernel
theorem d_W_law_329 : decode code 329 = .ok (.aload_n 0, 1) := by decide +kernel
theorem d_W_law_330 : decode code 330 = .ok (.iload 4, 2) := by decide +kernel
theorem d_W_law_332 : decode code 332 = .ok (.iconst 1, 1) := by decide +kernel
theorem d_W_law_333 : decode code 333 = .ok (.iadd, 1) := by decide +kernel
theorem d_W_law_334 : decode code 334 = .ok (.iaload, 1) := by decide +kernel
theorem d_W_law_335 : decode code 335 = .ok (.aload_n 0, 1) := by decide +kernel
theorem d_W_law_336 : decode code 336 = .ok (.iload 4, 2) := by decide +kernel
theorem d_W_law_338 : decode code 338 = .ok (.iconst 2, 1) := by decide +kernel
theorem d_W_law_339 : decode code 339 = .ok (.iadd, 1) := by decide +kernel
theorem d_W_law_340 : decode code 340 = .ok (.iaload, 1) := by decide +kernel
theorem d_W_law_341 : decode code 341 = .ok (.aload_n 0, 1) := by decide +kernel
theorem d_W_law_342 : decode code 342 = .ok (.iload 4, 2) := by decide +kernel
theorem d_W_law_344 : decode code 344 = .ok (.iconst 3, 1) := by decide +kernel
theorem d_W_law_345 : decode code 345 = .ok (.iadd, 1) := by decide +kernel
theorem d_W_law_346 : decode code 346 = .ok (.iaload, 1) := by decide +kernel
theorem d_W_law_347 : decode code 347 = .ok (.aload_n 3, 1) := by decide +kernel
theorem d_W_law_348 : decode code 348 = .ok (.invokestatic 83, 3) := by decide +kernel
theorem d_W_law_351 : decode code 351 = .ok (.istore 5, 2) := by decide +kernel
theorem d_W_law_353 : decode code 353 = .ok (.aload_n 2, 1) := by decide +kernel
theorem d_W_law_354 : decode code 354 = .ok (.aload_n 0, 1) := by decide +kernel
theorem d_W_law_355 : decode code 355 = .ok (.iload 4, 2) := by decide +kernel
theorem d_W_law_357 : decode code 357 = .ok (.iconst 1, 1) := by decide +kernel
theorem d_W_law_358 : decode code 358 = .ok (.iadd, 1) := by decide +kernel
theorem d_W_law_359 : decode code 359 = .ok (.iaload, 1) := by decide +kernel
theorem d_W_law_360 : decode code 360 = .ok (.aload_n 0, 1) := by decide +kernel
theorem d_W_law_361 : decode code 361 = .ok (.iload 4, 2) := by decide +kernel
theorem d_W_law_363 : decode code 363 = .ok (.iconst 2, 1) := by decide +kernel
theorem d_W_law_364 : decode code 364 = .ok (.iadd, 1) := by decide +kernel
theorem d_W_law_365 : decode code 365 = .ok (.iaload, 1) := by decide +kernel
theorem d_W_law_366 : decode code 366 = .ok (.aload_n 0, 1) := by decide +kernel
theorem d_W_law_367 : decode code 367 = .ok (.iload 4, 2) := by decide +kernel
theorem d_W_law_369 : decode code 369 = .ok (.iconst 3, 1) := by decide +kernel
theorem d_W_law_370 : decode code 370 = .ok (.iadd, 1) := by decide +kernel
theorem d_W_law_371 : decode code 371 = .ok (.iaload, 1) := by decide +kernel
theorem d_W_law_372 : decode code 372 = .ok (.invokevirtual 85, 3) := by decide +kernel
theorem d_W_law_375 : decode code 375 = .ok (.istore 6, 2) := by decide +kernel
theorem d_W_law_377 : decode code 377 = .ok (.aload_n 2, 1) := by decide +kernel
theorem d_W_law_378 : decode code 378 = .ok (.invokevirtual 72, 3) := by decide +kernel
theorem d_W_law_381 : decode code 381 = .ok (.iload 5, 2) := by decide +kernel
theorem d_W_law_383 : decode code 383 = .ok (.if_icmp .eq 5, 3) := by decide +kernel
theorem d_W_law_386 : decode code 386 = .ok (.iconst 0, 1) := by decide +kernel
theorem d_W_law_387 : decode code 387 = .ok (.ireturn, 1) := by decide +kernel
theorem d_W_law_388 : decode code 388 = .ok (.iload 5, 2) := by decide +kernel
theorem d_W_law_390 : decode code 390 = .ok (.ifCond .ne 15, 3) := by decide +kernel
theorem d_W_law_393 : decode code 393 = .ok (.aload_n 3, 1) := by decide +kernel
theorem d_W_law_394 : decode code 394 = .ok (.iconst 0, 1) := by decide +kernel
theorem d_W_law_395 : decode code 395 = .ok (.laload, 1) := by decide +kernel
theorem d_W_law_396 : decode code 396 = .ok (.iload 6, 2) := by decide +kernel
theorem d_W_law_398 : decode code 398 = .ok (.i2l, 1) := by decide +kernel
theorem d_W_law_399 : decode code 399 = .ok (.lcmp, 1) := by decide +kernel
theorem d_W_law_400 : decode code 400 = .ok (.ifCond .eq 5, 3) := by decide +kernel
theorem d_W_law_403 : decode code 403 = .ok (.iconst 0, 1) := by decide +kernel
theorem d_W_law_404 : decode code 404 = .ok (.ireturn, 1) := by decide +kernel
theorem d_W_law_405 : decode code 405 = .ok (.goto 736, 3) := by decide +kernel
theorem d_W_law_408 : decode code 408 = .ok (.aload_n 1, 1) := by decide +kernel
theorem d_W_law_409 : decode code 409 = .ok (.aload_n 0, 1) := by decide +kernel
theorem d_W_law_410 : decode code 410 = .ok (.iload 4, 2) := by decide +kernel
theorem d_W_law_412 : decode code 412 = .ok (.iconst 1, 1) := by decide +kernel
theorem d_W_law_413 : decode code 413 = .ok (.iadd, 1) := by decide +kernel
theorem d_W_law_414 : decode code 414 = .ok (.iaload, 1) := by decide +kernel
theorem d_W_law_415 : decode code 415 = .ok (.aload_n 0, 1) := by decide +kernel
theorem d_W_law_416 : decode code 416 = .ok (.iload 4, 2) := by decide +kernel
theorem d_W_law_418 : decode code 418 = .ok (.iconst 2, 1) := by decide +kernel
theorem d_W_law_419 : decode code 419 = .ok (.iadd, 1) := by decide +kernel
theorem d_W_law_420 : decode code 420 = .ok (.iaload, 1) := by decide +kernel
theorem d_W_law_421 : decode code 421 = .ok (.ifCond .eq 7, 3) := by decide +kernel
theorem d_W_law_424 : decode code 424 = .ok (.iconst 1, 1) := by decide +kernel
theorem d_W_law_425 : decode code 425 = .ok (.goto 4, 3) := by decide +kernel
theorem d_W_law_428 : decode code 428 = .ok (.iconst 0, 1) := by decide +kernel
theorem d_W_law_429 : decode code 429 = .ok (.invokestatic 86, 3) := by decide +kernel
theorem d_W_law_432 : decode code 432 = .ok (.istore 5, 2) := by decide +kernel
theorem d_W_law_434 : decode code 434 = .ok (.aload_n 2, 1) := by decide +kernel
theorem d_W_law_435 : decode code 435 = .ok (.aload_n 0, 1) := by decide +kernel
theorem d_W_law_436 : decode code 436 = .ok (.iload 4, 2) := by decide +kernel
theorem d_W_law_438 : decode code 438 = .ok (.iconst 1, 1) := by decide +kernel
theorem d_W_law_439 : decode code 439 = .ok (.iadd, 1) := by decide +kernel
theorem d_W_law_440 : decode code 440 = .ok (.iaload, 1) := by decide +kernel
theorem d_W_law_441 : decode code 441 = .ok (.aload_n 0, 1) := by decide +kernel
theorem d_W_law_442 : decode code 442 = .ok (.iload 4, 2) := by decide +kernel
theorem d_W_law_444 : decode code 444 = .ok (.iconst 2, 1) := by decide +kernel
theorem d_W_law_445 : decode code 445 = .ok (.iadd, 1) := by decide +kernel
theorem d_W_law_446 : decode code 446 = .ok (.iaload, 1) := by decide +kernel
theorem d_W_law_447 : decode code 447 = .ok (.ifCond .eq 7, 3) := by decide +kernel
theorem d_W_law_450 : decode code 450 = .ok (.iconst 1, 1) := by decide +kernel
theorem d_W_law_451 : decode code 451 = .ok (.goto 4, 3) := by decide +kernel
theorem d_W_law_454 : decode code 454 = .ok (.iconst 0, 1) := by decide +kernel
theorem d_W_law_455 : decode code 455 = .ok (.invokevirtual 89, 3) := by decide +kernel
theorem d_W_law_458 : decode code 458 = .ok (.aload_n 2, 1) := by decide +kernel
theorem d_W_law_459 : decode code 459 = .ok (.invokevirtual 72, 3) := by decide +kernel
theorem d_W_law_462 : decode code 462 = .ok (.iload 5, 2) := by decide +kernel
theorem d_W_law_464 : decode code 464 = .ok (.if_icmp .eq 5, 3) := by decide +kernel
theorem d_W_law_467 : decode code 467 = .ok (.iconst 0, 1) := by decide +kernel
theorem d_W_law_468 : decode code 468 = .ok (.ireturn, 1) := by decide +kernel
theorem d_W_law_469 : decode code 469 = .ok (.goto 672, 3) := by decide +kernel
theorem d_W_law_472 : decode code 472 = .ok (.aload_n 1, 1) := by decide +kernel
theorem d_W_law_473 : decode code 473 = .ok (.invokevirtual 90, 3) := by decide +kernel
theorem d_W_law_476 : decode code 476 = .ok (.aload_n 2, 1) := by decide +kernel
theorem d_W_law_477 : decode code 477 = .ok (.invokevirtual 93, 3) := by decide +kernel
theorem d_W_law_480 : decode code 480 = .ok (.goto 661, 3) := by decide +kernel
theorem d_W_law_483 : decode code 483 = .ok (.aload_n 1, 1) := by decide +kernel
theorem d_W_law_484 : decode code 484 = .ok (.invokevirtual 94, 3) := by decide +kernel
theorem d_W_law_487 : decode code 487 = .ok (.aload_n 2, 1) := by decide +kernel
theorem d_W_law_488 : decode code 488 = .ok (.invokevirtual 97, 3) := by decide +kernel
theorem d_W_law_491 : decode code 491 = .ok (.if_icmp .eq 650, 3) := by decide +kernel
theorem d_W_law_494 : decode code 494 = .ok (.iconst 0, 1) := by decide +kernel
theorem d_W_law_495 : decode code 495 = .ok (.ireturn, 1) := by decide +kernel
theorem d_W_law_496 : decode code 496 = .ok (.aload_n 1, 1) := by decide +kernel
theorem d_W_law_497 : decode code 497 = .ok (.aload_n 3, 1) := by decide +kernel
theorem d_W_law_498 : decode code 498 = .ok (.invokestatic 98, 3) := by decide +kernel
theorem d_W_law_501 : decode code 501 = .ok (.istore 5, 2) := by decide +kernel
theorem d_W_law_503 : decode code 503 = .ok (.aload_n 2, 1) := by decide +kernel
theorem d_W_law_504 : decode code 504 = .ok (.invokevirtual 100, 3) := by decide +kernel
theorem d_W_law_507 : decode code 507 = .ok (.istore 6, 2) := by decide +kernel
theorem d_W_law_509 : decode code 509 = .ok (.aload_n 2, 1) := by decide +kernel
theorem d_W_law_510 : decode code 510 = .ok (.invokevirtual 72, 3) := by decide +kernel
theorem d_W_law_513 : decode code 513 = .ok (.iload 5, 2) := by decide +kernel
theorem d_W_law_515 : decode code 515 = .ok (.if_icmp .eq 5, 3) := by decide +kernel
theorem d_W_law_518 : decode code 518 = .ok (.iconst 0, 1) := by decide +kernel
theorem d_W_law_519 : decode code 519 = .ok (.ireturn, 1) := by decide +kernel
theorem d_W_law_520 : decode code 520 = .ok (.iload 5, 2) := by decide +kernel
theorem d_W_law_522 : decode code 522 = .ok (.ifCond .ne 15, 3) := by decide +kernel
theorem d_W_law_525 : decode code 525 = .ok (.aload_n 3, 1) := by decide +kernel
theorem d_W_law_526 : decode code 526 = .ok (.iconst 0, 1) := by decide +kernel
theorem d_W_law_527 : decode code 527 = .ok (.laload, 1) := by decide +kernel
theorem d_W_law_528 : decode code 528 = .ok (.iload 6, 2) := by decide +kernel
theorem d_W_law_530 : decode code 530 = .ok (.i2l, 1) := by decide +kernel
theorem d_W_law_531 : decode code 531 = .ok (.lcmp, 1) := by decide +kernel
theorem d_W_law_532 : decode code 532 = .ok (.ifCond .eq 5, 3) := by decide +kernel
theorem d_W_law_535 : decode code 535 = .ok (.iconst 0, 1) := by decide +kernel
theorem d_W_law_536 : decode code 536 = .ok (.ireturn, 1) := by decide +kernel
theorem d_W_law_537 : decode code 537 = .ok (.goto 604, 3) := by decide +kernel
theorem d_W_law_540 : decode code 540 = .ok (.aload_n 1, 1) := by decide +kernel
theorem d_W_law_541 : decode code 541 = .ok (.aload_n 0, 1) := by decide +kernel
theorem d_W_law_542 : decode code 542 = .ok (.iload 4, 2) := by decide +kernel
theorem d_W_law_544 : decode code 544 = .ok (.iconst 1, 1) := by decide +kernel
theorem d_W_law_545 : decode code 545 = .ok (.iadd, 1) := by decide +kernel
theorem d_W_law_546 : decode code 546 = .ok (.iaload, 1) := by decide +kernel
theorem d_W_law_547 : decode code 547 = .ok (.ifCond .eq 7, 3) := by decide +kernel
theorem d_W_law_550 : decode code 550 = .ok (.iconst 1, 1) := by decide +kernel
theorem d_W_law_551 : decode code 551 = .ok (.goto 4, 3) := by decide +kernel
theorem d_W_law_554 : decode code 554 = .ok (.iconst 0, 1) := by decide +kernel
theorem d_W_law_555 : decode code 555 = .ok (.aload_n 0, 1) := by decide +kernel
theorem d_W_law_556 : decode code 556 = .ok (.iload 4, 2) := by decide +kernel
theorem d_W_law_558 : decode code 558 = .ok (.iconst 2, 1) := by decide +kernel
theorem d_W_law_559 : decode code 559 = .ok (.iadd, 1) := by decide +kernel
theorem d_W_law_560 : decode code 560 = .ok (.iaload, 1) := by decide +kernel
theorem d_W_law_561 : decode code 561 = .ok (.aload_n 3, 1) := by decide +kernel
theorem d_W_law_562 : decode code 562 = .ok (.invokestatic 101, 3) := by decide +kernel
theorem d_W_law_565 : decode code 565 = .ok (.istore 5, 2) := by decide +kernel
theorem d_W_law_567 : decode code 567 = .ok (.aload_n 2, 1) := by decide +kernel
theorem d_W_law_568 : decode code 568 = .ok (.aload_n 0, 1) := by decide +kernel
theorem d_W_law_569 : decode code 569 = .ok (.iload 4, 2) := by decide +kernel
theorem d_W_law_571 : decode code 571 = .ok (.iconst 1, 1) := by decide +kernel
theorem d_W_law_572 : decode code 572 = .ok (.iadd, 1) := by decide +kernel
theorem d_W_law_573 : decode code 573 = .ok (.iaload, 1) := by decide +kernel
theorem d_W_law_574 : decode code 574 = .ok (.ifCond .eq 7, 3) := by decide +kernel
theorem d_W_law_577 : decode code 577 = .ok (.iconst 1, 1) := by decide +kernel
theorem d_W_law_578 : decode code 578 = .ok (.goto 4, 3) := by decide +kernel
theorem d_W_law_581 : decode code 581 = .ok (.iconst 0, 1) := by decide +kernel
theorem d_W_law_582 : decode code 582 = .ok (.aload_n 0, 1) := by decide +kernel
theorem d_W_law_583 : decode code 583 = .ok (.iload 4, 2) := by decide +kernel
theorem d_W_law_585 : decode code 585 = .ok (.iconst 2, 1) := by decide +kernel
theorem d_W_law_586 : decode code 586 = .ok (.iadd, 1) := by decide +kernel
theorem d_W_law_587 : decode code 587 = .ok (.iaload, 1) := by decide +kernel
theorem d_W_law_588 : decode code 588 = .ok (.invokevirtual 104, 3) := by decide +kernel
theorem d_W_law_591 : decode code 591 = .ok (.istore 6, 2) := by decide +kernel
theorem d_W_law_593 : decode code 593 = .ok (.aload_n 2, 1) := by decide +kernel
theorem d_W_law_594 : decode code 594 = .ok (.invokevirtual 72, 3) := by decide +kernel
theorem d_W_law_597 : decode code 597 = .ok (.iload 5, 2) := by decide +kernel
theorem d_W_law_599 : decode code 599 = .ok (.if_icmp .eq 5, 3) := by decide +kernel
theorem d_W_law_602 : decode code 602 = .ok (.iconst 0, 1) := by decide +kernel
theorem d_W_law_603 : decode code 603 = .ok (.ireturn, 1) := by decide +kernel
theorem d_W_law_604 : decode code 604 = .ok (.iload 5, 2) := by decide +kernel
theorem d_W_law_606 : decode code 606 = .ok (.ifCond .ne 15, 3) := by decide +kernel
theorem d_W_law_609 : decode code 609 = .ok (.aload_n 3, 1) := by decide +kernel
theorem d_W_law_610 : decode code 610 = .ok (.iconst 0, 1) := by decide +kernel
theorem d_W_law_611 : decode code 611 = .ok (.laload, 1) := by decide +kernel
theorem d_W_law_612 : decode code 612 = .ok (.iload 6, 2) := by decide +kernel
theorem d_W_law_614 : decode code 614 = .ok (.i2l, 1) := by decide +kernel
theorem d_W_law_615 : decode code 615 = .ok (.lcmp, 1) := by decide +kernel
theorem d_W_law_616 : decode code 616 = .ok (.ifCond .eq 5, 3) := by decide +kernel
theorem d_W_law_619 : decode code 619 = .ok (.iconst 0, 1) := by decide +kernel
theorem d_W_law_620 : decode code 620 = .ok (.ireturn, 1) := by decide +kernel
theorem d_W_law_621 : decode code 621 = .ok (.goto 520, 3) := by decide +kernel
theorem d_W_law_624 : decode code 624 = .ok (.aload_n 1, 1) := by decide +kernel
theorem d_W_law_625 : decode code 625 = .ok (.aload_n 0, 1) := by decide +kernel
theorem d_W_law_626 : decode code 626 = .ok (.iload 4, 2) := by decide +kernel
theorem d_W_law_628 : decode code 628 = .ok (.iconst 1, 1) := by decide +kernel
theorem d_W_law_629 : decode code 629 = .ok (.iadd, 1) := by decide +kernel
theorem d_W_law_630 : decode code 630 = .ok (.iaload, 1) := by decide +kernel
theorem d_W_law_631 : decode code 631 = .ok (.ifCond .eq 7, 3) := by decide +kernel
theorem d_W_law_634 : decode code 634 = .ok (.iconst 1, 1) := by decide +kernel
theorem d_W_law_635 : decode code 635 = .ok (.goto 4, 3) := by decide +kernel
theorem d_W_law_638 : decode code 638 = .ok (.iconst 0, 1) := by decide +kernel
theorem d_W_law_639 : decode code 639 = .ok (.aload_n 0, 1) := by decide +kernel
theorem d_W_law_640 : decode code 640 = .ok (.iload 4, 2) := by decide +kernel
theorem d_W_law_642 : decode code 642 = .ok (.iconst 2, 1) := by decide +kernel
theorem d_W_law_643 : decode code 643 = .ok (.iadd, 1) := by decide +kernel
theorem d_W_law_644 : decode code 644 = .ok (.iaload, 1) := by decide +kernel
theorem d_W_law_645 : decode code 645 = .ok (.aload_n 3, 1) := by decide +kernel
theorem d_W_law_646 : decode code 646 = .ok (.invokestatic 105, 3) := by decide +kernel
theorem d_W_law_649 : decode code 649 = .ok (.istore 5, 2) := by decide +kernel
theorem d_W_law_651 : decode code 651 = .ok (.aload_n 2, 1) := by decide +kernel
theorem d_W_law_652 : decode code 652 = .ok (.aload_n 0, 1) := by decide +kernel
theorem d_W_law_653 : decode code 653 = .ok (.iload 4, 2) := by decide +kernel
theorem d_W_law_655 : decode code 655 = .ok (.iconst 1, 1) := by decide +kernel
theorem d_W_law_656 : decode code 656 = .ok (.iadd, 1) := by decide +kernel
theorem d_W_law_657 : decode code 657 = .ok (.iaload, 1) := by decide +kernel
theorem d_W_law_658 : decode code 658 = .ok (.ifCond .eq 7, 3) := by decide +kernel
theorem d_W_law_661 : decode code 661 = .ok (.iconst 1, 1) := by decide +kernel
theorem d_W_law_662 : decode code 662 = .ok (.goto 4, 3) := by decide +kernel
theorem d_W_law_665 : decode code 665 = .ok (.iconst 0, 1) := by decide +kernel
theorem d_W_law_666 : decode code 666 = .ok (.aload_n 0, 1) := by decide +kernel
theorem d_W_law_667 : decode code 667 = .ok (.iload 4, 2) := by decide +kernel
theorem d_W_law_669 : decode code 669 = .ok (.iconst 2, 1) := by decide +kernel
theorem d_W_law_670 : decode code 670 = .ok (.iadd, 1) := by decide +kernel
theorem d_W_law_671 : decode code 671 = .ok (.iaload, 1) := by decide +kernel
theorem d_W_law_672 : decode code 672 = .ok (.invokevirtual 107, 3) := by decide +kernel
theorem d_W_law_675 : decode code 675 = .ok (.istore 6, 2) := by decide +kernel
theorem d_W_law_677 : decode code 677 = .ok (.aload_n 2, 1) := by decide +kernel
theorem d_W_law_678 : decode code 678 = .ok (.invokevirtual 72, 3) := by decide +kernel
theorem d_W_law_681 : decode code 681 = .ok (.iload 5, 2) := by decide +kernel
theorem d_W_law_683 : decode code 683 = .ok (.if_icmp .eq 5, 3) := by decide +kernel
theorem d_W_law_686 : decode code 686 = .ok (.iconst 0, 1) := by decide +kernel
theorem d_W_law_687 : decode code 687 = .ok (.ireturn, 1) := by decide +kernel
theorem d_W_law_688 : decode code 688 = .ok (.iload 5, 2) := by decide +kernel
theorem d_W_law_690 : decode code 690 = .ok (.ifCond .ne 15, 3) := by decide +kernel
theorem d_W_law_693 : decode code 693 = .ok (.aload_n 3, 1) := by decide +kernel
theorem d_W_law_694 : decode code 694 = .ok (.iconst 0, 1) := by decide +kernel
theorem d_W_law_695 : decode code 695 = .ok (.laload, 1) := by decide +kernel
theorem d_W_law_696 : decode code 696 = .ok (.iload 6, 2) := by decide +kernel
theorem d_W_law_698 : decode code 698 = .ok (.i2l, 1) := by decide +kernel
theorem d_W_law_699 : decode code 699 = .ok (.lcmp, 1) := by decide +kernel
theorem d_W_law_700 : decode code 700 = .ok (.ifCond .eq 5, 3) := by decide +kernel
theorem d_W_law_703 : decode code 703 = .ok (.iconst 0, 1) := by decide +kernel
theorem d_W_law_704 : decode code 704 = .ok (.ireturn, 1) := by decide +kernel
theorem d_W_law_705 : decode code 705 = .ok (.goto 436, 3) := by decide +kernel
theorem d_W_law_708 : decode code 708 = .ok (.aload_n 1, 1) := by decide +kernel
theorem d_W_law_709 : decode code 709 = .ok (.aload_n 0, 1) := by decide +kernel
theorem d_W_law_710 : decode code 710 = .ok (.iload 4, 2) := by decide +kernel
theorem d_W_law_712 : decode code 712 = .ok (.iconst 1, 1) := by decide +kernel
theorem d_W_law_713 : decode code 713 = .ok (.iadd, 1) := by decide +kernel
theorem d_W_law_714 : decode code 714 = .ok (.iaload, 1) := by decide +kernel
theorem d_W_law_715 : decode code 715 = .ok (.ifCond .eq 7, 3) := by decide +kernel
theorem d_W_law_718 : decode code 718 = .ok (.iconst 1, 1) := by decide +kernel
theorem d_W_law_719 : decode code 719 = .ok (.goto 4, 3) := by decide +kernel
theorem d_W_law_722 : decode code 722 = .ok (.iconst 0, 1) := by decide +kernel
theorem d_W_law_723 : decode code 723 = .ok (.aload_n 0, 1) := by decide +kernel
theorem d_W_law_724 : decode code 724 = .ok (.iload 4, 2) := by decide +kernel
theorem d_W_law_726 : decode code 726 = .ok (.iconst 2, 1) := by decide +kernel
theorem d_W_law_727 : decode code 727 = .ok (.iadd, 1) := by decide +kernel
theorem d_W_law_728 : decode code 728 = .ok (.iaload, 1) := by decide +kernel
theorem d_W_law_729 : decode code 729 = .ok (.aload_n 0, 1) := by decide +kernel
theorem d_W_law_730 : decode code 730 = .ok (.iload 4, 2) := by decide +kernel
theorem d_W_law_732 : decode code 732 = .ok (.iconst 3, 1) := by decide +kernel
theorem d_W_law_733 : decode code 733 = .ok (.iadd, 1) := by decide +kernel
theorem d_W_law_734 : decode code 734 = .ok (.iaload, 1) := by decide +kernel
theorem d_W_law_735 : decode code 735 = .ok (.aload_n 0, 1) := by decide +kernel
theorem d_W_law_736 : decode code 736 = .ok (.iload 4, 2) := by decide +kernel
theorem d_W_law_738 : decode code 738 = .ok (.iconst 4, 1) := by decide +kernel
theorem d_W_law_739 : decode code 739 = .ok (.iadd, 1) := by decide +kernel
theorem d_W_law_740 : decode code 740 = .ok (.iaload, 1) := by decide +kernel
theorem d_W_law_741 : decode code 741 = .ok (.aload_n 3, 1) := by decide +kernel
theorem d_W_law_742 : decode code 742 = .ok (.invokestatic 108, 3) := by decide +kernel
theorem d_W_law_745 : decode code 745 = .ok (.istore 5, 2) := by decide +kernel
theorem d_W_law_747 : decode code 747 = .ok (.aload_n 2, 1) := by decide +kernel
theorem d_W_law_748 : decode code 748 = .ok (.aload_n 0, 1) := by decide +kernel
theorem d_W_law_749 : decode code 749 = .ok (.iload 4, 2) := by decide +kernel
theorem d_W_law_751 : decode code 751 = .ok (.iconst 1, 1) := by decide +kernel
theorem d_W_law_752 : decode code 752 = .ok (.iadd, 1) := by decide +kernel
theorem d_W_law_753 : decode code 753 = .ok (.iaload, 1) := by decide +kernel
theorem d_W_law_754 : decode code 754 = .ok (.ifCond .eq 7, 3) := by decide +kernel
theorem d_W_law_757 : decode code 757 = .ok (.iconst 1, 1) := by decide +kernel
theorem d_W_law_758 : decode code 758 = .ok (.goto 4, 3) := by decide +kernel
theorem d_W_law_761 : decode code 761 = .ok (.iconst 0, 1) := by decide +kernel
theorem d_W_law_762 : decode code 762 = .ok (.aload_n 0, 1) := by decide +kernel
theorem d_W_law_763 : decode code 763 = .ok (.iload 4, 2) := by decide +kernel
theorem d_W_law_765 : decode code 765 = .ok (.iconst 2, 1) := by decide +kernel
theorem d_W_law_766 : decode code 766 = .ok (.iadd, 1) := by decide +kernel
theorem d_W_law_767 : decode code 767 = .ok (.iaload, 1) := by decide +kernel
theorem d_W_law_768 : decode code 768 = .ok (.aload_n 0, 1) := by decide +kernel
theorem d_W_law_769 : decode code 769 = .ok (.iload 4, 2) := by decide +kernel
theorem d_W_law_771 : decode code 771 = .ok (.iconst 3, 1) := by decide +kernel
theorem d_W_law_772 : decode code 772 = .ok (.iadd, 1) := by decide +kernel
theorem d_W_law_773 : decode code 773 = .ok (.iaload, 1) := by decide +kernel
theorem d_W_law_774 : decode code 774 = .ok (.aload_n 0, 1) := by decide +kernel
theorem d_W_law_775 : decode code 775 = .ok (.iload 4, 2) := by decide +kernel
theorem d_W_law_777 : decode code 777 = .ok (.iconst 4, 1) := by decide +kernel
theorem d_W_law_778 : decode code 778 = .ok (.iadd, 1) := by decide +kernel
theorem d_W_law_779 : decode code 779 = .ok (.iaload, 1) := by decide +kernel
theorem d_W_law_780 : decode code 780 = .ok (.invokevirtual 111, 3) := by decide +kernel
theorem d_W_law_783 : decode code 783 = .ok (.istore 6, 2) := by decide +kernel
theorem d_W_law_785 : decode code 785 = .ok (.aload_n 2, 1) := by decide +kernel
theorem d_W_law_786 : decode code 786 = .ok (.invokevirtual 72, 3) := by decide +kernel
theorem d_W_law_789 : decode code 789 = .ok (.iload 5, 2) := by decide +kernel
theorem d_W_law_791 : decode code 791 = .ok (.if_icmp .eq 5, 3) := by decide +kernel
theorem d_W_law_794 : decode code 794 = .ok (.iconst 0, 1) := by decide +kernel
theorem d_W_law_795 : decode code 795 = .ok (.ireturn, 1) := by decide +kernel
theorem d_W_law_796 : decode code 796 = .ok (.iload 5, 2) := by decide +kernel
theorem d_W_law_798 : decode code 798 = .ok (.ifCond .ne 15, 3) := by decide +kernel
theorem d_W_law_801 : decode code 801 = .ok (.aload_n 3, 1) := by decide +kernel
theorem d_W_law_802 : decode code 802 = .ok (.iconst 0, 1) := by decide +kernel
theorem d_W_law_803 : decode code 803 = .ok (.laload, 1) := by decide +kernel
theorem d_W_law_804 : decode code 804 = .ok (.iload 6, 2) := by decide +kernel
theorem d_W_law_806 : decode code 806 = .ok (.i2l, 1) := by decide +kernel
theorem d_W_law_807 : decode code 807 = .ok (.lcmp, 1) := by decide +kernel
theorem d_W_law_808 : decode code 808 = .ok (.ifCond .eq 5, 3) := by decide +kernel
theorem d_W_law_811 : decode code 811 = .ok (.iconst 0, 1) := by decide +kernel
theorem d_W_law_812 : decode code 812 = .ok (.ireturn, 1) := by decide +kernel
theorem d_W_law_813 : decode code 813 = .ok (.goto 328, 3) := by decide +kernel
theorem d_W_law_816 : decode code 816 = .ok (.aload_n 1, 1) := by decide +kernel
theorem d_W_law_817 : decode code 817 = .ok (.aload_n 0, 1) := by decide +kernel
theorem d_W_law_818 : decode code 818 = .ok (.iload 4, 2) := by decide +kernel
theorem d_W_law_820 : decode code 820 = .ok (.iconst 1, 1) := by decide +kernel
theorem d_W_law_821 : decode code 821 = .ok (.iadd, 1) := by decide +kernel
theorem d_W_law_822 : decode code 822 = .ok (.iaload, 1) := by decide +kernel
theorem d_W_law_823 : decode code 823 = .ok (.ifCond .eq 7, 3) := by decide +kernel
theorem d_W_law_826 : decode code 826 = .ok (.iconst 1, 1) := by decide +kernel
theorem d_W_law_827 : decode code 827 = .ok (.goto 4, 3) := by decide +kernel
theorem d_W_law_830 : decode code 830 = .ok (.iconst 0, 1) := by decide +kernel
theorem d_W_law_831 : decode code 831 = .ok (.aload_n 0, 1) := by decide +kernel
theorem d_W_law_832 : decode code 832 = .ok (.iload 4, 2) := by decide +kernel
theorem d_W_law_834 : decode code 834 = .ok (.iconst 2, 1) := by decide +kernel
theorem d_W_law_835 : decode code 835 = .ok (.iadd, 1) := by decide +kernel
theorem d_W_law_836 : decode code 836 = .ok (.iaload, 1) := by decide +kernel
theorem d_W_law_837 : decode code 837 = .ok (.aload_n 0, 1) := by decide +kernel
theorem d_W_law_838 : decode code 838 = .ok (.iload 4, 2) := by decide +kernel
theorem d_W_law_840 : decode code 840 = .ok (.iconst 3, 1) := by decide +kernel
theorem d_W_law_841 : decode code 841 = .ok (.iadd, 1) := by decide +kernel
theorem d_W_law_842 : decode code 842 = .ok (.iaload, 1) := by decide +kernel
theorem d_W_law_843 : decode code 843 = .ok (.aload_n 3, 1) := by decide +kernel
theorem d_W_law_844 : decode code 844 = .ok (.invokestatic 112, 3) := by decide +kernel
theorem d_W_law_847 : decode code 847 = .ok (.istore 5, 2) := by decide +kernel
theorem d_W_law_849 : decode code 849 = .ok (.aload_n 2, 1) := by decide +kernel
theorem d_W_law_850 : decode code 850 = .ok (.aload_n 0, 1) := by decide +kernel
theorem d_W_law_851 : decode code 851 = .ok (.iload 4, 2) := by decide +kernel
theorem d_W_law_853 : decode code 853 = .ok (.iconst 1, 1) := by decide +kernel
theorem d_W_law_854 : decode code 854 = .ok (.iadd, 1) := by decide +kernel
theorem d_W_law_855 : decode code 855 = .ok (.iaload, 1) := by decide +kernel
theorem d_W_law_856 : decode code 856 = .ok (.ifCond .eq 7, 3) := by decide +kernel
theorem d_W_law_859 : decode code 859 = .ok (.iconst 1, 1) := by decide +kernel
theorem d_W_law_860 : decode code 860 = .ok (.goto 4, 3) := by decide +kernel
theorem d_W_law_863 : decode code 863 = .ok (.iconst 0, 1) := by decide +kernel
theorem d_W_law_864 : decode code 864 = .ok (.aload_n 0, 1) := by decide +kernel
theorem d_W_law_865 : decode code 865 = .ok (.iload 4, 2) := by decide +kernel
theorem d_W_law_867 : decode code 867 = .ok (.iconst 2, 1) := by decide +kernel
theorem d_W_law_868 : decode code 868 = .ok (.iadd, 1) := by decide +kernel
theorem d_W_law_869 : decode code 869 = .ok (.iaload, 1) := by decide +kernel
theorem d_W_law_870 : decode code 870 = .ok (.aload_n 0, 1) := by decide +kernel
theorem d_W_law_871 : decode code 871 = .ok (.iload 4, 2) := by decide +kernel
theorem d_W_law_873 : decode code 873 = .ok (.iconst 3, 1) := by decide +kernel
theorem d_W_law_874 : decode code 874 = .ok (.iadd, 1) := by decide +kernel
theorem d_W_law_875 : decode code 875 = .ok (.iaload, 1) := by decide +kernel
theorem d_W_law_876 : decode code 876 = .ok (.invokevirtual 115, 3) := by decide +kernel
theorem d_W_law_879 : decode code 879 = .ok (.istore 6, 2) := by decide +kernel
theorem d_W_law_881 : decode code 881 = .ok (.aload_n 2, 1) := by decide +kernel
theorem d_W_law_882 : decode code 882 = .ok (.invokevirtual 72, 3) := by decide +kernel
theorem d_W_law_885 : decode code 885 = .ok (.iload 5, 2) := by decide +kernel
theorem d_W_law_887 : decode code 887 = .ok (.if_icmp .eq 5, 3) := by decide +kernel
theorem d_W_law_890 : decode code 890 = .ok (.iconst 0, 1) := by decide +kernel
theorem d_W_law_891 : decode code 891 = .ok (.ireturn, 1) := by decide +kernel
theorem d_W_law_892 : decode code 892 = .ok (.iload 5, 2) := by decide +kernel
theorem d_W_law_894 : decode code 894 = .ok (.ifCond .ne 15, 3) := by decide +kernel
theorem d_W_law_897 : decode code 897 = .ok (.aload_n 3, 1) := by decide +kernel
theorem d_W_law_898 : decode code 898 = .ok (.iconst 0, 1) := by decide +kernel
theorem d_W_law_899 : decode code 899 = .ok (.laload, 1) := by decide +kernel
theorem d_W_law_900 : decode code 900 = .ok (.iload 6, 2) := by decide +kernel
theorem d_W_law_902 : decode code 902 = .ok (.i2l, 1) := by decide +kernel
theorem d_W_law_903 : decode code 903 = .ok (.lcmp, 1) := by decide +kernel
theorem d_W_law_904 : decode code 904 = .ok (.ifCond .eq 5, 3) := by decide +kernel
theorem d_W_law_907 : decode code 907 = .ok (.iconst 0, 1) := by decide +kernel
theorem d_W_law_908 : decode code 908 = .ok (.ireturn, 1) := by decide +kernel
theorem d_W_law_909 : decode code 909 = .ok (.goto 232, 3) := by decide +kernel
theorem d_W_law_912 : decode code 912 = .ok (.aload_n 1, 1) := by decide +kernel
theorem d_W_law_913 : decode code 913 = .ok (.aload_n 0, 1) := by decide +kernel
theorem d_W_law_914 : decode code 914 = .ok (.iload 4, 2) := by decide +kernel
theorem d_W_law_916 : decode code 916 = .ok (.iconst 1, 1) := by decide +kernel
theorem d_W_law_917 : decode code 917 = .ok (.iadd, 1) := by decide +kernel
theorem d_W_law_918 : decode code 918 = .ok (.iaload, 1) := by decide +kernel
theorem d_W_law_919 : decode code 919 = .ok (.ifCond .eq 7, 3) := by decide +kernel
theorem d_W_law_922 : decode code 922 = .ok (.iconst 1, 1) := by decide +kernel
theorem d_W_law_923 : decode code 923 = .ok (.goto 4, 3) := by decide +kernel
theorem d_W_law_926 : decode code 926 = .ok (.iconst 0, 1) := by decide +kernel
theorem d_W_law_927 : decode code 927 = .ok (.aload_n 0, 1) := by decide +kernel
theorem d_W_law_928 : decode code 928 = .ok (.iload 4, 2) := by decide +kernel
theorem d_W_law_930 : decode code 930 = .ok (.iconst 2, 1) := by decide +kernel
theorem d_W_law_931 : decode code 931 = .ok (.iadd, 1) := by decide +kernel
theorem d_W_law_932 : decode code 932 = .ok (.iaload, 1) := by decide +kernel
theorem d_W_law_933 : decode code 933 = .ok (.aload_n 0, 1) := by decide +kernel
theorem d_W_law_934 : decode code 934 = .ok (.iload 4, 2) := by decide +kernel
theorem d_W_law_936 : decode code 936 = .ok (.iconst 3, 1) := by decide +kernel
theorem d_W_law_937 : decode code 937 = .ok (.iadd, 1) := by decide +kernel
theorem d_W_law_938 : decode code 938 = .ok (.iaload, 1) := by decide +kernel
theorem d_W_law_939 : decode code 939 = .ok (.aload_n 3, 1) := by decide +kernel
theorem d_W_law_940 : decode code 940 = .ok (.invokestatic 116, 3) := by decide +kernel
theorem d_W_law_943 : decode code 943 = .ok (.istore 5, 2) := by decide +kernel
theorem d_W_law_945 : decode code 945 = .ok (.aload_n 2, 1) := by decide +kernel
theorem d_W_law_946 : decode code 946 = .ok (.aload_n 0, 1) := by decide +kernel
theorem d_W_law_947 : decode code 947 = .ok (.iload 4, 2) := by decide +kernel
theorem d_W_law_949 : decode code 949 = .ok (.iconst 1, 1) := by decide +kernel
theorem d_W_law_950 : decode code 950 = .ok (.iadd, 1) := by decide +kernel
theorem d_W_law_951 : decode code 951 = .ok (.iaload, 1) := by decide +kernel
theorem d_W_law_952 : decode code 952 = .ok (.ifCond .eq 7, 3) := by decide +kernel
theorem d_W_law_955 : decode code 955 = .ok (.iconst 1, 1) := by decide +kernel
theorem d_W_law_956 : decode code 956 = .ok (.goto 4, 3) := by decide +kernel
theorem d_W_law_959 : decode code 959 = .ok (.iconst 0, 1) := by decide +kernel
theorem d_W_law_960 : decode code 960 = .ok (.aload_n 0, 1) := by decide +kernel
theorem d_W_law_961 : decode code 961 = .ok (.iload 4, 2) := by decide +kernel
theorem d_W_law_963 : decode code 963 = .ok (.iconst 2, 1) := by decide +kernel
theorem d_W_law_964 : decode code 964 = .ok (.iadd, 1) := by decide +kernel
theorem d_W_law_965 : decode code 965 = .ok (.iaload, 1) := by decide +kernel
theorem d_W_law_966 : decode code 966 = .ok (.aload_n 0, 1) := by decide +kernel
theorem d_W_law_967 : decode code 967 = .ok (.iload 4, 2) := by decide +kernel
theorem d_W_law_969 : decode code 969 = .ok (.iconst 3, 1) := by decide +kernel
theorem d_W_law_970 : decode code 970 = .ok (.iadd, 1) := by decide +kernel
theorem d_W_law_971 : decode code 971 = .ok (.iaload, 1) := by decide +kernel
theorem d_W_law_972 : decode code 972 = .ok (.invokevirtual 118, 3) := by decide +kernel
theorem d_W_law_975 : decode code 975 = .ok (.istore 6, 2) := by decide +kernel
theorem d_W_law_977 : decode code 977 = .ok (.aload_n 2, 1) := by decide +kernel
theorem d_W_law_978 : decode code 978 = .ok (.invokevirtual 72, 3) := by decide +kernel
theorem d_W_law_981 : decode code 981 = .ok (.iload 5, 2) := by decide +kernel
theorem d_W_law_983 : decode code 983 = .ok (.if_icmp .eq 5, 3) := by decide +kernel
theorem d_W_law_986 : decode code 986 = .ok (.iconst 0, 1) := by decide +kernel
theorem d_W_law_987 : decode code 987 = .ok (.ireturn, 1) := by decide +kernel
theorem d_W_law_988 : decode code 988 = .ok (.iload 5, 2) := by decide +kernel
theorem d_W_law_990 : decode code 990 = .ok (.ifCond .ne 15, 3) := by decide +kernel
theorem d_W_law_993 : decode code 993 = .ok (.aload_n 3, 1) := by decide +kernel
theorem d_W_law_994 : decode code 994 = .ok (.iconst 0, 1) := by decide +kernel
theorem d_W_law_995 : decode code 995 = .ok (.laload, 1) := by decide +kernel
theorem d_W_law_996 : decode code 996 = .ok (.iload 6, 2) := by decide +kernel
theorem d_W_law_998 : decode code 998 = .ok (.i2l, 1) := by decide +kernel
theorem d_W_law_999 : decode code 999 = .ok (.lcmp, 1) := by decide +kernel
theorem d_W_law_1000 : decode code 1000 = .ok (.ifCond .eq 5, 3) := by decide +kernel
theorem d_W_law_1003 : decode code 1003 = .ok (.iconst 0, 1) := by decide +kernel
theorem d_W_law_1004 : decode code 1004 = .ok (.ireturn, 1) := by decide +kernel
theorem d_W_law_1005 : decode code 1005 = .ok (.goto 136, 3) := by decide +kernel
theorem d_W_law_1008 : decode code 1008 = .ok (.aload_n 1, 1) := by decide +kernel
theorem d_W_law_1009 : decode code 1009 = .ok (.aload_n 0, 1) := by decide +kernel
theorem d_W_law_1010 : decode code 1010 = .ok (.iload 4, 2) := by decide +kernel
theorem d_W_law_1012 : decode code 1012 = .ok (.iconst 1, 1) := by decide +kernel
theorem d_W_law_1013 : decode code 1013 = .ok (.iadd, 1) := by decide +kernel
theorem d_W_law_1014 : decode code 1014 = .ok (.iaload, 1) := by decide +kernel
theorem d_W_law_1015 : decode code 1015 = .ok (.invokevirtual 119, 3) := by decide +kernel
theorem d_W_law_1018 : decode code 1018 = .ok (.aload_n 2, 1) := by decide +kernel
theorem d_W_law_1019 : decode code 1019 = .ok (.aload_n 0, 1) := by decide +kernel
theorem d_W_law_1020 : decode code 1020 = .ok (.iload 4, 2) := by decide +kernel
theorem d_W_law_1022 : decode code 1022 = .ok (.iconst 1, 1) := by decide +kernel
theorem d_W_law_1023 : decode code 1023 = .ok (.iadd, 1) := by decide +kernel
theorem d_W_law_1024 : decode code 1024 = .ok (.iaload, 1) := by decide +kernel
theorem d_W_law_1025 : decode code 1025 = .ok (.invokevirtual 123, 3) := by decide +kernel
theorem d_W_law_1028 : decode code 1028 = .ok (.if_icmp .eq 113, 3) := by decide +kernel
theorem d_W_law_1031 : decode code 1031 = .ok (.iconst 0, 1) := by decide +kernel
theorem d_W_law_1032 : decode code 1032 = .ok (.ireturn, 1) := by decide +kernel
theorem d_W_law_1033 : decode code 1033 = .ok (.aload_n 1, 1) := by decide +kernel
theorem d_W_law_1034 : decode code 1034 = .ok (.aload_n 0, 1) := by decide +kernel
theorem d_W_law_1035 : decode code 1035 = .ok (.iload 4, 2) := by decide +kernel
theorem d_W_law_1037 : decode code 1037 = .ok (.iconst 1, 1) := by decide +kernel
theorem d_W_law_1038 : decode code 1038 = .ok (.iadd, 1) := by decide +kernel
theorem d_W_law_1039 : decode code 1039 = .ok (.iaload, 1) := by decide +kernel
theorem d_W_law_1040 : decode code 1040 = .ok (.ifCond .eq 7, 3) := by decide +kernel
theorem d_W_law_1043 : decode code 1043 = .ok (.iconst 1, 1) := by decide +kernel
theorem d_W_law_1044 : decode code 1044 = .ok (.goto 4, 3) := by decide +kernel
theorem d_W_law_1047 : decode code 1047 = .ok (.iconst 0, 1) := by decide +kernel
theorem d_W_law_1048 : decode code 1048 = .ok (.aload_n 0, 1) := by decide +kernel
theorem d_W_law_1049 : decode code 1049 = .ok (.iload 4, 2) := by decide +kernel
theorem d_W_law_1051 : decode code 1051 = .ok (.iconst 2, 1) := by decide +kernel
theorem d_W_law_1052 : decode code 1052 = .ok (.iadd, 1) := by decide +kernel
theorem d_W_law_1053 : decode code 1053 = .ok (.iaload, 1) := by decide +kernel
theorem d_W_law_1054 : decode code 1054 = .ok (.aload_n 0, 1) := by decide +kernel
theorem d_W_law_1055 : decode code 1055 = .ok (.iload 4, 2) := by decide +kernel
theorem d_W_law_1057 : decode code 1057 = .ok (.iconst 3, 1) := by decide +kernel
theorem d_W_law_1058 : decode code 1058 = .ok (.iadd, 1) := by decide +kernel
theorem d_W_law_1059 : decode code 1059 = .ok (.iaload, 1) := by decide +kernel
theorem d_W_law_1060 : decode code 1060 = .ok (.aload_n 0, 1) := by decide +kernel
theorem d_W_law_1061 : decode code 1061 = .ok (.iload 4, 2) := by decide +kernel
theorem d_W_law_1063 : decode code 1063 = .ok (.iconst 4, 1) := by decide +kernel
theorem d_W_law_1064 : decode code 1064 = .ok (.iadd, 1) := by decide +kernel
theorem d_W_law_1065 : decode code 1065 = .ok (.iaload, 1) := by decide +kernel
theorem d_W_law_1066 : decode code 1066 = .ok (.aload_n 3, 1) := by decide +kernel
theorem d_W_law_1067 : decode code 1067 = .ok (.invokestatic 124, 3) := by decide +kernel
theorem d_W_law_1070 : decode code 1070 = .ok (.istore 5, 2) := by decide +kernel
theorem d_W_law_1072 : decode code 1072 = .ok (.aload_n 2, 1) := by decide +kernel
theorem d_W_law_1073 : decode code 1073 = .ok (.aload_n 0, 1) := by decide +kernel
theorem d_W_law_1074 : decode code 1074 = .ok (.iload 4, 2) := by decide +kernel
theorem d_W_law_1076 : decode code 1076 = .ok (.iconst 1, 1) := by decide +kernel
theorem d_W_law_1077 : decode code 1077 = .ok (.iadd, 1) := by decide +kernel
theorem d_W_law_1078 : decode code 1078 = .ok (.iaload, 1) := by decide +kernel
theorem d_W_law_1079 : decode code 1079 = .ok (.ifCond .eq 7, 3) := by decide +kernel
theorem d_W_law_1082 : decode code 1082 = .ok (.iconst 1, 1) := by decide +kernel
theorem d_W_law_1083 : decode code 1083 = .ok (.goto 4, 3) := by decide +kernel
theorem d_W_law_1086 : decode code 1086 = .ok (.iconst 0, 1) := by decide +kernel
theorem d_W_law_1087 : decode code 1087 = .ok (.aload_n 0, 1) := by decide +kernel
theorem d_W_law_1088 : decode code 1088 = .ok (.iload 4, 2) := by decide +kernel
theorem d_W_law_1090 : decode code 1090 = .ok (.iconst 2, 1) := by decide +kernel
theorem d_W_law_1091 : decode code 1091 = .ok (.iadd, 1) := by decide +kernel
theorem d_W_law_1092 : decode code 1092 = .ok (.iaload, 1) := by decide +kernel
theorem d_W_law_1093 : decode code 1093 = .ok (.aload_n 0, 1) := by decide +kernel
theorem d_W_law_1094 : decode code 1094 = .ok (.iload 4, 2) := by decide +kernel
theorem d_W_law_1096 : decode code 1096 = .ok (.iconst 3, 1) := by decide +kernel
theorem d_W_law_1097 : decode code 1097 = .ok (.iadd, 1) := by decide +kernel
theorem d_W_law_1098 : decode code 1098 = .ok (.iaload, 1) := by decide +kernel
theorem d_W_law_1099 : decode code 1099 = .ok (.aload_n 0, 1) := by decide +kernel
theorem d_W_law_1100 : decode code 1100 = .ok (.iload 4, 2) := by decide +kernel
theorem d_W_law_1102 : decode code 1102 = .ok (.iconst 4, 1) := by decide +kernel
theorem d_W_law_1103 : decode code 1103 = .ok (.iadd, 1) := by decide +kernel
theorem d_W_law_1104 : decode code 1104 = .ok (.iaload, 1) := by decide +kernel
theorem d_W_law_1105 : decode code 1105 = .ok (.invokevirtual 126, 3) := by decide +kernel
theorem d_W_law_1108 : decode code 1108 = .ok (.istore 6, 2) := by decide +kernel
theorem d_W_law_1110 : decode code 1110 = .ok (.aload_n 2, 1) := by decide +kernel
theorem d_W_law_1111 : decode code 1111 = .ok (.invokevirtual 72, 3) := by decide +kernel
theorem d_W_law_1114 : decode code 1114 = .ok (.iload 5, 2) := by decide +kernel
theorem d_W_law_1116 : decode code 1116 = .ok (.if_icmp .eq 5, 3) := by decide +kernel
theorem d_W_law_1119 : decode code 1119 = .ok (.iconst 0, 1) := by decide +kernel
theorem d_W_law_1120 : decode code 1120 = .ok (.ireturn, 1) := by decide +kernel
theorem d_W_law_1121 : decode code 1121 = .ok (.iload 5, 2) := by decide +kernel
theorem d_W_law_1123 : decode code 1123 = .ok (.ifCond .ne 15, 3) := by decide +kernel
theorem d_W_law_1126 : decode code 1126 = .ok (.aload_n 3, 1) := by decide +kernel
theorem d_W_law_1127 : decode code 1127 = .ok (.iconst 0, 1) := by decide +kernel
theorem d_W_law_1128 : decode code 1128 = .ok (.laload, 1) := by decide +kernel
theorem d_W_law_1129 : decode code 1129 = .ok (.iload 6, 2) := by decide +kernel
theorem d_W_law_1131 : decode code 1131 = .ok (.i2l, 1) := by decide +kernel
theorem d_W_law_1132 : decode code 1132 = .ok (.lcmp, 1) := by decide +kernel
theorem d_W_law_1133 : decode code 1133 = .ok (.ifCond .eq 5, 3) := by decide +kernel
theorem d_W_law_1136 : decode code 1136 = .ok (.iconst 0, 1) := by decide +kernel
theorem d_W_law_1137 : decode code 1137 = .ok (.ireturn, 1) := by decide +kernel
theorem d_W_law_1138 : decode code 1138 = .ok (.goto 3, 3) := by decide +kernel
theorem d_W_law_1141 : decode code 1141 = .ok (.iinc 4 5, 3) := by decide +kernel
theorem d_W_law_1144 : decode code 1144 = .ok (.goto (-1121), 3) := by decide +kernel
theorem d_W_law_1147 : decode code 1147 = .ok (.iconst 1, 1) := by decide +kernel
theorem d_W_law_1148 : decode code 1148 = .ok (.ireturn, 1) := by decide +kernel
def g_W_law_1087 (r23 : Nat → Nat → Nat → Nat → Int32 → XM → XP) (v0 : Nat) (v1 : Nat) (v2 : Nat) (v3 : Nat) (v4 : Int32) (v5 : Int32) (s0 : Nat) (s1 : Int32) (M : XM) : XP :=
    aI M v0 (v4 + 2) fun t1 =>
    aI M v0 (v4 + 3) fun t2 =>
    aI M v0 (v4 + 4) fun t3 =>
    rv M 27 s0 <|
    cI (g_R_run s0 s1 t1 t2 t3 M) fun t6 M5 =>
    rv M5 27 v2 <|
    cI (g_R_thrown v2  M5) fun t9 M8 =>
    if t9 = v5 then
    (if ¬ v5 = 0 then
    (r23 v0 v1 v2 v3 ((v4 + 5)) M8)
    else
    aJ M8 v3 0 fun t10 =>
    if (lg_cmp t10 (t6).toInt64) = 0 then
    (r23 v0 v1 v2 v3 ((v4 + 5)) M8)
    else
    z01 0 (some (.inl (some (.int 0)), M8)))
    else
    z01 0 (some (.inl (some (.int 0)), M8))
def g_W_law_1048 (r23 : Nat → Nat → Nat → Nat → Int32 → XM → XP) (v0 : Nat) (v1 : Nat) (v2 : Nat) (v3 : Nat) (v4 : Int32) (s0 : Nat) (s1 : Int32) (M : XM) : XP :=
    aI M v0 (v4 + 2) fun t1 =>
    aI M v0 (v4 + 3) fun t2 =>
    aI M v0 (v4 + 4) fun t3 =>
    cI (g_W_run s0 s1 t1 t2 t3 v3 M) fun t5 M4 =>
    aI M4 v0 (v4 + 1) fun t6 =>
    if t6 = 0 then
    (g_W_law_1087 r23 v0 v1 v2 v3 v4 t5 v2 0 M4)
    else
    g_W_law_1087 r23 v0 v1 v2 v3 v4 t5 v2 1 M4
def g_W_law_960 (r23 : Nat → Nat → Nat → Nat → Int32 → XM → XP) (v0 : Nat) (v1 : Nat) (v2 : Nat) (v3 : Nat) (v4 : Int32) (v5 : Int32) (s0 : Nat) (s1 : Int32) (M : XM) : XP :=
    aI M v0 (v4 + 2) fun t1 =>
    aI M v0 (v4 + 3) fun t2 =>
    rv M 27 s0 <|
    cI (g_R_codeAt s0 s1 t1 t2 M) fun t5 M4 =>
    rv M4 27 v2 <|
    cI (g_R_thrown v2  M4) fun t8 M7 =>
    if t8 = v5 then
    (if ¬ v5 = 0 then
    (r23 v0 v1 v2 v3 ((v4 + 5)) M7)
    else
    aJ M7 v3 0 fun t9 =>
    if (lg_cmp t9 (t5).toInt64) = 0 then
    (r23 v0 v1 v2 v3 ((v4 + 5)) M7)
    else
    z01 0 (some (.inl (some (.int 0)), M7)))
    else
    z01 0 (some (.inl (some (.int 0)), M7))
def g_W_law_927 (r23 : Nat → Nat → Nat → Nat → Int32 → XM → XP) (v0 : Nat) (v1 : Nat) (v2 : Nat) (v3 : Nat) (v4 : Int32) (s0 : Nat) (s1 : Int32) (M : XM) : XP :=
    aI M v0 (v4 + 2) fun t1 =>
    aI M v0 (v4 + 3) fun t2 =>
    cI (g_W_codeAt s0 s1 t1 t2 v3 M) fun t4 M3 =>
    aI M3 v0 (v4 + 1) fun t5 =>
    if t5 = 0 then
    (g_W_law_960 r23 v0 v1 v2 v3 v4 t4 v2 0 M3)
    else
    g_W_law_960 r23 v0 v1 v2 v3 v4 t4 v2 1 M3
def g_W_law_864 (r23 : Nat → Nat → Nat → Nat → Int32 → XM → XP) (v0 : Nat) (v1 : Nat) (v2 : Nat) (v3 : Nat) (v4 : Int32) (v5 : Int32) (s0 : Nat) (s1 : Int32) (M : XM) : XP :=
    aI M v0 (v4 + 2) fun t1 =>
    aI M v0 (v4 + 3) fun t2 =>
    rv M 27 s0 <|
    cI (g_R_memberAt s0 s1 t1 t2 M) fun t5 M4 =>
    rv M4 27 v2 <|
    cI (g_R_thrown v2  M4) fun t8 M7 =>
    if t8 = v5 then
    (if ¬ v5 = 0 then
    (r23 v0 v1 v2 v3 ((v4 + 5)) M7)
    else
    aJ M7 v3 0 fun t9 =>
    if (lg_cmp t9 (t5).toInt64) = 0 then
    (r23 v0 v1 v2 v3 ((v4 + 5)) M7)
    else
    z01 0 (some (.inl (some (.int 0)), M7)))
    else
    z01 0 (some (.inl (some (.int 0)), M7))
def g_W_law_831 (r23 : Nat → Nat → Nat → Nat → Int32 → XM → XP) (v0 : Nat) (v1 : Nat) (v2 : Nat) (v3 : Nat) (v4 : Int32) (s0 : Nat) (s1 : Int32) (M : XM) : XP :=
    aI M v0 (v4 + 2) fun t1 =>
    aI M v0 (v4 + 3) fun t2 =>
    cI (g_W_memberAt s0 s1 t1 t2 v3 M) fun t4 M3 =>
    aI M3 v0 (v4 + 1) fun t5 =>
    if t5 = 0 then
    (g_W_law_864 r23 v0 v1 v2 v3 v4 t4 v2 0 M3)
    else
    g_W_law_864 r23 v0 v1 v2 v3 v4 t4 v2 1 M3
def g_W_law_762 (r23 : Nat → Nat → Nat → Nat → Int32 → XM → XP) (v0 : Nat) (v1 : Nat) (v2 : Nat) (v3 : Nat) (v4 : Int32) (v5 : Int32) (s0 : Nat) (s1 : Int32) (M : XM) : XP :=
    aI M v0 (v4 + 2) fun t1 =>
    aI M v0 (v4 + 3) fun t2 =>
    aI M v0 (v4 + 4) fun t3 =>
    rv M 27 s0 <|
    cI (g_R_constantAt s0 s1 t1 t2 t3 M) fun t6 M5 =>
    rv M5 27 v2 <|
    cI (g_R_thrown v2  M5) fun t9 M8 =>
    if t9 = v5 then
    (if ¬ v5 = 0 then
    (r23 v0 v1 v2 v3 ((v4 + 5)) M8)
    else
    aJ M8 v3 0 fun t10 =>
    if (lg_cmp t10 (t6).toInt64) = 0 then
    (r23 v0 v1 v2 v3 ((v4 + 5)) M8)
    else
    z01 0 (some (.inl (some (.int 0)), M8)))
    else
    z01 0 (some (.inl (some (.int 0)), M8))
def g_W_law_723 (r23 : Nat → Nat → Nat → Nat → Int32 → XM → XP) (v0 : Nat) (v1 : Nat) (v2 : Nat) (v3 : Nat) (v4 : Int32) (s0 : Nat) (s1 : Int32) (M : XM) : XP :=
    aI M v0 (v4 + 2) fun t1 =>
    aI M v0 (v4 + 3) fun t2 =>
    aI M v0 (v4 + 4) fun t3 =>
    cI (g_W_constantAt s0 s1 t1 t2 t3 v3 M) fun t5 M4 =>
    aI M4 v0 (v4 + 1) fun t6 =>
    if t6 = 0 then
    (g_W_law_762 r23 v0 v1 v2 v3 v4 t5 v2 0 M4)
    else
    g_W_law_762 r23 v0 v1 v2 v3 v4 t5 v2 1 M4
def g_W_law_666 (r23 : Nat → Nat → Nat → Nat → Int32 → XM → XP) (v0 : Nat) (v1 : Nat) (v2 : Nat) (v3 : Nat) (v4 : Int32) (v5 : Int32) (s0 : Nat) (s1 : Int32) (M : XM) : XP :=
    aI M v0 (v4 + 2) fun t1 =>
    rv M 27 s0 <|
    cI (g_R_pool s0 s1 t1 M) fun t4 M3 =>
    rv M3 27 v2 <|
    cI (g_R_thrown v2  M3) fun t7 M6 =>
    if t7 = v5 then
    (if ¬ v5 = 0 then
    (r23 v0 v1 v2 v3 ((v4 + 5)) M6)
    else
    aJ M6 v3 0 fun t8 =>
    if (lg_cmp t8 (t4).toInt64) = 0 then
    (r23 v0 v1 v2 v3 ((v4 + 5)) M6)
    else
    z01 0 (some (.inl (some (.int 0)), M6)))
    else
    z01 0 (some (.inl (some (.int 0)), M6))
def g_W_law_639 (r23 : Nat → Nat → Nat → Nat → Int32 → XM → XP) (v0 : Nat) (v1 : Nat) (v2 : Nat) (v3 : Nat) (v4 : Int32) (s0 : Nat) (s1 : Int32) (M : XM) : XP :=
    aI M v0 (v4 + 2) fun t1 =>
    cI (g_W_pool s0 s1 t1 v3 M) fun t3 M2 =>
    aI M2 v0 (v4 + 1) fun t4 =>
    if t4 = 0 then
    (g_W_law_666 r23 v0 v1 v2 v3 v4 t3 v2 0 M2)
    else
    g_W_law_666 r23 v0 v1 v2 v3 v4 t3 v2 1 M2
def g_W_law_582 (r23 : Nat → Nat → Nat → Nat → Int32 → XM → XP) (v0 : Nat) (v1 : Nat) (v2 : Nat) (v3 : Nat) (v4 : Int32) (v5 : Int32) (s0 : Nat) (s1 : Int32) (M : XM) : XP :=
    aI M v0 (v4 + 2) fun t1 =>
    rv M 27 s0 <|
    cI (g_R_count s0 s1 t1 M) fun t4 M3 =>
    rv M3 27 v2 <|
    cI (g_R_thrown v2  M3) fun t7 M6 =>
    if t7 = v5 then
    (if ¬ v5 = 0 then
    (r23 v0 v1 v2 v3 ((v4 + 5)) M6)
    else
    aJ M6 v3 0 fun t8 =>
    if (lg_cmp t8 (t4).toInt64) = 0 then
    (r23 v0 v1 v2 v3 ((v4 + 5)) M6)
    else
    z01 0 (some (.inl (some (.int 0)), M6)))
    else
    z01 0 (some (.inl (some (.int 0)), M6))
def g_W_law_555 (r23 : Nat → Nat → Nat → Nat → Int32 → XM → XP) (v0 : Nat) (v1 : Nat) (v2 : Nat) (v3 : Nat) (v4 : Int32) (s0 : Nat) (s1 : Int32) (M : XM) : XP :=
    aI M v0 (v4 + 2) fun t1 =>
    cI (g_W_count s0 s1 t1 v3 M) fun t3 M2 =>
    aI M2 v0 (v4 + 1) fun t4 =>
    if t4 = 0 then
    (g_W_law_582 r23 v0 v1 v2 v3 v4 t3 v2 0 M2)
    else
    g_W_law_582 r23 v0 v1 v2 v3 v4 t3 v2 1 M2
def g_W_law_455 (r23 : Nat → Nat → Nat → Nat → Int32 → XM → XP) (v0 : Nat) (v1 : Nat) (v2 : Nat) (v3 : Nat) (v4 : Int32) (v5 : Int32) (s0 : Nat) (s1 : Int32) (s2 : Int32) (M : XM) : XP :=
    rv M 27 s0 <|
    cV (g_R_entry s0 s1 s2 M) fun M2 =>
    rv M2 27 v2 <|
    cI (g_R_thrown v2  M2) fun t5 M4 =>
    if t5 = v5 then
    (r23 v0 v1 v2 v3 ((v4 + 5)) M4)
    else
    z01 0 (some (.inl (some (.int 0)), M4))
def g_W_law_429 (r23 : Nat → Nat → Nat → Nat → Int32 → XM → XP) (v0 : Nat) (v1 : Nat) (v2 : Nat) (v3 : Nat) (v4 : Int32) (s0 : Nat) (s1 : Int32) (s2 : Int32) (M : XM) : XP :=
    cI (g_W_entry s0 s1 s2 M) fun t2 M1 =>
    aI M1 v0 (v4 + 1) fun t3 =>
    aI M1 v0 (v4 + 2) fun t4 =>
    if t4 = 0 then
    (g_W_law_455 r23 v0 v1 v2 v3 v4 t2 v2 t3 0 M1)
    else
    g_W_law_455 r23 v0 v1 v2 v3 v4 t2 v2 t3 1 M1
def g_W_law_23 : Nat → Nat → Nat → Nat → Nat → Int32 → XM → XP
  | 0, _, _, _, _, _, _ => none
  | n + 1, v0, v1, v2, v3, v4, M =>
    aL M v0 fun t1 =>
    if (t1 - 5) < v4 then
    (z01 1 (some (.inl (some (.int 1)), M)))
    else
    aI M v0 v4 fun t2 =>
    if (t2 &&& 15) = 0 then
    (cI (g_W_add v1 v3 M) fun t86 M85 =>
    rv M85 27 v2 <|
    cI (g_R_add v2  M85) fun t89 M88 =>
    rv M88 27 v2 <|
    cI (g_R_thrown v2  M88) fun t92 M91 =>
    if t92 = t86 then
    (if ¬ t86 = 0 then
    (g_W_law_23 n v0 v1 v2 v3 ((v4 + 5)) M91)
    else
    aJ M91 v3 0 fun t93 =>
    if (lg_cmp t93 (t89).toInt64) = 0 then
    (g_W_law_23 n v0 v1 v2 v3 ((v4 + 5)) M91)
    else
    z01 0 (some (.inl (some (.int 0)), M91)))
    else
    z01 0 (some (.inl (some (.int 0)), M91)))
    else
    if (t2 &&& 15) = 1 then
    (aI M v0 (v4 + 1) fun t68 =>
    aI M v0 (v4 + 2) fun t69 =>
    aI M v0 (v4 + 3) fun t70 =>
    aI M v0 (v4 + 4) fun t71 =>
    cI (g_W_constant v1 t68 t69 t70 t71 v3 M) fun t73 M72 =>
    aI M72 v0 (v4 + 1) fun t74 =>
    aI M72 v0 (v4 + 2) fun t75 =>
    aI M72 v0 (v4 + 3) fun t76 =>
    aI M72 v0 (v4 + 4) fun t77 =>
    rv M72 27 v2 <|
    cI (g_R_constant v2 t74 t75 t76 t77 M72) fun t80 M79 =>
    rv M79 27 v2 <|
    cI (g_R_thrown v2  M79) fun t83 M82 =>
    if t83 = t73 then
    (if ¬ t73 = 0 then
    (g_W_law_23 n v0 v1 v2 v3 ((v4 + 5)) M82)
    else
    aJ M82 v3 0 fun t84 =>
    if (lg_cmp t84 (t80).toInt64) = 0 then
    (g_W_law_23 n v0 v1 v2 v3 ((v4 + 5)) M82)
    else
    z01 0 (some (.inl (some (.int 0)), M82)))
    else
    z01 0 (some (.inl (some (.int 0)), M82)))
    else
    if (t2 &&& 15) = 2 then
    (aI M v0 (v4 + 1) fun t53 =>
    aI M v0 (v4 + 2) fun t54 =>
    aI M v0 (v4 + 3) fun t55 =>
    cI (g_W_member v1 t53 t54 t55 v3 M) fun t57 M56 =>
    aI M56 v0 (v4 + 1) fun t58 =>
    aI M56 v0 (v4 + 2) fun t59 =>
    aI M56 v0 (v4 + 3) fun t60 =>
    rv M56 27 v2 <|
    cI (g_R_member v2 t58 t59 t60 M56) fun t63 M62 =>
    rv M62 27 v2 <|
    cI (g_R_thrown v2  M62) fun t66 M65 =>
    if t66 = t57 then
    (if ¬ t57 = 0 then
    (g_W_law_23 n v0 v1 v2 v3 ((v4 + 5)) M65)
    else
    aJ M65 v3 0 fun t67 =>
    if (lg_cmp t67 (t63).toInt64) = 0 then
    (g_W_law_23 n v0 v1 v2 v3 ((v4 + 5)) M65)
    else
    z01 0 (some (.inl (some (.int 0)), M65)))
    else
    z01 0 (some (.inl (some (.int 0)), M65)))
    else
    if (t2 &&& 15) = 3 then
    (aI M v0 (v4 + 1) fun t38 =>
    aI M v0 (v4 + 2) fun t39 =>
    aI M v0 (v4 + 3) fun t40 =>
    cI (g_W_code v1 t38 t39 t40 v3 M) fun t42 M41 =>
    aI M41 v0 (v4 + 1) fun t43 =>
    aI M41 v0 (v4 + 2) fun t44 =>
    aI M41 v0 (v4 + 3) fun t45 =>
    rv M41 27 v2 <|
    cI (g_R_code v2 t43 t44 t45 M41) fun t48 M47 =>
    rv M47 27 v2 <|
    cI (g_R_thrown v2  M47) fun t51 M50 =>
    if t51 = t42 then
    (if ¬ t42 = 0 then
    (g_W_law_23 n v0 v1 v2 v3 ((v4 + 5)) M50)
    else
    aJ M50 v3 0 fun t52 =>
    if (lg_cmp t52 (t48).toInt64) = 0 then
    (g_W_law_23 n v0 v1 v2 v3 ((v4 + 5)) M50)
    else
    z01 0 (some (.inl (some (.int 0)), M50)))
    else
    z01 0 (some (.inl (some (.int 0)), M50)))
    else
    if (t2 &&& 15) = 4 then
    (aI M v0 (v4 + 1) fun t36 =>
    aI M v0 (v4 + 2) fun t37 =>
    if t37 = 0 then
    (g_W_law_429 (g_W_law_23 n) v0 v1 v2 v3 v4 v1 t36 0 M)
    else
    g_W_law_429 (g_W_law_23 n) v0 v1 v2 v3 v4 v1 t36 1 M)
    else
    if (t2 &&& 15) = 5 then
    (rv M 20 v1 <|
    cV (g_S_clear v1  M) fun M33 =>
    rv M33 27 v2 <|
    cV (g_R_clear v2  M33) fun M35 =>
    g_W_law_23 n v0 v1 v2 v3 ((v4 + 5)) M35)
    else
    if (t2 &&& 15) = 6 then
    (rv M 20 v1 <|
    cI (g_S_fault v1  M) fun t28 M27 =>
    rv M27 27 v2 <|
    cI (g_R_fault v2  M27) fun t31 M30 =>
    if t28 = t31 then
    (g_W_law_23 n v0 v1 v2 v3 ((v4 + 5)) M30)
    else
    z01 0 (some (.inl (some (.int 0)), M30)))
    else
    if (t2 &&& 15) = 7 then
    (cI (g_W_shake v1 v3 M) fun t18 M17 =>
    rv M17 27 v2 <|
    cI (g_R_shake v2  M17) fun t21 M20 =>
    rv M20 27 v2 <|
    cI (g_R_thrown v2  M20) fun t24 M23 =>
    if t24 = t18 then
    (if ¬ t18 = 0 then
    (g_W_law_23 n v0 v1 v2 v3 ((v4 + 5)) M23)
    else
    aJ M23 v3 0 fun t25 =>
    if (lg_cmp t25 (t21).toInt64) = 0 then
    (g_W_law_23 n v0 v1 v2 v3 ((v4 + 5)) M23)
    else
    z01 0 (some (.inl (some (.int 0)), M23)))
    else
    z01 0 (some (.inl (some (.int 0)), M23)))
    else
    if (t2 &&& 15) = 8 then
    (aI M v0 (v4 + 1) fun t16 =>
    if t16 = 0 then
    (g_W_law_555 (g_W_law_23 n) v0 v1 v2 v3 v4 v1 0 M)
    else
    g_W_law_555 (g_W_law_23 n) v0 v1 v2 v3 v4 v1 1 M)
    else
    if (t2 &&& 15) = 9 then
    (aI M v0 (v4 + 1) fun t15 =>
    if t15 = 0 then
    (g_W_law_639 (g_W_law_23 n) v0 v1 v2 v3 v4 v1 0 M)
    else
    g_W_law_639 (g_W_law_23 n) v0 v1 v2 v3 v4 v1 1 M)
    else
    if (t2 &&& 15) = 10 then
    (aI M v0 (v4 + 1) fun t14 =>
    if t14 = 0 then
    (g_W_law_723 (g_W_law_23 n) v0 v1 v2 v3 v4 v1 0 M)
    else
    g_W_law_723 (g_W_law_23 n) v0 v1 v2 v3 v4 v1 1 M)
    else
    if (t2 &&& 15) = 11 then
    (aI M v0 (v4 + 1) fun t13 =>
    if t13 = 0 then
    (g_W_law_831 (g_W_law_23 n) v0 v1 v2 v3 v4 v1 0 M)
    else
    g_W_law_831 (g_W_law_23 n) v0 v1 v2 v3 v4 v1 1 M)
    else
    if (t2 &&& 15) = 12 then
    (aI M v0 (v4 + 1) fun t12 =>
    if t12 = 0 then
    (g_W_law_927 (g_W_law_23 n) v0 v1 v2 v3 v4 v1 0 M)
    else
    g_W_law_927 (g_W_law_23 n) v0 v1 v2 v3 v4 v1 1 M)
    else
    if (t2 &&& 15) = 13 then
    (aI M v0 (v4 + 1) fun t4 =>
    rv M 20 v1 <|
    cI (g_S_moved v1 t4 M) fun t7 M6 =>
    aI M6 v0 (v4 + 1) fun t8 =>
    rv M6 27 v2 <|
    cI (g_R_moved v2 t8 M6) fun t11 M10 =>
    if t7 = t11 then
    (g_W_law_23 n v0 v1 v2 v3 ((v4 + 5)) M10)
    else
    z01 0 (some (.inl (some (.int 0)), M10)))
    else
    if (t2 &&& 15) = 14 then
    (aI M v0 (v4 + 1) fun t3 =>
    if t3 = 0 then
    (g_W_law_1048 (g_W_law_23 n) v0 v1 v2 v3 v4 v1 0 M)
    else
    g_W_law_1048 (g_W_law_23 n) v0 v1 v2 v3 v4 v1 1 M)
    else
    g_W_law_23 n v0 v1 v2 v3 ((v4 + 5)) M
def g_W_law (v0 : Nat) (M : XM) : XP :=
    nO M 20 4 fun t1 M2 =>
    cV (g_S_init t1  M2) fun M3 =>
    nO M3 27 30 fun t4 M5 =>
    cV (g_R_init t4  M5) fun M6 =>
    nA M6 2 1 fun t7 M8 =>
    g_W_law_23 FU v0 t1 t4 t7 0 M8
section XG
variable {K : XK} {o : XO} {N : XM}
theorem p_W_law_1087 (G : xG K) {r23 : Nat → Nat → Nat → Nat → Int32 → XM → XP} (hr23 : ∀ w0 w1 w2 w3 w4 Q, r23 w0 w1 w2 w3 w4 Q = some (o, N) → cA K y_W_law 23 [(0, .ref w0), (1, .ref w1), (2, .ref w2), (3, .ref w3), (4, .int w4)] [] Q o N) (v0 : Nat) (v1 : Nat) (v2 : Nat) (v3 : Nat) (v4 : Int32) (v5 : Int32) (s0 : Nat) (s1 : Int32) (M : XM) (h : g_W_law_1087 r23 v0 v1 v2 v3 v4 v5 s0 s1 M = some (o, N)) : cA K y_W_law 1087 [(0, .ref v0), (1, .ref v1), (2, .ref v2), (3, .ref v3), (4, .int v4), (5, .int v5)] [.int s1, .ref s0] M o N := by
  unfold g_W_law_1087 at h
  refine x_aload_n (pc := 1087) d_W_law_1087 rfl 0 rfl ?_
  refine x_iload (pc := 1088) d_W_law_1088 4 rfl ?_
  refine x_iconst (pc := 1090) d_W_law_1090 rfl ?_
  refine x_iadd (pc := 1091) d_W_law_1091 ?_
  refine h_iaload (pc := 1092) d_W_law_1092 h fun t1 h => ?_
  refine x_aload_n (pc := 1093) d_W_law_1093 rfl 0 rfl ?_
  refine x_iload (pc := 1094) d_W_law_1094 4 rfl ?_
  refine x_iconst (pc := 1096) d_W_law_1096 rfl ?_
  refine x_iadd (pc := 1097) d_W_law_1097 ?_
  refine h_iaload (pc := 1098) d_W_law_1098 h fun t2 h => ?_
  refine x_aload_n (pc := 1099) d_W_law_1099 rfl 0 rfl ?_
  refine x_iload (pc := 1100) d_W_law_1100 4 rfl ?_
  refine x_iconst (pc := 1102) d_W_law_1102 rfl ?_
  refine x_iadd (pc := 1103) d_W_law_1103 ?_
  refine h_iaload (pc := 1104) d_W_law_1104 h fun t3 h => ?_
  obtain ⟨⟨ra4, ra4t⟩, h⟩ := h_ok h
  refine h_callI G (x_siteV G (pc := 1105) (y2 := y_R_run) (As := [.int s1, .int t1, .int t2, .int t3]) (S := []) (ci := 7) d_W_law_1105 rfl lm_W_126 mi_R_run ms_R_run mw_R_run.1 mx_R_run.1 mx_R_run.2 rfl ra4 ra4t) mw_R_run ⟨Nat.le_of_ble_eq_true rfl, Nat.le_of_ble_eq_true rfl⟩ rfl (fun _ _ e => p_R_run G _ _ _ _ _ _ e) h fun t6 M5 h => ?_
  refine x_istore (pc := 1108) (L' := [(0, .ref v0), (1, .ref v1), (2, .ref v2), (3, .ref v3), (4, .int v4), (5, .int v5), (6, .int t6)]) d_W_law_1108 (by decide) rfl ?_
  refine x_aload_n (pc := 1110) d_W_law_1110 rfl 2 rfl ?_
  obtain ⟨⟨ra7, ra7t⟩, h⟩ := h_ok h
  refine h_callI G (x_siteV G (pc := 1111) (y2 := y_R_thrown) (As := []) (S := []) (ci := 7) d_W_law_1111 rfl lm_W_72 mi_R_thrown ms_R_thrown mw_R_thrown.1 mx_R_thrown.1 mx_R_thrown.2 rfl ra7 ra7t) mw_R_thrown ⟨Nat.le_of_ble_eq_true rfl, Nat.le_of_ble_eq_true rfl⟩ rfl (fun _ _ e => p_R_thrown G _ _ e) h fun t9 M8 h => ?_
  refine x_iload (pc := 1114) d_W_law_1114 5 rfl ?_
  refine h_icmp_eq (pc := 1116) 1121 d_W_law_1116 (by decide) h (fun _ h => ?_) (fun _ h => ?_)
  · refine x_iload (pc := 1121) d_W_law_1121 5 rfl ?_
    refine h_if_ne (pc := 1123) 1138 d_W_law_1123 (by decide) h (fun _ h => ?_) (fun _ h => ?_)
    · refine x_goto (pc := 1138) 1141 d_W_law_1138 (by decide) ?_
      refine x_iinc (pc := 1141) (n := 4) (L' := [(0, .ref v0), (1, .ref v1), (2, .ref v2), (3, .ref v3), (4, .int (v4 + 5)), (5, .int v5), (6, .int t6)]) d_W_law_1141 (by decide) rfl rfl ?_
      refine x_goto (pc := 1144) 23 d_W_law_1144 (by decide) ?_
      refine x_weak [0, 1, 2, 3, 4] rfl ?_
      exact hr23 _ _ _ _ _ _ h
    · refine x_aload_n (pc := 1126) d_W_law_1126 rfl 3 rfl ?_
      refine x_iconst (pc := 1127) d_W_law_1127 rfl ?_
      refine h_laload (pc := 1128) d_W_law_1128 h fun t10 h => ?_
      refine x_iload (pc := 1129) d_W_law_1129 6 rfl ?_
      refine x_i2l (pc := 1131) d_W_law_1131 ?_
      refine x_lcmp (pc := 1132) d_W_law_1132 ?_
      refine h_if_eq (pc := 1133) 1138 d_W_law_1133 (by decide) h (fun _ h => ?_) (fun _ h => ?_)
      · refine x_goto (pc := 1138) 1141 d_W_law_1138 (by decide) ?_
        refine x_iinc (pc := 1141) (n := 4) (L' := [(0, .ref v0), (1, .ref v1), (2, .ref v2), (3, .ref v3), (4, .int (v4 + 5)), (5, .int v5), (6, .int t6)]) d_W_law_1141 (by decide) rfl rfl ?_
        refine x_goto (pc := 1144) 23 d_W_law_1144 (by decide) ?_
        refine x_weak [0, 1, 2, 3, 4] rfl ?_
        exact hr23 _ _ _ _ _ _ h
      · refine x_iconst (pc := 1136) d_W_law_1136 rfl ?_
        exact h_zreturn (pc := 1137) d_W_law_1137 rfl h
  · refine x_iconst (pc := 1119) d_W_law_1119 rfl ?_
    exact h_zreturn (pc := 1120) d_W_law_1120 rfl h
theorem p_W_law_1048 (G : xG K) {r23 : Nat → Nat → Nat → Nat → Int32 → XM → XP} (hr23 : ∀ w0 w1 w2 w3 w4 Q, r23 w0 w1 w2 w3 w4 Q = some (o, N) → cA K y_W_law 23 [(0, .ref w0), (1, .ref w1), (2, .ref w2), (3, .ref w3), (4, .int w4)] [] Q o N) (v0 : Nat) (v1 : Nat) (v2 : Nat) (v3 : Nat) (v4 : Int32) (s0 : Nat) (s1 : Int32) (M : XM) (h : g_W_law_1048 r23 v0 v1 v2 v3 v4 s0 s1 M = some (o, N)) : cA K y_W_law 1048 [(0, .ref v0), (1, .ref v1), (2, .ref v2), (3, .ref v3), (4, .int v4)] [.int s1, .ref s0] M o N := by
  unfold g_W_law_1048 at h
  refine x_aload_n (pc := 1048) d_W_law_1048 rfl 0 rfl ?_
  refine x_iload (pc := 1049) d_W_law_1049 4 rfl ?_
  refine x_iconst (pc := 1051) d_W_law_1051 rfl ?_
  refine x_iadd (pc := 1052) d_W_law_1052 ?_
  refine h_iaload (pc := 1053) d_W_law_1053 h fun t1 h => ?_
  refine x_aload_n (pc := 1054) d_W_law_1054 rfl 0 rfl ?_
  refine x_iload (pc := 1055) d_W_law_1055 4 rfl ?_
  refine x_iconst (pc := 1057) d_W_law_1057 rfl ?_
  refine x_iadd (pc := 1058) d_W_law_1058 ?_
  refine h_iaload (pc := 1059) d_W_law_1059 h fun t2 h => ?_
  refine x_aload_n (pc := 1060) d_W_law_1060 rfl 0 rfl ?_
  refine x_iload (pc := 1061) d_W_law_1061 4 rfl ?_
  refine x_iconst (pc := 1063) d_W_law_1063 rfl ?_
  refine x_iadd (pc := 1064) d_W_law_1064 ?_
  refine h_iaload (pc := 1065) d_W_law_1065 h fun t3 h => ?_
  refine x_aload_n (pc := 1066) d_W_law_1066 rfl 3 rfl ?_
  refine h_callI G (x_siteS G (pc := 1067) (y2 := y_W_run) (As := [.ref s0, .int s1, .int t1, .int t2, .int t3, .ref v3]) (S := []) d_W_law_1067 lm_W_124 mi_W_run mw_W_run.2 mw_W_run.1 mx_W_run.1 mx_W_run.2 rfl) mw_W_run ⟨Nat.le_of_ble_eq_true rfl, Nat.le_of_ble_eq_true rfl⟩ rfl (fun _ _ e => p_W_run G _ _ _ _ _ _ _ e) h fun t5 M4 h => ?_
  refine x_istore (pc := 1070) (L' := [(0, .ref v0), (1, .ref v1), (2, .ref v2), (3, .ref v3), (4, .int v4), (5, .int t5)]) d_W_law_1070 (by decide) rfl ?_
  refine x_aload_n (pc := 1072) d_W_law_1072 rfl 2 rfl ?_
  refine x_aload_n (pc := 1073) d_W_law_1073 rfl 0 rfl ?_
  refine x_iload (pc := 1074) d_W_law_1074 4 rfl ?_
  refine x_iconst (pc := 1076) d_W_law_1076 rfl ?_
  refine x_iadd (pc := 1077) d_W_law_1077 ?_
  refine h_iaload (pc := 1078) d_W_law_1078 h fun t6 h => ?_
  refine h_if_eq (pc := 1079) 1086 d_W_law_1079 (by decide) h (fun _ h => ?_) (fun _ h => ?_)
  · refine x_iconst (pc := 1086) d_W_law_1086 rfl ?_
    refine x_weak [0, 1, 2, 3, 4, 5] rfl ?_
    exact p_W_law_1087 G hr23 _ _ _ _ _ _ _ _ _ h
  · refine x_iconst (pc := 1082) d_W_law_1082 rfl ?_
    refine x_goto (pc := 1083) 1087 d_W_law_1083 (by decide) ?_
    refine x_weak [0, 1, 2, 3, 4, 5] rfl ?_
    exact p_W_law_1087 G hr23 _ _ _ _ _ _ _ _ _ h
theorem p_W_law_960 (G : xG K) {r23 : Nat → Nat → Nat → Nat → Int32 → XM → XP} (hr23 : ∀ w0 w1 w2 w3 w4 Q, r23 w0 w1 w2 w3 w4 Q = some (o, N) → cA K y_W_law 23 [(0, .ref w0), (1, .ref w1), (2, .ref w2), (3, .ref w3), (4, .int w4)] [] Q o N) (v0 : Nat) (v1 : Nat) (v2 : Nat) (v3 : Nat) (v4 : Int32) (v5 : Int32) (s0 : Nat) (s1 : Int32) (M : XM) (h : g_W_law_960 r23 v0 v1 v2 v3 v4 v5 s0 s1 M = some (o, N)) : cA K y_W_law 960 [(0, .ref v0), (1, .ref v1), (2, .ref v2), (3, .ref v3), (4, .int v4), (5, .int v5)] [.int s1, .ref s0] M o N := by
  unfold g_W_law_960 at h
  refine x_aload_n (pc := 960) d_W_law_960 rfl 0 rfl ?_
  refine x_iload (pc := 961) d_W_law_961 4 rfl ?_
  refine x_iconst (pc := 963) d_W_law_963 rfl ?_
  refine x_iadd (pc := 964) d_W_law_964 ?_
  refine h_iaload (pc := 965) d_W_law_965 h fun t1 h => ?_
  refine x_aload_n (pc := 966) d_W_law_966 rfl 0 rfl ?_
  refine x_iload (pc := 967) d_W_law_967 4 rfl ?_
  refine x_iconst (pc := 969) d_W_law_969 rfl ?_
  refine x_iadd (pc := 970) d_W_law_970 ?_
  refine h_iaload (pc := 971) d_W_law_971 h fun t2 h => ?_
  obtain ⟨⟨ra3, ra3t⟩, h⟩ := h_ok h
  refine h_callI G (x_siteV G (pc := 972) (y2 := y_R_codeAt) (As := [.int s1, .int t1, .int t2]) (S := []) (ci := 7) d_W_law_972 rfl lm_W_118 mi_R_codeAt ms_R_codeAt mw_R_codeAt.1 mx_R_codeAt.1 mx_R_codeAt.2 rfl ra3 ra3t) mw_R_codeAt ⟨Nat.le_of_ble_eq_true rfl, Nat.le_of_ble_eq_true rfl⟩ rfl (fun _ _ e => p_R_codeAt G _ _ _ _ _ e) h fun t5 M4 h => ?_
  refine x_istore (pc := 975) (L' := [(0, .ref v0), (1, .ref v1), (2, .ref v2), (3, .ref v3), (4, .int v4), (5, .int v5), (6, .int t5)]) d_W_law_975 (by decide) rfl ?_
  refine x_aload_n (pc := 977) d_W_law_977 rfl 2 rfl ?_
  obtain ⟨⟨ra6, ra6t⟩, h⟩ := h_ok h
  refine h_callI G (x_siteV G (pc := 978) (y2 := y_R_thrown) (As := []) (S := []) (ci := 7) d_W_law_978 rfl lm_W_72 mi_R_thrown ms_R_thrown mw_R_thrown.1 mx_R_thrown.1 mx_R_thrown.2 rfl ra6 ra6t) mw_R_thrown ⟨Nat.le_of_ble_eq_true rfl, Nat.le_of_ble_eq_true rfl⟩ rfl (fun _ _ e => p_R_thrown G _ _ e) h fun t8 M7 h => ?_
  refine x_iload (pc := 981) d_W_law_981 5 rfl ?_
  refine h_icmp_eq (pc := 983) 988 d_W_law_983 (by decide) h (fun _ h => ?_) (fun _ h => ?_)
  · refine x_iload (pc := 988) d_W_law_988 5 rfl ?_
    refine h_if_ne (pc := 990) 1005 d_W_law_990 (by decide) h (fun _ h => ?_) (fun _ h => ?_)
    · refine x_goto (pc := 1005) 1141 d_W_law_1005 (by decide) ?_
      refine x_iinc (pc := 1141) (n := 4) (L' := [(0, .ref v0), (1, .ref v1), (2, .ref v2), (3, .ref v3), (4, .int (v4 + 5)), (5, .int v5), (6, .int t5)]) d_W_law_1141 (by decide) rfl rfl ?_
      refine x_goto (pc := 1144) 23 d_W_law_1144 (by decide) ?_
      refine x_weak [0, 1, 2, 3, 4] rfl ?_
      exact hr23 _ _ _ _ _ _ h
    · refine x_aload_n (pc := 993) d_W_law_993 rfl 3 rfl ?_
      refine x_iconst (pc := 994) d_W_law_994 rfl ?_
      refine h_laload (pc := 995) d_W_law_995 h fun t9 h => ?_
      refine x_iload (pc := 996) d_W_law_996 6 rfl ?_
      refine x_i2l (pc := 998) d_W_law_998 ?_
      refine x_lcmp (pc := 999) d_W_law_999 ?_
      refine h_if_eq (pc := 1000) 1005 d_W_law_1000 (by decide) h (fun _ h => ?_) (fun _ h => ?_)
      · refine x_goto (pc := 1005) 1141 d_W_law_1005 (by decide) ?_
        refine x_iinc (pc := 1141) (n := 4) (L' := [(0, .ref v0), (1, .ref v1), (2, .ref v2), (3, .ref v3), (4, .int (v4 + 5)), (5, .int v5), (6, .int t5)]) d_W_law_1141 (by decide) rfl rfl ?_
        refine x_goto (pc := 1144) 23 d_W_law_1144 (by decide) ?_
        refine x_weak [0, 1, 2, 3, 4] rfl ?_
        exact hr23 _ _ _ _ _ _ h
      · refine x_iconst (pc := 1003) d_W_law_1003 rfl ?_
        exact h_zreturn (pc := 1004) d_W_law_1004 rfl h
  · refine x_iconst (pc := 986) d_W_law_986 rfl ?_
    exact h_zreturn (pc := 987) d_W_law_987 rfl h
theorem p_W_law_927 (G : xG K) {r23 : Nat → Nat → Nat → Nat → Int32 → XM → XP} (hr23 : ∀ w0 w1 w2 w3 w4 Q, r23 w0 w1 w2 w3 w4 Q = some (o, N) → cA K y_W_law 23 [(0, .ref w0), (1, .ref w1), (2, .ref w2), (3, .ref w3), (4, .int w4)] [] Q o N) (v0 : Nat) (v1 : Nat) (v2 : Nat) (v3 : Nat) (v4 : Int32) (s0 : Nat) (s1 : Int32) (M : XM) (h : g_W_law_927 r23 v0 v1 v2 v3 v4 s0 s1 M = some (o, N)) : cA K y_W_law 927 [(0, .ref v0), (1, .ref v1), (2, .ref v2), (3, .ref v3), (4, .int v4)] [.int s1, .ref s0] M o N := by
  unfold g_W_law_927 at h
  refine x_aload_n (pc := 927) d_W_law_927 rfl 0 rfl ?_
  refine x_iload (pc := 928) d_W_law_928 4 rfl ?_
  refine x_iconst (pc := 930) d_W_law_930 rfl ?_
  refine x_iadd (pc := 931) d_W_law_931 ?_
  refine h_iaload (pc := 932) d_W_law_932 h fun t1 h => ?_
  refine x_aload_n (pc := 933) d_W_law_933 rfl 0 rfl ?_
  refine x_iload (pc := 934) d_W_law_934 4 rfl ?_
  refine x_iconst (pc := 936) d_W_law_936 rfl ?_
  refine x_iadd (pc := 937) d_W_law_937 ?_
  refine h_iaload (pc := 938) d_W_law_938 h fun t2 h => ?_
  refine x_aload_n (pc := 939) d_W_law_939 rfl 3 rfl ?_
  refine h_callI G (x_siteS G (pc := 940) (y2 := y_W_codeAt) (As := [.ref s0, .int s1, .int t1, .int t2, .ref v3]) (S := []) d_W_law_940 lm_W_116 mi_W_codeAt mw_W_codeAt.2 mw_W_codeAt.1 mx_W_codeAt.1 mx_W_codeAt.2 rfl) mw_W_codeAt ⟨Nat.le_of_ble_eq_true rfl, Nat.le_of_ble_eq_true rfl⟩ rfl (fun _ _ e => p_W_codeAt G _ _ _ _ _ _ e) h fun t4 M3 h => ?_
  refine x_istore (pc := 943) (L' := [(0, .ref v0), (1, .ref v1), (2, .ref v2), (3, .ref v3), (4, .int v4), (5, .int t4)]) d_W_law_943 (by decide) rfl ?_
  refine x_aload_n (pc := 945) d_W_law_945 rfl 2 rfl ?_
  refine x_aload_n (pc := 946) d_W_law_946 rfl 0 rfl ?_
  refine x_iload (pc := 947) d_W_law_947 4 rfl ?_
  refine x_iconst (pc := 949) d_W_law_949 rfl ?_
  refine x_iadd (pc := 950) d_W_law_950 ?_
  refine h_iaload (pc := 951) d_W_law_951 h fun t5 h => ?_
  refine h_if_eq (pc := 952) 959 d_W_law_952 (by decide) h (fun _ h => ?_) (fun _ h => ?_)
  · refine x_iconst (pc := 959) d_W_law_959 rfl ?_
    refine x_weak [0, 1, 2, 3, 4, 5] rfl ?_
    exact p_W_law_960 G hr23 _ _ _ _ _ _ _ _ _ h
  · refine x_iconst (pc := 955) d_W_law_955 rfl ?_
    refine x_goto (pc := 956) 960 d_W_law_956 (by decide) ?_
    refine x_weak [0, 1, 2, 3, 4, 5] rfl ?_
    exact p_W_law_960 G hr23 _ _ _ _ _ _ _ _ _ h
theorem p_W_law_864 (G : xG K) {r23 : Nat → Nat → Nat → Nat → Int32 → XM → XP} (hr23 : ∀ w0 w1 w2 w3 w4 Q, r23 w0 w1 w2 w3 w4 Q = some (o, N) → cA K y_W_law 23 [(0, .ref w0), (1, .ref w1), (2, .ref w2), (3, .ref w3), (4, .int w4)] [] Q o N) (v0 : Nat) (v1 : Nat) (v2 : Nat) (v3 : Nat) (v4 : Int32) (v5 : Int32) (s0 : Nat) (s1 : Int32) (M : XM) (h : g_W_law_864 r23 v0 v1 v2 v3 v4 v5 s0 s1 M = some (o, N)) : cA K y_W_law 864 [(0, .ref v0), (1, .ref v1), (2, .ref v2), (3, .ref v3), (4, .int v4), (5, .int v5)] [.int s1, .ref s0] M o N := by
  unfold g_W_law_864 at h
  refine x_aload_n (pc := 864) d_W_law_864 rfl 0 rfl ?_
  refine x_iload (pc := 865) d_W_law_865 4 rfl ?_
  refine x_iconst (pc := 867) d_W_law_867 rfl ?_
  refine x_iadd (pc := 868) d_W_law_868 ?_
  refine h_iaload (pc := 869) d_W_law_869 h fun t1 h => ?_
  refine x_aload_n (pc := 870) d_W_law_870 rfl 0 rfl ?_
  refine x_iload (pc := 871) d_W_law_871 4 rfl ?_
  refine x_iconst (pc := 873) d_W_law_873 rfl ?_
  refine x_iadd (pc := 874) d_W_law_874 ?_
  refine h_iaload (pc := 875) d_W_law_875 h fun t2 h => ?_
  obtain ⟨⟨ra3, ra3t⟩, h⟩ := h_ok h
  refine h_callI G (x_siteV G (pc := 876) (y2 := y_R_memberAt) (As := [.int s1, .int t1, .int t2]) (S := []) (ci := 7) d_W_law_876 rfl lm_W_115 mi_R_memberAt ms_R_memberAt mw_R_memberAt.1 mx_R_memberAt.1 mx_R_memberAt.2 rfl ra3 ra3t) mw_R_memberAt ⟨Nat.le_of_ble_eq_true rfl, Nat.le_of_ble_eq_true rfl⟩ rfl (fun _ _ e => p_R_memberAt G _ _ _ _ _ e) h fun t5 M4 h => ?_
  refine x_istore (pc := 879) (L' := [(0, .ref v0), (1, .ref v1), (2, .ref v2), (3, .ref v3), (4, .int v4), (5, .int v5), (6, .int t5)]) d_W_law_879 (by decide) rfl ?_
  refine x_aload_n (pc := 881) d_W_law_881 rfl 2 rfl ?_
  obtain ⟨⟨ra6, ra6t⟩, h⟩ := h_ok h
  refine h_callI G (x_siteV G (pc := 882) (y2 := y_R_thrown) (As := []) (S := []) (ci := 7) d_W_law_882 rfl lm_W_72 mi_R_thrown ms_R_thrown mw_R_thrown.1 mx_R_thrown.1 mx_R_thrown.2 rfl ra6 ra6t) mw_R_thrown ⟨Nat.le_of_ble_eq_true rfl, Nat.le_of_ble_eq_true rfl⟩ rfl (fun _ _ e => p_R_thrown G _ _ e) h fun t8 M7 h => ?_
  refine x_iload (pc := 885) d_W_law_885 5 rfl ?_
  refine h_icmp_eq (pc := 887) 892 d_W_law_887 (by decide) h (fun _ h => ?_) (fun _ h => ?_)
  · refine x_iload (pc := 892) d_W_law_892 5 rfl ?_
    refine h_if_ne (pc := 894) 909 d_W_law_894 (by decide) h (fun _ h => ?_) (fun _ h => ?_)
    · refine x_goto (pc := 909) 1141 d_W_law_909 (by decide) ?_
      refine x_iinc (pc := 1141) (n := 4) (L' := [(0, .ref v0), (1, .ref v1), (2, .ref v2), (3, .ref v3), (4, .int (v4 + 5)), (5, .int v5), (6, .int t5)]) d_W_law_1141 (by decide) rfl rfl ?_
      refine x_goto (pc := 1144) 23 d_W_law_1144 (by decide) ?_
      refine x_weak [0, 1, 2, 3, 4] rfl ?_
      exact hr23 _ _ _ _ _ _ h
    · refine x_aload_n (pc := 897) d_W_law_897 rfl 3 rfl ?_
      refine x_iconst (pc := 898) d_W_law_898 rfl ?_
      refine h_laload (pc := 899) d_W_law_899 h fun t9 h => ?_
      refine x_iload (pc := 900) d_W_law_900 6 rfl ?_
      refine x_i2l (pc := 902) d_W_law_902 ?_
      refine x_lcmp (pc := 903) d_W_law_903 ?_
      refine h_if_eq (pc := 904) 909 d_W_law_904 (by decide) h (fun _ h => ?_) (fun _ h => ?_)
      · refine x_goto (pc := 909) 1141 d_W_law_909 (by decide) ?_
        refine x_iinc (pc := 1141) (n := 4) (L' := [(0, .ref v0), (1, .ref v1), (2, .ref v2), (3, .ref v3), (4, .int (v4 + 5)), (5, .int v5), (6, .int t5)]) d_W_law_1141 (by decide) rfl rfl ?_
        refine x_goto (pc := 1144) 23 d_W_law_1144 (by decide) ?_
        refine x_weak [0, 1, 2, 3, 4] rfl ?_
        exact hr23 _ _ _ _ _ _ h
      · refine x_iconst (pc := 907) d_W_law_907 rfl ?_
        exact h_zreturn (pc := 908) d_W_law_908 rfl h
  · refine x_iconst (pc := 890) d_W_law_890 rfl ?_
    exact h_zreturn (pc := 891) d_W_law_891 rfl h
theorem p_W_law_831 (G : xG K) {r23 : Nat → Nat → Nat → Nat → Int32 → XM → XP} (hr23 : ∀ w0 w1 w2 w3 w4 Q, r23 w0 w1 w2 w3 w4 Q = some (o, N) → cA K y_W_law 23 [(0, .ref w0), (1, .ref w1), (2, .ref w2), (3, .ref w3), (4, .int w4)] [] Q o N) (v0 : Nat) (v1 : Nat) (v2 : Nat) (v3 : Nat) (v4 : Int32) (s0 : Nat) (s1 : Int32) (M : XM) (h : g_W_law_831 r23 v0 v1 v2 v3 v4 s0 s1 M = some (o, N)) : cA K y_W_law 831 [(0, .ref v0), (1, .ref v1), (2, .ref v2), (3, .ref v3), (4, .int v4)] [.int s1, .ref s0] M o N := by
  unfold g_W_law_831 at h
  refine x_aload_n (pc := 831) d_W_law_831 rfl 0 rfl ?_
  refine x_iload (pc := 832) d_W_law_832 4 rfl ?_
  refine x_iconst (pc := 834) d_W_law_834 rfl ?_
  refine x_iadd (pc := 835) d_W_law_835 ?_
  refine h_iaload (pc := 836) d_W_law_836 h fun t1 h => ?_
  refine x_aload_n (pc := 837) d_W_law_837 rfl 0 rfl ?_
  refine x_iload (pc := 838) d_W_law_838 4 rfl ?_
  refine x_iconst (pc := 840) d_W_law_840 rfl ?_
  refine x_iadd (pc := 841) d_W_law_841 ?_
  refine h_iaload (pc := 842) d_W_law_842 h fun t2 h => ?_
  refine x_aload_n (pc := 843) d_W_law_843 rfl 3 rfl ?_
  refine h_callI G (x_siteS G (pc := 844) (y2 := y_W_memberAt) (As := [.ref s0, .int s1, .int t1, .int t2, .ref v3]) (S := []) d_W_law_844 lm_W_112 mi_W_memberAt mw_W_memberAt.2 mw_W_memberAt.1 mx_W_memberAt.1 mx_W_memberAt.2 rfl) mw_W_memberAt ⟨Nat.le_of_ble_eq_true rfl, Nat.le_of_ble_eq_true rfl⟩ rfl (fun _ _ e => p_W_memberAt G _ _ _ _ _ _ e) h fun t4 M3 h => ?_
  refine x_istore (pc := 847) (L' := [(0, .ref v0), (1, .ref v1), (2, .ref v2), (3, .ref v3), (4, .int v4), (5, .int t4)]) d_W_law_847 (by decide) rfl ?_
  refine x_aload_n (pc := 849) d_W_law_849 rfl 2 rfl ?_
  refine x_aload_n (pc := 850) d_W_law_850 rfl 0 rfl ?_
  refine x_iload (pc := 851) d_W_law_851 4 rfl ?_
  refine x_iconst (pc := 853) d_W_law_853 rfl ?_
  refine x_iadd (pc := 854) d_W_law_854 ?_
  refine h_iaload (pc := 855) d_W_law_855 h fun t5 h => ?_
  refine h_if_eq (pc := 856) 863 d_W_law_856 (by decide) h (fun _ h => ?_) (fun _ h => ?_)
  · refine x_iconst (pc := 863) d_W_law_863 rfl ?_
    refine x_weak [0, 1, 2, 3, 4, 5] rfl ?_
    exact p_W_law_864 G hr23 _ _ _ _ _ _ _ _ _ h
  · refine x_iconst (pc := 859) d_W_law_859 rfl ?_
    refine x_goto (pc := 860) 864 d_W_law_860 (by decide) ?_
    refine x_weak [0, 1, 2, 3, 4, 5] rfl ?_
    exact p_W_law_864 G hr23 _ _ _ _ _ _ _ _ _ h
theorem p_W_law_762 (G : xG K) {r23 : Nat → Nat → Nat → Nat → Int32 → XM → XP} (hr23 : ∀ w0 w1 w2 w3 w4 Q, r23 w0 w1 w2 w3 w4 Q = some (o, N) → cA K y_W_law 23 [(0, .ref w0), (1, .ref w1), (2, .ref w2), (3, .ref w3), (4, .int w4)] [] Q o N) (v0 : Nat) (v1 : Nat) (v2 : Nat) (v3 : Nat) (v4 : Int32) (v5 : Int32) (s0 : Nat) (s1 : Int32) (M : XM) (h : g_W_law_762 r23 v0 v1 v2 v3 v4 v5 s0 s1 M = some (o, N)) : cA K y_W_law 762 [(0, .ref v0), (1, .ref v1), (2, .ref v2), (3, .ref v3), (4, .int v4), (5, .int v5)] [.int s1, .ref s0] M o N := by
  unfold g_W_law_762 at h
  refine x_aload_n (pc := 762) d_W_law_762 rfl 0 rfl ?_
  refine x_iload (pc := 763) d_W_law_763 4 rfl ?_
  refine x_iconst (pc := 765) d_W_law_765 rfl ?_
  refine x_iadd (pc := 766) d_W_law_766 ?_
  refine h_iaload (pc := 767) d_W_law_767 h fun t1 h => ?_
  refine x_aload_n (pc := 768) d_W_law_768 rfl 0 rfl ?_
  refine x_iload (pc := 769) d_W_law_769 4 rfl ?_
  refine x_iconst (pc := 771) d_W_law_771 rfl ?_
  refine x_iadd (pc := 772) d_W_law_772 ?_
  refine h_iaload (pc := 773) d_W_law_773 h fun t2 h => ?_
  refine x_aload_n (pc := 774) d_W_law_774 rfl 0 rfl ?_
  refine x_iload (pc := 775) d_W_law_775 4 rfl ?_
  refine x_iconst (pc := 777) d_W_law_777 rfl ?_
  refine x_iadd (pc := 778) d_W_law_778 ?_
  refine h_iaload (pc := 779) d_W_law_779 h fun t3 h => ?_
  obtain ⟨⟨ra4, ra4t⟩, h⟩ := h_ok h
  refine h_callI G (x_siteV G (pc := 780) (y2 := y_R_constantAt) (As := [.int s1, .int t1, .int t2, .int t3]) (S := []) (ci := 7) d_W_law_780 rfl lm_W_111 mi_R_constantAt ms_R_constantAt mw_R_constantAt.1 mx_R_constantAt.1 mx_R_constantAt.2 rfl ra4 ra4t) mw_R_constantAt ⟨Nat.le_of_ble_eq_true rfl, Nat.le_of_ble_eq_true rfl⟩ rfl (fun _ _ e => p_R_constantAt G _ _ _ _ _ _ e) h fun t6 M5 h => ?_
  refine x_istore (pc := 783) (L' := [(0, .ref v0), (1, .ref v1), (2, .ref v2), (3, .ref v3), (4, .int v4), (5, .int v5), (6, .int t6)]) d_W_law_783 (by decide) rfl ?_
  refine x_aload_n (pc := 785) d_W_law_785 rfl 2 rfl ?_
  obtain ⟨⟨ra7, ra7t⟩, h⟩ := h_ok h
  refine h_callI G (x_siteV G (pc := 786) (y2 := y_R_thrown) (As := []) (S := []) (ci := 7) d_W_law_786 rfl lm_W_72 mi_R_thrown ms_R_thrown mw_R_thrown.1 mx_R_thrown.1 mx_R_thrown.2 rfl ra7 ra7t) mw_R_thrown ⟨Nat.le_of_ble_eq_true rfl, Nat.le_of_ble_eq_true rfl⟩ rfl (fun _ _ e => p_R_thrown G _ _ e) h fun t9 M8 h => ?_
  refine x_iload (pc := 789) d_W_law_789 5 rfl ?_
  refine h_icmp_eq (pc := 791) 796 d_W_law_791 (by decide) h (fun _ h => ?_) (fun _ h => ?_)
  · refine x_iload (pc := 796) d_W_law_796 5 rfl ?_
    refine h_if_ne (pc := 798) 813 d_W_law_798 (by decide) h (fun _ h => ?_) (fun _ h => ?_)
    · refine x_goto (pc := 813) 1141 d_W_law_813 (by decide) ?_
      refine x_iinc (pc := 1141) (n := 4) (L' := [(0, .ref v0), (1, .ref v1), (2, .ref v2), (3, .ref v3), (4, .int (v4 + 5)), (5, .int v5), (6, .int t6)]) d_W_law_1141 (by decide) rfl rfl ?_
      refine x_goto (pc := 1144) 23 d_W_law_1144 (by decide) ?_
      refine x_weak [0, 1, 2, 3, 4] rfl ?_
      exact hr23 _ _ _ _ _ _ h
    · refine x_aload_n (pc := 801) d_W_law_801 rfl 3 rfl ?_
      refine x_iconst (pc := 802) d_W_law_802 rfl ?_
      refine h_laload (pc := 803) d_W_law_803 h fun t10 h => ?_
      refine x_iload (pc := 804) d_W_law_804 6 rfl ?_
      refine x_i2l (pc := 806) d_W_law_806 ?_
      refine x_lcmp (pc := 807) d_W_law_807 ?_
      refine h_if_eq (pc := 808) 813 d_W_law_808 (by decide) h (fun _ h => ?_) (fun _ h => ?_)
      · refine x_goto (pc := 813) 1141 d_W_law_813 (by decide) ?_
        refine x_iinc (pc := 1141) (n := 4) (L' := [(0, .ref v0), (1, .ref v1), (2, .ref v2), (3, .ref v3), (4, .int (v4 + 5)), (5, .int v5), (6, .int t6)]) d_W_law_1141 (by decide) rfl rfl ?_
        refine x_goto (pc := 1144) 23 d_W_law_1144 (by decide) ?_
        refine x_weak [0, 1, 2, 3, 4] rfl ?_
        exact hr23 _ _ _ _ _ _ h
      · refine x_iconst (pc := 811) d_W_law_811 rfl ?_
        exact h_zreturn (pc := 812) d_W_law_812 rfl h
  · refine x_iconst (pc := 794) d_W_law_794 rfl ?_
    exact h_zreturn (pc := 795) d_W_law_795 rfl h
theorem p_W_law_723 (G : xG K) {r23 : Nat → Nat → Nat → Nat → Int32 → XM → XP} (hr23 : ∀ w0 w1 w2 w3 w4 Q, r23 w0 w1 w2 w3 w4 Q = some (o, N) → cA K y_W_law 23 [(0, .ref w0), (1, .ref w1), (2, .ref w2), (3, .ref w3), (4, .int w4)] [] Q o N) (v0 : Nat) (v1 : Nat) (v2 : Nat) (v3 : Nat) (v4 : Int32) (s0 : Nat) (s1 : Int32) (M : XM) (h : g_W_law_723 r23 v0 v1 v2 v3 v4 s0 s1 M = some (o, N)) : cA K y_W_law 723 [(0, .ref v0), (1, .ref v1), (2, .ref v2), (3, .ref v3), (4, .int v4)] [.int s1, .ref s0] M o N := by
  unfold g_W_law_723 at h
  refine x_aload_n (pc := 723) d_W_law_723 rfl 0 rfl ?_
  refine x_iload (pc := 724) d_W_law_724 4 rfl ?_
  refine x_iconst (pc := 726) d_W_law_726 rfl ?_
  refine x_iadd (pc := 727) d_W_law_727 ?_
  refine h_iaload (pc := 728) d_W_law_728 h fun t1 h => ?_
  refine x_aload_n (pc := 729) d_W_law_729 rfl 0 rfl ?_
  refine x_iload (pc := 730) d_W_law_730 4 rfl ?_
  refine x_iconst (pc := 732) d_W_law_732 rfl ?_
  refine x_iadd (pc := 733) d_W_law_733 ?_
  refine h_iaload (pc := 734) d_W_law_734 h fun t2 h => ?_
  refine x_aload_n (pc := 735) d_W_law_735 rfl 0 rfl ?_
  refine x_iload (pc := 736) d_W_law_736 4 rfl ?_
  refine x_iconst (pc := 738) d_W_law_738 rfl ?_
  refine x_iadd (pc := 739) d_W_law_739 ?_
  refine h_iaload (pc := 740) d_W_law_740 h fun t3 h => ?_
  refine x_aload_n (pc := 741) d_W_law_741 rfl 3 rfl ?_
  refine h_callI G (x_siteS G (pc := 742) (y2 := y_W_constantAt) (As := [.ref s0, .int s1, .int t1, .int t2, .int t3, .ref v3]) (S := []) d_W_law_742 lm_W_108 mi_W_constantAt mw_W_constantAt.2 mw_W_constantAt.1 mx_W_constantAt.1 mx_W_constantAt.2 rfl) mw_W_constantAt ⟨Nat.le_of_ble_eq_true rfl, Nat.le_of_ble_eq_true rfl⟩ rfl (fun _ _ e => p_W_constantAt G _ _ _ _ _ _ _ e) h fun t5 M4 h => ?_
  refine x_istore (pc := 745) (L' := [(0, .ref v0), (1, .ref v1), (2, .ref v2), (3, .ref v3), (4, .int v4), (5, .int t5)]) d_W_law_745 (by decide) rfl ?_
  refine x_aload_n (pc := 747) d_W_law_747 rfl 2 rfl ?_
  refine x_aload_n (pc := 748) d_W_law_748 rfl 0 rfl ?_
  refine x_iload (pc := 749) d_W_law_749 4 rfl ?_
  refine x_iconst (pc := 751) d_W_law_751 rfl ?_
  refine x_iadd (pc := 752) d_W_law_752 ?_
  refine h_iaload (pc := 753) d_W_law_753 h fun t6 h => ?_
  refine h_if_eq (pc := 754) 761 d_W_law_754 (by decide) h (fun _ h => ?_) (fun _ h => ?_)
  · refine x_iconst (pc := 761) d_W_law_761 rfl ?_
    refine x_weak [0, 1, 2, 3, 4, 5] rfl ?_
    exact p_W_law_762 G hr23 _ _ _ _ _ _ _ _ _ h
  · refine x_iconst (pc := 757) d_W_law_757 rfl ?_
    refine x_goto (pc := 758) 762 d_W_law_758 (by decide) ?_
    refine x_weak [0, 1, 2, 3, 4, 5] rfl ?_
    exact p_W_law_762 G hr23 _ _ _ _ _ _ _ _ _ h
theorem p_W_law_666 (G : xG K) {r23 : Nat → Nat → Nat → Nat → Int32 → XM → XP} (hr23 : ∀ w0 w1 w2 w3 w4 Q, r23 w0 w1 w2 w3 w4 Q = some (o, N) → cA K y_W_law 23 [(0, .ref w0), (1, .ref w1), (2, .ref w2), (3, .ref w3), (4, .int w4)] [] Q o N) (v0 : Nat) (v1 : Nat) (v2 : Nat) (v3 : Nat) (v4 : Int32) (v5 : Int32) (s0 : Nat) (s1 : Int32) (M : XM) (h : g_W_law_666 r23 v0 v1 v2 v3 v4 v5 s0 s1 M = some (o, N)) : cA K y_W_law 666 [(0, .ref v0), (1, .ref v1), (2, .ref v2), (3, .ref v3), (4, .int v4), (5, .int v5)] [.int s1, .ref s0] M o N := by
  unfold g_W_law_666 at h
  refine x_aload_n (pc := 666) d_W_law_666 rfl 0 rfl ?_
  refine x_iload (pc := 667) d_W_law_667 4 rfl ?_
  refine x_iconst (pc := 669) d_W_law_669 rfl ?_
  refine x_iadd (pc := 670) d_W_law_670 ?_
  refine h_iaload (pc := 671) d_W_law_671 h fun t1 h => ?_
  obtain ⟨⟨ra2, ra2t⟩, h⟩ := h_ok h
  refine h_callI G (x_siteV G (pc := 672) (y2 := y_R_pool) (As := [.int s1, .int t1]) (S := []) (ci := 7) d_W_law_672 rfl lm_W_107 mi_R_pool ms_R_pool mw_R_pool.1 mx_R_pool.1 mx_R_pool.2 rfl ra2 ra2t) mw_R_pool ⟨Nat.le_of_ble_eq_true rfl, Nat.le_of_ble_eq_true rfl⟩ rfl (fun _ _ e => p_R_pool G _ _ _ _ e) h fun t4 M3 h => ?_
  refine x_istore (pc := 675) (L' := [(0, .ref v0), (1, .ref v1), (2, .ref v2), (3, .ref v3), (4, .int v4), (5, .int v5), (6, .int t4)]) d_W_law_675 (by decide) rfl ?_
  refine x_aload_n (pc := 677) d_W_law_677 rfl 2 rfl ?_
  obtain ⟨⟨ra5, ra5t⟩, h⟩ := h_ok h
  refine h_callI G (x_siteV G (pc := 678) (y2 := y_R_thrown) (As := []) (S := []) (ci := 7) d_W_law_678 rfl lm_W_72 mi_R_thrown ms_R_thrown mw_R_thrown.1 mx_R_thrown.1 mx_R_thrown.2 rfl ra5 ra5t) mw_R_thrown ⟨Nat.le_of_ble_eq_true rfl, Nat.le_of_ble_eq_true rfl⟩ rfl (fun _ _ e => p_R_thrown G _ _ e) h fun t7 M6 h => ?_
  refine x_iload (pc := 681) d_W_law_681 5 rfl ?_
  refine h_icmp_eq (pc := 683) 688 d_W_law_683 (by decide) h (fun _ h => ?_) (fun _ h => ?_)
  · refine x_iload (pc := 688) d_W_law_688 5 rfl ?_
    refine h_if_ne (pc := 690) 705 d_W_law_690 (by decide) h (fun _ h => ?_) (fun _ h => ?_)
    · refine x_goto (pc := 705) 1141 d_W_law_705 (by decide) ?_
      refine x_iinc (pc := 1141) (n := 4) (L' := [(0, .ref v0), (1, .ref v1), (2, .ref v2), (3, .ref v3), (4, .int (v4 + 5)), (5, .int v5), (6, .int t4)]) d_W_law_1141 (by decide) rfl rfl ?_
      refine x_goto (pc := 1144) 23 d_W_law_1144 (by decide) ?_
      refine x_weak [0, 1, 2, 3, 4] rfl ?_
      exact hr23 _ _ _ _ _ _ h
    · refine x_aload_n (pc := 693) d_W_law_693 rfl 3 rfl ?_
      refine x_iconst (pc := 694) d_W_law_694 rfl ?_
      refine h_laload (pc := 695) d_W_law_695 h fun t8 h => ?_
      refine x_iload (pc := 696) d_W_law_696 6 rfl ?_
      refine x_i2l (pc := 698) d_W_law_698 ?_
      refine x_lcmp (pc := 699) d_W_law_699 ?_
      refine h_if_eq (pc := 700) 705 d_W_law_700 (by decide) h (fun _ h => ?_) (fun _ h => ?_)
      · refine x_goto (pc := 705) 1141 d_W_law_705 (by decide) ?_
        refine x_iinc (pc := 1141) (n := 4) (L' := [(0, .ref v0), (1, .ref v1), (2, .ref v2), (3, .ref v3), (4, .int (v4 + 5)), (5, .int v5), (6, .int t4)]) d_W_law_1141 (by decide) rfl rfl ?_
        refine x_goto (pc := 1144) 23 d_W_law_1144 (by decide) ?_
        refine x_weak [0, 1, 2, 3, 4] rfl ?_
        exact hr23 _ _ _ _ _ _ h
      · refine x_iconst (pc := 703) d_W_law_703 rfl ?_
        exact h_zreturn (pc := 704) d_W_law_704 rfl h
  · refine x_iconst (pc := 686) d_W_law_686 rfl ?_
    exact h_zreturn (pc := 687) d_W_law_687 rfl h
theorem p_W_law_639 (G : xG K) {r23 : Nat → Nat → Nat → Nat → Int32 → XM → XP} (hr23 : ∀ w0 w1 w2 w3 w4 Q, r23 w0 w1 w2 w3 w4 Q = some (o, N) → cA K y_W_law 23 [(0, .ref w0), (1, .ref w1), (2, .ref w2), (3, .ref w3), (4, .int w4)] [] Q o N) (v0 : Nat) (v1 : Nat) (v2 : Nat) (v3 : Nat) (v4 : Int32) (s0 : Nat) (s1 : Int32) (M : XM) (h : g_W_law_639 r23 v0 v1 v2 v3 v4 s0 s1 M = some (o, N)) : cA K y_W_law 639 [(0, .ref v0), (1, .ref v1), (2, .ref v2), (3, .ref v3), (4, .int v4)] [.int s1, .ref s0] M o N := by
  unfold g_W_law_639 at h
  refine x_aload_n (pc := 639) d_W_law_639 rfl 0 rfl ?_
  refine x_iload (pc := 640) d_W_law_640 4 rfl ?_
  refine x_iconst (pc := 642) d_W_law_642 rfl ?_
  refine x_iadd (pc := 643) d_W_law_643 ?_
  refine h_iaload (pc := 644) d_W_law_644 h fun t1 h => ?_
  refine x_aload_n (pc := 645) d_W_law_645 rfl 3 rfl ?_
  refine h_callI G (x_siteS G (pc := 646) (y2 := y_W_pool) (As := [.ref s0, .int s1, .int t1, .ref v3]) (S := []) d_W_law_646 lm_W_105 mi_W_pool mw_W_pool.2 mw_W_pool.1 mx_W_pool.1 mx_W_pool.2 rfl) mw_W_pool ⟨Nat.le_of_ble_eq_true rfl, Nat.le_of_ble_eq_true rfl⟩ rfl (fun _ _ e => p_W_pool G _ _ _ _ _ e) h fun t3 M2 h => ?_
  refine x_istore (pc := 649) (L' := [(0, .ref v0), (1, .ref v1), (2, .ref v2), (3, .ref v3), (4, .int v4), (5, .int t3)]) d_W_law_649 (by decide) rfl ?_
  refine x_aload_n (pc := 651) d_W_law_651 rfl 2 rfl ?_
  refine x_aload_n (pc := 652) d_W_law_652 rfl 0 rfl ?_
  refine x_iload (pc := 653) d_W_law_653 4 rfl ?_
  refine x_iconst (pc := 655) d_W_law_655 rfl ?_
  refine x_iadd (pc := 656) d_W_law_656 ?_
  refine h_iaload (pc := 657) d_W_law_657 h fun t4 h => ?_
  refine h_if_eq (pc := 658) 665 d_W_law_658 (by decide) h (fun _ h => ?_) (fun _ h => ?_)
  · refine x_iconst (pc := 665) d_W_law_665 rfl ?_
    refine x_weak [0, 1, 2, 3, 4, 5] rfl ?_
    exact p_W_law_666 G hr23 _ _ _ _ _ _ _ _ _ h
  · refine x_iconst (pc := 661) d_W_law_661 rfl ?_
    refine x_goto (pc := 662) 666 d_W_law_662 (by decide) ?_
    refine x_weak [0, 1, 2, 3, 4, 5] rfl ?_
    exact p_W_law_666 G hr23 _ _ _ _ _ _ _ _ _ h
theorem p_W_law_582 (G : xG K) {r23 : Nat → Nat → Nat → Nat → Int32 → XM → XP} (hr23 : ∀ w0 w1 w2 w3 w4 Q, r23 w0 w1 w2 w3 w4 Q = some (o, N) → cA K y_W_law 23 [(0, .ref w0), (1, .ref w1), (2, .ref w2), (3, .ref w3), (4, .int w4)] [] Q o N) (v0 : Nat) (v1 : Nat) (v2 : Nat) (v3 : Nat) (v4 : Int32) (v5 : Int32) (s0 : Nat) (s1 : Int32) (M : XM) (h : g_W_law_582 r23 v0 v1 v2 v3 v4 v5 s0 s1 M = some (o, N)) : cA K y_W_law 582 [(0, .ref v0), (1, .ref v1), (2, .ref v2), (3, .ref v3), (4, .int v4), (5, .int v5)] [.int s1, .ref s0] M o N := by
  unfold g_W_law_582 at h
  refine x_aload_n (pc := 582) d_W_law_582 rfl 0 rfl ?_
  refine x_iload (pc := 583) d_W_law_583 4 rfl ?_
  refine x_iconst (pc := 585) d_W_law_585 rfl ?_
  refine x_iadd (pc := 586) d_W_law_586 ?_
  refine h_iaload (pc := 587) d_W_law_587 h fun t1 h => ?_
  obtain ⟨⟨ra2, ra2t⟩, h⟩ := h_ok h
  refine h_callI G (x_siteV G (pc := 588) (y2 := y_R_count) (As := [.int s1, .int t1]) (S := []) (ci := 7) d_W_law_588 rfl lm_W_104 mi_R_count ms_R_count mw_R_count.1 mx_R_count.1 mx_R_count.2 rfl ra2 ra2t) mw_R_count ⟨Nat.le_of_ble_eq_true rfl, Nat.le_of_ble_eq_true rfl⟩ rfl (fun _ _ e => p_R_count G _ _ _ _ e) h fun t4 M3 h => ?_
  refine x_istore (pc := 591) (L' := [(0, .ref v0), (1, .ref v1), (2, .ref v2), (3, .ref v3), (4, .int v4), (5, .int v5), (6, .int t4)]) d_W_law_591 (by decide) rfl ?_
  refine x_aload_n (pc := 593) d_W_law_593 rfl 2 rfl ?_
  obtain ⟨⟨ra5, ra5t⟩, h⟩ := h_ok h
  refine h_callI G (x_siteV G (pc := 594) (y2 := y_R_thrown) (As := []) (S := []) (ci := 7) d_W_law_594 rfl lm_W_72 mi_R_thrown ms_R_thrown mw_R_thrown.1 mx_R_thrown.1 mx_R_thrown.2 rfl ra5 ra5t) mw_R_thrown ⟨Nat.le_of_ble_eq_true rfl, Nat.le_of_ble_eq_true rfl⟩ rfl (fun _ _ e => p_R_thrown G _ _ e) h fun t7 M6 h => ?_
  refine x_iload (pc := 597) d_W_law_597 5 rfl ?_
  refine h_icmp_eq (pc := 599) 604 d_W_law_599 (by decide) h (fun _ h => ?_) (fun _ h => ?_)
  · refine x_iload (pc := 604) d_W_law_604 5 rfl ?_
    refine h_if_ne (pc := 606) 621 d_W_law_606 (by decide) h (fun _ h => ?_) (fun _ h => ?_)
    · refine x_goto (pc := 621) 1141 d_W_law_621 (by decide) ?_
      refine x_iinc (pc := 1141) (n := 4) (L' := [(0, .ref v0), (1, .ref v1), (2, .ref v2), (3, .ref v3), (4, .int (v4 + 5)), (5, .int v5), (6, .int t4)]) d_W_law_1141 (by decide) rfl rfl ?_
      refine x_goto (pc := 1144) 23 d_W_law_1144 (by decide) ?_
      refine x_weak [0, 1, 2, 3, 4] rfl ?_
      exact hr23 _ _ _ _ _ _ h
    · refine x_aload_n (pc := 609) d_W_law_609 rfl 3 rfl ?_
      refine x_iconst (pc := 610) d_W_law_610 rfl ?_
      refine h_laload (pc := 611) d_W_law_611 h fun t8 h => ?_
      refine x_iload (pc := 612) d_W_law_612 6 rfl ?_
      refine x_i2l (pc := 614) d_W_law_614 ?_
      refine x_lcmp (pc := 615) d_W_law_615 ?_
      refine h_if_eq (pc := 616) 621 d_W_law_616 (by decide) h (fun _ h => ?_) (fun _ h => ?_)
      · refine x_goto (pc := 621) 1141 d_W_law_621 (by decide) ?_
        refine x_iinc (pc := 1141) (n := 4) (L' := [(0, .ref v0), (1, .ref v1), (2, .ref v2), (3, .ref v3), (4, .int (v4 + 5)), (5, .int v5), (6, .int t4)]) d_W_law_1141 (by decide) rfl rfl ?_
        refine x_goto (pc := 1144) 23 d_W_law_1144 (by decide) ?_
        refine x_weak [0, 1, 2, 3, 4] rfl ?_
        exact hr23 _ _ _ _ _ _ h
      · refine x_iconst (pc := 619) d_W_law_619 rfl ?_
        exact h_zreturn (pc := 620) d_W_law_620 rfl h
  · refine x_iconst (pc := 602) d_W_law_602 rfl ?_
    exact h_zreturn (pc := 603) d_W_law_603 rfl h
theorem p_W_law_555 (G : xG K) {r23 : Nat → Nat → Nat → Nat → Int32 → XM → XP} (hr23 : ∀ w0 w1 w2 w3 w4 Q, r23 w0 w1 w2 w3 w4 Q = some (o, N) → cA K y_W_law 23 [(0, .ref w0), (1, .ref w1), (2, .ref w2), (3, .ref w3), (4, .int w4)] [] Q o N) (v0 : Nat) (v1 : Nat) (v2 : Nat) (v3 : Nat) (v4 : Int32) (s0 : Nat) (s1 : Int32) (M : XM) (h : g_W_law_555 r23 v0 v1 v2 v3 v4 s0 s1 M = some (o, N)) : cA K y_W_law 555 [(0, .ref v0), (1, .ref v1), (2, .ref v2), (3, .ref v3), (4, .int v4)] [.int s1, .ref s0] M o N := by
  unfold g_W_law_555 at h
  refine x_aload_n (pc := 555) d_W_law_555 rfl 0 rfl ?_
  refine x_iload (pc := 556) d_W_law_556 4 rfl ?_
  refine x_iconst (pc := 558) d_W_law_558 rfl ?_
  refine x_iadd (pc := 559) d_W_law_559 ?_
  refine h_iaload (pc := 560) d_W_law_560 h fun t1 h => ?_
  refine x_aload_n (pc := 561) d_W_law_561 rfl 3 rfl ?_
  refine h_callI G (x_siteS G (pc := 562) (y2 := y_W_count) (As := [.ref s0, .int s1, .int t1, .ref v3]) (S := []) d_W_law_562 lm_W_101 mi_W_count mw_W_count.2 mw_W_count.1 mx_W_count.1 mx_W_count.2 rfl) mw_W_count ⟨Nat.le_of_ble_eq_true rfl, Nat.le_of_ble_eq_true rfl⟩ rfl (fun _ _ e => p_W_count G _ _ _ _ _ e) h fun t3 M2 h => ?_
  refine x_istore (pc := 565) (L' := [(0, .ref v0), (1, .ref v1), (2, .ref v2), (3, .ref v3), (4, .int v4), (5, .int t3)]) d_W_law_565 (by decide) rfl ?_
  refine x_aload_n (pc := 567) d_W_law_567 rfl 2 rfl ?_
  refine x_aload_n (pc := 568) d_W_law_568 rfl 0 rfl ?_
  refine x_iload (pc := 569) d_W_law_569 4 rfl ?_
  refine x_iconst (pc := 571) d_W_law_571 rfl ?_
  refine x_iadd (pc := 572) d_W_law_572 ?_
  refine h_iaload (pc := 573) d_W_law_573 h fun t4 h => ?_
  refine h_if_eq (pc := 574) 581 d_W_law_574 (by decide) h (fun _ h => ?_) (fun _ h => ?_)
  · refine x_iconst (pc := 581) d_W_law_581 rfl ?_
    refine x_weak [0, 1, 2, 3, 4, 5] rfl ?_
    exact p_W_law_582 G hr23 _ _ _ _ _ _ _ _ _ h
  · refine x_iconst (pc := 577) d_W_law_577 rfl ?_
    refine x_goto (pc := 578) 582 d_W_law_578 (by decide) ?_
    refine x_weak [0, 1, 2, 3, 4, 5] rfl ?_
    exact p_W_law_582 G hr23 _ _ _ _ _ _ _ _ _ h
theorem p_W_law_455 (G : xG K) {r23 : Nat → Nat → Nat → Nat → Int32 → XM → XP} (hr23 : ∀ w0 w1 w2 w3 w4 Q, r23 w0 w1 w2 w3 w4 Q = some (o, N) → cA K y_W_law 23 [(0, .ref w0), (1, .ref w1), (2, .ref w2), (3, .ref w3), (4, .int w4)] [] Q o N) (v0 : Nat) (v1 : Nat) (v2 : Nat) (v3 : Nat) (v4 : Int32) (v5 : Int32) (s0 : Nat) (s1 : Int32) (s2 : Int32) (M : XM) (h : g_W_law_455 r23 v0 v1 v2 v3 v4 v5 s0 s1 s2 M = some (o, N)) : cA K y_W_law 455 [(0, .ref v0), (1, .ref v1), (2, .ref v2), (3, .ref v3), (4, .int v4), (5, .int v5)] [.int s2, .int s1, .ref s0] M o N := by
  unfold g_W_law_455 at h
  obtain ⟨⟨ra1, ra1t⟩, h⟩ := h_ok h
  refine h_callV G (x_siteV G (pc := 455) (y2 := y_R_entry) (As := [.int s1, .int s2]) (S := []) (ci := 7) d_W_law_455 rfl lm_W_89 mi_R_entry ms_R_entry mw_R_entry.1 mx_R_entry.1 mx_R_entry.2 rfl ra1 ra1t) mw_R_entry ⟨Nat.le_of_ble_eq_true rfl, Nat.le_of_ble_eq_true rfl⟩ rfl (fun _ _ e => p_R_entry G _ _ _ _ e) h fun M2 h => ?_
  refine x_aload_n (pc := 458) d_W_law_458 rfl 2 rfl ?_
  obtain ⟨⟨ra3, ra3t⟩, h⟩ := h_ok h
  refine h_callI G (x_siteV G (pc := 459) (y2 := y_R_thrown) (As := []) (S := []) (ci := 7) d_W_law_459 rfl lm_W_72 mi_R_thrown ms_R_thrown mw_R_thrown.1 mx_R_thrown.1 mx_R_thrown.2 rfl ra3 ra3t) mw_R_thrown ⟨Nat.le_of_ble_eq_true rfl, Nat.le_of_ble_eq_true rfl⟩ rfl (fun _ _ e => p_R_thrown G _ _ e) h fun t5 M4 h => ?_
  refine x_iload (pc := 462) d_W_law_462 5 rfl ?_
  refine h_icmp_eq (pc := 464) 469 d_W_law_464 (by decide) h (fun _ h => ?_) (fun _ h => ?_)
  · refine x_goto (pc := 469) 1141 d_W_law_469 (by decide) ?_
    refine x_iinc (pc := 1141) (n := 4) (L' := [(0, .ref v0), (1, .ref v1), (2, .ref v2), (3, .ref v3), (4, .int (v4 + 5)), (5, .int v5)]) d_W_law_1141 (by decide) rfl rfl ?_
    refine x_goto (pc := 1144) 23 d_W_law_1144 (by decide) ?_
    refine x_weak [0, 1, 2, 3, 4] rfl ?_
    exact hr23 _ _ _ _ _ _ h
  · refine x_iconst (pc := 467) d_W_law_467 rfl ?_
    exact h_zreturn (pc := 468) d_W_law_468 rfl h
theorem p_W_law_429 (G : xG K) {r23 : Nat → Nat → Nat → Nat → Int32 → XM → XP} (hr23 : ∀ w0 w1 w2 w3 w4 Q, r23 w0 w1 w2 w3 w4 Q = some (o, N) → cA K y_W_law 23 [(0, .ref w0), (1, .ref w1), (2, .ref w2), (3, .ref w3), (4, .int w4)] [] Q o N) (v0 : Nat) (v1 : Nat) (v2 : Nat) (v3 : Nat) (v4 : Int32) (s0 : Nat) (s1 : Int32) (s2 : Int32) (M : XM) (h : g_W_law_429 r23 v0 v1 v2 v3 v4 s0 s1 s2 M = some (o, N)) : cA K y_W_law 429 [(0, .ref v0), (1, .ref v1), (2, .ref v2), (3, .ref v3), (4, .int v4)] [.int s2, .int s1, .ref s0] M o N := by
  unfold g_W_law_429 at h
  refine h_callI G (x_siteS G (pc := 429) (y2 := y_W_entry) (As := [.ref s0, .int s1, .int s2]) (S := []) d_W_law_429 lm_W_86 mi_W_entry mw_W_entry.2 mw_W_entry.1 mx_W_entry.1 mx_W_entry.2 rfl) mw_W_entry ⟨Nat.le_of_ble_eq_true rfl, Nat.le_of_ble_eq_true rfl⟩ rfl (fun _ _ e => p_W_entry G _ _ _ _ e) h fun t2 M1 h => ?_
  refine x_istore (pc := 432) (L' := [(0, .ref v0), (1, .ref v1), (2, .ref v2), (3, .ref v3), (4, .int v4), (5, .int t2)]) d_W_law_432 (by decide) rfl ?_
  refine x_aload_n (pc := 434) d_W_law_434 rfl 2 rfl ?_
  refine x_aload_n (pc := 435) d_W_law_435 rfl 0 rfl ?_
  refine x_iload (pc := 436) d_W_law_436 4 rfl ?_
  refine x_iconst (pc := 438) d_W_law_438 rfl ?_
  refine x_iadd (pc := 439) d_W_law_439 ?_
  refine h_iaload (pc := 440) d_W_law_440 h fun t3 h => ?_
  refine x_aload_n (pc := 441) d_W_law_441 rfl 0 rfl ?_
  refine x_iload (pc := 442) d_W_law_442 4 rfl ?_
  refine x_iconst (pc := 444) d_W_law_444 rfl ?_
  refine x_iadd (pc := 445) d_W_law_445 ?_
  refine h_iaload (pc := 446) d_W_law_446 h fun t4 h => ?_
  refine h_if_eq (pc := 447) 454 d_W_law_447 (by decide) h (fun _ h => ?_) (fun _ h => ?_)
  · refine x_iconst (pc := 454) d_W_law_454 rfl ?_
    refine x_weak [0, 1, 2, 3, 4, 5] rfl ?_
    exact p_W_law_455 G hr23 _ _ _ _ _ _ _ _ _ _ h
  · refine x_iconst (pc := 450) d_W_law_450 rfl ?_
    refine x_goto (pc := 451) 455 d_W_law_451 (by decide) ?_
    refine x_weak [0, 1, 2, 3, 4, 5] rfl ?_
    exact p_W_law_455 G hr23 _ _ _ _ _ _ _ _ _ _ h
theorem p_W_law_23 (G : xG K) : ∀ (n : Nat) (v0 : Nat) (v1 : Nat) (v2 : Nat) (v3 : Nat) (v4 : Int32) (M : XM), g_W_law_23 n v0 v1 v2 v3 v4 M = some (o, N) → cA K y_W_law 23 [(0, .ref v0), (1, .ref v1), (2, .ref v2), (3, .ref v3), (4, .int v4)] [] M o N := by
  intro n
  induction n with
  | zero =>
    intro v0 v1 v2 v3 v4 M h
    rw [g_W_law_23] at h
    cases h
  | succ n ih =>
    intro v0 v1 v2 v3 v4 M h
    rw [g_W_law_23] at h
    refine x_iload (pc := 23) d_W_law_23 4 rfl ?_
    refine x_aload_n (pc := 25) d_W_law_25 rfl 0 rfl ?_
    refine h_arraylength (pc := 26) d_W_law_26 h fun t1 h => ?_
    refine x_iconst (pc := 27) d_W_law_27 rfl ?_
    refine x_isub (pc := 28) d_W_law_28 ?_
    refine h_icmp_gt (pc := 29) 1147 d_W_law_29 (by decide) h (fun _ h => ?_) (fun _ h => ?_)
    · refine x_iconst (pc := 1147) d_W_law_1147 rfl ?_
      exact h_zreturn (pc := 1148) d_W_law_1148 rfl h
    · refine x_aload_n (pc := 32) d_W_law_32 rfl 0 rfl ?_
      refine x_iload (pc := 33) d_W_law_33 4 rfl ?_
      refine h_iaload (pc := 35) d_W_law_35 h fun t2 h => ?_
      refine x_bipush (pc := 36) (v := 15) d_W_law_36 (by decide) ?_
      refine x_iand (pc := 38) d_W_law_38 ?_
      refine h_case h (fun c0 h => ?_) (fun c0 h => ?_)
      · refine x_tableIn (pc := 39) 112 d_W_law_39 (by rw [c0]; decide) (by rw [c0]; decide) (off := 73) (by rw [c0]; rfl) (by decide) ?_
        refine x_aload_n (pc := 112) d_W_law_112 rfl 1 rfl ?_
        refine x_aload_n (pc := 113) d_W_law_113 rfl 3 rfl ?_
        refine h_callI G (x_siteS G (pc := 114) (y2 := y_W_add) (As := [.ref v1, .ref v3]) (S := []) d_W_law_114 lm_W_66 mi_W_add mw_W_add.2 mw_W_add.1 mx_W_add.1 mx_W_add.2 rfl) mw_W_add ⟨Nat.le_of_ble_eq_true rfl, Nat.le_of_ble_eq_true rfl⟩ rfl (fun _ _ e => p_W_add G _ _ _ e) h fun t86 M85 h => ?_
        refine x_istore (pc := 117) (L' := [(0, .ref v0), (1, .ref v1), (2, .ref v2), (3, .ref v3), (4, .int v4), (5, .int t86)]) d_W_law_117 (by decide) rfl ?_
        refine x_aload_n (pc := 119) d_W_law_119 rfl 2 rfl ?_
        obtain ⟨⟨ra87, ra87t⟩, h⟩ := h_ok h
        refine h_callI G (x_siteV G (pc := 120) (y2 := y_R_add) (As := []) (S := []) (ci := 7) d_W_law_120 rfl lm_W_71 mi_R_add ms_R_add mw_R_add.1 mx_R_add.1 mx_R_add.2 rfl ra87 ra87t) mw_R_add ⟨Nat.le_of_ble_eq_true rfl, Nat.le_of_ble_eq_true rfl⟩ rfl (fun _ _ e => p_R_add G _ _ e) h fun t89 M88 h => ?_
        refine x_istore (pc := 123) (L' := [(0, .ref v0), (1, .ref v1), (2, .ref v2), (3, .ref v3), (4, .int v4), (5, .int t86), (6, .int t89)]) d_W_law_123 (by decide) rfl ?_
        refine x_aload_n (pc := 125) d_W_law_125 rfl 2 rfl ?_
        obtain ⟨⟨ra90, ra90t⟩, h⟩ := h_ok h
        refine h_callI G (x_siteV G (pc := 126) (y2 := y_R_thrown) (As := []) (S := []) (ci := 7) d_W_law_126 rfl lm_W_72 mi_R_thrown ms_R_thrown mw_R_thrown.1 mx_R_thrown.1 mx_R_thrown.2 rfl ra90 ra90t) mw_R_thrown ⟨Nat.le_of_ble_eq_true rfl, Nat.le_of_ble_eq_true rfl⟩ rfl (fun _ _ e => p_R_thrown G _ _ e) h fun t92 M91 h => ?_
        refine x_iload (pc := 129) d_W_law_129 5 rfl ?_
        refine h_icmp_eq (pc := 131) 136 d_W_law_131 (by decide) h (fun _ h => ?_) (fun _ h => ?_)
        · refine x_iload (pc := 136) d_W_law_136 5 rfl ?_
          refine h_if_ne (pc := 138) 153 d_W_law_138 (by decide) h (fun _ h => ?_) (fun _ h => ?_)
          · refine x_goto (pc := 153) 1141 d_W_law_153 (by decide) ?_
            refine x_iinc (pc := 1141) (n := 4) (L' := [(0, .ref v0), (1, .ref v1), (2, .ref v2), (3, .ref v3), (4, .int (v4 + 5)), (5, .int t86), (6, .int t89)]) d_W_law_1141 (by decide) rfl rfl ?_
            refine x_goto (pc := 1144) 23 d_W_law_1144 (by decide) ?_
            refine x_weak [0, 1, 2, 3, 4] rfl ?_
            exact ih _ _ _ _ _ _ h
          · refine x_aload_n (pc := 141) d_W_law_141 rfl 3 rfl ?_
            refine x_iconst (pc := 142) d_W_law_142 rfl ?_
            refine h_laload (pc := 143) d_W_law_143 h fun t93 h => ?_
            refine x_iload (pc := 144) d_W_law_144 6 rfl ?_
            refine x_i2l (pc := 146) d_W_law_146 ?_
            refine x_lcmp (pc := 147) d_W_law_147 ?_
            refine h_if_eq (pc := 148) 153 d_W_law_148 (by decide) h (fun _ h => ?_) (fun _ h => ?_)
            · refine x_goto (pc := 153) 1141 d_W_law_153 (by decide) ?_
              refine x_iinc (pc := 1141) (n := 4) (L' := [(0, .ref v0), (1, .ref v1), (2, .ref v2), (3, .ref v3), (4, .int (v4 + 5)), (5, .int t86), (6, .int t89)]) d_W_law_1141 (by decide) rfl rfl ?_
              refine x_goto (pc := 1144) 23 d_W_law_1144 (by decide) ?_
              refine x_weak [0, 1, 2, 3, 4] rfl ?_
              exact ih _ _ _ _ _ _ h
            · refine x_iconst (pc := 151) d_W_law_151 rfl ?_
              exact h_zreturn (pc := 152) d_W_law_152 rfl h
        · refine x_iconst (pc := 134) d_W_law_134 rfl ?_
          exact h_zreturn (pc := 135) d_W_law_135 rfl h
      · refine h_case h (fun c1 h => ?_) (fun c1 h => ?_)
        · refine x_tableIn (pc := 39) 156 d_W_law_39 (by rw [c1]; decide) (by rw [c1]; decide) (off := 117) (by rw [c1]; rfl) (by decide) ?_
          refine x_aload_n (pc := 156) d_W_law_156 rfl 1 rfl ?_
          refine x_aload_n (pc := 157) d_W_law_157 rfl 0 rfl ?_
          refine x_iload (pc := 158) d_W_law_158 4 rfl ?_
          refine x_iconst (pc := 160) d_W_law_160 rfl ?_
          refine x_iadd (pc := 161) d_W_law_161 ?_
          refine h_iaload (pc := 162) d_W_law_162 h fun t68 h => ?_
          refine x_aload_n (pc := 163) d_W_law_163 rfl 0 rfl ?_
          refine x_iload (pc := 164) d_W_law_164 4 rfl ?_
          refine x_iconst (pc := 166) d_W_law_166 rfl ?_
          refine x_iadd (pc := 167) d_W_law_167 ?_
          refine h_iaload (pc := 168) d_W_law_168 h fun t69 h => ?_
          refine x_aload_n (pc := 169) d_W_law_169 rfl 0 rfl ?_
          refine x_iload (pc := 170) d_W_law_170 4 rfl ?_
          refine x_iconst (pc := 172) d_W_law_172 rfl ?_
          refine x_iadd (pc := 173) d_W_law_173 ?_
          refine h_iaload (pc := 174) d_W_law_174 h fun t70 h => ?_
          refine x_aload_n (pc := 175) d_W_law_175 rfl 0 rfl ?_
          refine x_iload (pc := 176) d_W_law_176 4 rfl ?_
          refine x_iconst (pc := 178) d_W_law_178 rfl ?_
          refine x_iadd (pc := 179) d_W_law_179 ?_
          refine h_iaload (pc := 180) d_W_law_180 h fun t71 h => ?_
          refine x_aload_n (pc := 181) d_W_law_181 rfl 3 rfl ?_
          refine h_callI G (x_siteS G (pc := 182) (y2 := y_W_constant) (As := [.ref v1, .int t68, .int t69, .int t70, .int t71, .ref v3]) (S := []) d_W_law_182 lm_W_75 mi_W_constant mw_W_constant.2 mw_W_constant.1 mx_W_constant.1 mx_W_constant.2 rfl) mw_W_constant ⟨Nat.le_of_ble_eq_true rfl, Nat.le_of_ble_eq_true rfl⟩ rfl (fun _ _ e => p_W_constant G _ _ _ _ _ _ _ e) h fun t73 M72 h => ?_
          refine x_istore (pc := 185) (L' := [(0, .ref v0), (1, .ref v1), (2, .ref v2), (3, .ref v3), (4, .int v4), (5, .int t73)]) d_W_law_185 (by decide) rfl ?_
          refine x_aload_n (pc := 187) d_W_law_187 rfl 2 rfl ?_
          refine x_aload_n (pc := 188) d_W_law_188 rfl 0 rfl ?_
          refine x_iload (pc := 189) d_W_law_189 4 rfl ?_
          refine x_iconst (pc := 191) d_W_law_191 rfl ?_
          refine x_iadd (pc := 192) d_W_law_192 ?_
          refine h_iaload (pc := 193) d_W_law_193 h fun t74 h => ?_
          refine x_aload_n (pc := 194) d_W_law_194 rfl 0 rfl ?_
          refine x_iload (pc := 195) d_W_law_195 4 rfl ?_
          refine x_iconst (pc := 197) d_W_law_197 rfl ?_
          refine x_iadd (pc := 198) d_W_law_198 ?_
          refine h_iaload (pc := 199) d_W_law_199 h fun t75 h => ?_
          refine x_aload_n (pc := 200) d_W_law_200 rfl 0 rfl ?_
          refine x_iload (pc := 201) d_W_law_201 4 rfl ?_
          refine x_iconst (pc := 203) d_W_law_203 rfl ?_
          refine x_iadd (pc := 204) d_W_law_204 ?_
          refine h_iaload (pc := 205) d_W_law_205 h fun t76 h => ?_
          refine x_aload_n (pc := 206) d_W_law_206 rfl 0 rfl ?_
          refine x_iload (pc := 207) d_W_law_207 4 rfl ?_
          refine x_iconst (pc := 209) d_W_law_209 rfl ?_
          refine x_iadd (pc := 210) d_W_law_210 ?_
          refine h_iaload (pc := 211) d_W_law_211 h fun t77 h => ?_
          obtain ⟨⟨ra78, ra78t⟩, h⟩ := h_ok h
          refine h_callI G (x_siteV G (pc := 212) (y2 := y_R_constant) (As := [.int t74, .int t75, .int t76, .int t77]) (S := []) (ci := 7) d_W_law_212 rfl lm_W_78 mi_R_constant ms_R_constant mw_R_constant.1 mx_R_constant.1 mx_R_constant.2 rfl ra78 ra78t) mw_R_constant ⟨Nat.le_of_ble_eq_true rfl, Nat.le_of_ble_eq_true rfl⟩ rfl (fun _ _ e => p_R_constant G _ _ _ _ _ _ e) h fun t80 M79 h => ?_
          refine x_istore (pc := 215) (L' := [(0, .ref v0), (1, .ref v1), (2, .ref v2), (3, .ref v3), (4, .int v4), (5, .int t73), (6, .int t80)]) d_W_law_215 (by decide) rfl ?_
          refine x_aload_n (pc := 217) d_W_law_217 rfl 2 rfl ?_
          obtain ⟨⟨ra81, ra81t⟩, h⟩ := h_ok h
          refine h_callI G (x_siteV G (pc := 218) (y2 := y_R_thrown) (As := []) (S := []) (ci := 7) d_W_law_218 rfl lm_W_72 mi_R_thrown ms_R_thrown mw_R_thrown.1 mx_R_thrown.1 mx_R_thrown.2 rfl ra81 ra81t) mw_R_thrown ⟨Nat.le_of_ble_eq_true rfl, Nat.le_of_ble_eq_true rfl⟩ rfl (fun _ _ e => p_R_thrown G _ _ e) h fun t83 M82 h => ?_
          refine x_iload (pc := 221) d_W_law_221 5 rfl ?_
          refine h_icmp_eq (pc := 223) 228 d_W_law_223 (by decide) h (fun _ h => ?_) (fun _ h => ?_)
          · refine x_iload (pc := 228) d_W_law_228 5 rfl ?_
            refine h_if_ne (pc := 230) 245 d_W_law_230 (by decide) h (fun _ h => ?_) (fun _ h => ?_)
            · refine x_goto (pc := 245) 1141 d_W_law_245 (by decide) ?_
              refine x_iinc (pc := 1141) (n := 4) (L' := [(0, .ref v0), (1, .ref v1), (2, .ref v2), (3, .ref v3), (4, .int (v4 + 5)), (5, .int t73), (6, .int t80)]) d_W_law_1141 (by decide) rfl rfl ?_
              refine x_goto (pc := 1144) 23 d_W_law_1144 (by decide) ?_
              refine x_weak [0, 1, 2, 3, 4] rfl ?_
              exact ih _ _ _ _ _ _ h
            · refine x_aload_n (pc := 233) d_W_law_233 rfl 3 rfl ?_
              refine x_iconst (pc := 234) d_W_law_234 rfl ?_
              refine h_laload (pc := 235) d_W_law_235 h fun t84 h => ?_
              refine x_iload (pc := 236) d_W_law_236 6 rfl ?_
              refine x_i2l (pc := 238) d_W_law_238 ?_
              refine x_lcmp (pc := 239) d_W_law_239 ?_
              refine h_if_eq (pc := 240) 245 d_W_law_240 (by decide) h (fun _ h => ?_) (fun _ h => ?_)
              · refine x_goto (pc := 245) 1141 d_W_law_245 (by decide) ?_
                refine x_iinc (pc := 1141) (n := 4) (L' := [(0, .ref v0), (1, .ref v1), (2, .ref v2), (3, .ref v3), (4, .int (v4 + 5)), (5, .int t73), (6, .int t80)]) d_W_law_1141 (by decide) rfl rfl ?_
                refine x_goto (pc := 1144) 23 d_W_law_1144 (by decide) ?_
                refine x_weak [0, 1, 2, 3, 4] rfl ?_
                exact ih _ _ _ _ _ _ h
              · refine x_iconst (pc := 243) d_W_law_243 rfl ?_
                exact h_zreturn (pc := 244) d_W_law_244 rfl h
          · refine x_iconst (pc := 226) d_W_law_226 rfl ?_
            exact h_zreturn (pc := 227) d_W_law_227 rfl h
        · refine h_case h (fun c2 h => ?_) (fun c2 h => ?_)
          · refine x_tableIn (pc := 39) 248 d_W_law_39 (by rw [c2]; decide) (by rw [c2]; decide) (off := 209) (by rw [c2]; rfl) (by decide) ?_
            refine x_aload_n (pc := 248) d_W_law_248 rfl 1 rfl ?_
            refine x_aload_n (pc := 249) d_W_law_249 rfl 0 rfl ?_
            refine x_iload (pc := 250) d_W_law_250 4 rfl ?_
            refine x_iconst (pc := 252) d_W_law_252 rfl ?_
            refine x_iadd (pc := 253) d_W_law_253 ?_
            refine h_iaload (pc := 254) d_W_law_254 h fun t53 h => ?_
            refine x_aload_n (pc := 255) d_W_law_255 rfl 0 rfl ?_
            refine x_iload (pc := 256) d_W_law_256 4 rfl ?_
            refine x_iconst (pc := 258) d_W_law_258 rfl ?_
            refine x_iadd (pc := 259) d_W_law_259 ?_
            refine h_iaload (pc := 260) d_W_law_260 h fun t54 h => ?_
            refine x_aload_n (pc := 261) d_W_law_261 rfl 0 rfl ?_
            refine x_iload (pc := 262) d_W_law_262 4 rfl ?_
            refine x_iconst (pc := 264) d_W_law_264 rfl ?_
            refine x_iadd (pc := 265) d_W_law_265 ?_
            refine h_iaload (pc := 266) d_W_law_266 h fun t55 h => ?_
            refine x_aload_n (pc := 267) d_W_law_267 rfl 3 rfl ?_
            refine h_callI G (x_siteS G (pc := 268) (y2 := y_W_member) (As := [.ref v1, .int t53, .int t54, .int t55, .ref v3]) (S := []) d_W_law_268 lm_W_79 mi_W_member mw_W_member.2 mw_W_member.1 mx_W_member.1 mx_W_member.2 rfl) mw_W_member ⟨Nat.le_of_ble_eq_true rfl, Nat.le_of_ble_eq_true rfl⟩ rfl (fun _ _ e => p_W_member G _ _ _ _ _ _ e) h fun t57 M56 h => ?_
            refine x_istore (pc := 271) (L' := [(0, .ref v0), (1, .ref v1), (2, .ref v2), (3, .ref v3), (4, .int v4), (5, .int t57)]) d_W_law_271 (by decide) rfl ?_
            refine x_aload_n (pc := 273) d_W_law_273 rfl 2 rfl ?_
            refine x_aload_n (pc := 274) d_W_law_274 rfl 0 rfl ?_
            refine x_iload (pc := 275) d_W_law_275 4 rfl ?_
            refine x_iconst (pc := 277) d_W_law_277 rfl ?_
            refine x_iadd (pc := 278) d_W_law_278 ?_
            refine h_iaload (pc := 279) d_W_law_279 h fun t58 h => ?_
            refine x_aload_n (pc := 280) d_W_law_280 rfl 0 rfl ?_
            refine x_iload (pc := 281) d_W_law_281 4 rfl ?_
            refine x_iconst (pc := 283) d_W_law_283 rfl ?_
            refine x_iadd (pc := 284) d_W_law_284 ?_
            refine h_iaload (pc := 285) d_W_law_285 h fun t59 h => ?_
            refine x_aload_n (pc := 286) d_W_law_286 rfl 0 rfl ?_
            refine x_iload (pc := 287) d_W_law_287 4 rfl ?_
            refine x_iconst (pc := 289) d_W_law_289 rfl ?_
            refine x_iadd (pc := 290) d_W_law_290 ?_
            refine h_iaload (pc := 291) d_W_law_291 h fun t60 h => ?_
            obtain ⟨⟨ra61, ra61t⟩, h⟩ := h_ok h
            refine h_callI G (x_siteV G (pc := 292) (y2 := y_R_member) (As := [.int t58, .int t59, .int t60]) (S := []) (ci := 7) d_W_law_292 rfl lm_W_82 mi_R_member ms_R_member mw_R_member.1 mx_R_member.1 mx_R_member.2 rfl ra61 ra61t) mw_R_member ⟨Nat.le_of_ble_eq_true rfl, Nat.le_of_ble_eq_true rfl⟩ rfl (fun _ _ e => p_R_member G _ _ _ _ _ e) h fun t63 M62 h => ?_
            refine x_istore (pc := 295) (L' := [(0, .ref v0), (1, .ref v1), (2, .ref v2), (3, .ref v3), (4, .int v4), (5, .int t57), (6, .int t63)]) d_W_law_295 (by decide) rfl ?_
            refine x_aload_n (pc := 297) d_W_law_297 rfl 2 rfl ?_
            obtain ⟨⟨ra64, ra64t⟩, h⟩ := h_ok h
            refine h_callI G (x_siteV G (pc := 298) (y2 := y_R_thrown) (As := []) (S := []) (ci := 7) d_W_law_298 rfl lm_W_72 mi_R_thrown ms_R_thrown mw_R_thrown.1 mx_R_thrown.1 mx_R_thrown.2 rfl ra64 ra64t) mw_R_thrown ⟨Nat.le_of_ble_eq_true rfl, Nat.le_of_ble_eq_true rfl⟩ rfl (fun _ _ e => p_R_thrown G _ _ e) h fun t66 M65 h => ?_
            refine x_iload (pc := 301) d_W_law_301 5 rfl ?_
            refine h_icmp_eq (pc := 303) 308 d_W_law_303 (by decide) h (fun _ h => ?_) (fun _ h => ?_)
            · refine x_iload (pc := 308) d_W_law_308 5 rfl ?_
              refine h_if_ne (pc := 310) 325 d_W_law_310 (by decide) h (fun _ h => ?_) (fun _ h => ?_)
              · refine x_goto (pc := 325) 1141 d_W_law_325 (by decide) ?_
                refine x_iinc (pc := 1141) (n := 4) (L' := [(0, .ref v0), (1, .ref v1), (2, .ref v2), (3, .ref v3), (4, .int (v4 + 5)), (5, .int t57), (6, .int t63)]) d_W_law_1141 (by decide) rfl rfl ?_
                refine x_goto (pc := 1144) 23 d_W_law_1144 (by decide) ?_
                refine x_weak [0, 1, 2, 3, 4] rfl ?_
                exact ih _ _ _ _ _ _ h
              · refine x_aload_n (pc := 313) d_W_law_313 rfl 3 rfl ?_
                refine x_iconst (pc := 314) d_W_law_314 rfl ?_
                refine h_laload (pc := 315) d_W_law_315 h fun t67 h => ?_
                refine x_iload (pc := 316) d_W_law_316 6 rfl ?_
                refine x_i2l (pc := 318) d_W_law_318 ?_
                refine x_lcmp (pc := 319) d_W_law_319 ?_
                refine h_if_eq (pc := 320) 325 d_W_law_320 (by decide) h (fun _ h => ?_) (fun _ h => ?_)
                · refine x_goto (pc := 325) 1141 d_W_law_325 (by decide) ?_
                  refine x_iinc (pc := 1141) (n := 4) (L' := [(0, .ref v0), (1, .ref v1), (2, .ref v2), (3, .ref v3), (4, .int (v4 + 5)), (5, .int t57), (6, .int t63)]) d_W_law_1141 (by decide) rfl rfl ?_
                  refine x_goto (pc := 1144) 23 d_W_law_1144 (by decide) ?_
                  refine x_weak [0, 1, 2, 3, 4] rfl ?_
                  exact ih _ _ _ _ _ _ h
                · refine x_iconst (pc := 323) d_W_law_323 rfl ?_
                  exact h_zreturn (pc := 324) d_W_law_324 rfl h
            · refine x_iconst (pc := 306) d_W_law_306 rfl ?_
              exact h_zreturn (pc := 307) d_W_law_307 rfl h
          · refine h_case h (fun c3 h => ?_) (fun c3 h => ?_)
            · refine x_tableIn (pc := 39) 328 d_W_law_39 (by rw [c3]; decide) (by rw [c3]; decide) (off := 289) (by rw [c3]; rfl) (by decide) ?_
              refine x_aload_n (pc := 328) d_W_law_328 rfl 1 rfl ?_
              refine x_aload_n (pc := 329) d_W_law_329 rfl 0 rfl ?_
              refine x_iload (pc := 330) d_W_law_330 4 rfl ?_
              refine x_iconst (pc := 332) d_W_law_332 rfl ?_
              refine x_iadd (pc := 333) d_W_law_333 ?_
              refine h_iaload (pc := 334) d_W_law_334 h fun t38 h => ?_
              refine x_aload_n (pc := 335) d_W_law_335 rfl 0 rfl ?_
              refine x_iload (pc := 336) d_W_law_336 4 rfl ?_
              refine x_iconst (pc := 338) d_W_law_338 rfl ?_
              refine x_iadd (pc := 339) d_W_law_339 ?_
              refine h_iaload (pc := 340) d_W_law_340 h fun t39 h => ?_
              refine x_aload_n (pc := 341) d_W_law_341 rfl 0 rfl ?_
              refine x_iload (pc := 342) d_W_law_342 4 rfl ?_
              refine x_iconst (pc := 344) d_W_law_344 rfl ?_
              refine x_iadd (pc := 345) d_W_law_345 ?_
              refine h_iaload (pc := 346) d_W_law_346 h fun t40 h => ?_
              refine x_aload_n (pc := 347) d_W_law_347 rfl 3 rfl ?_
              refine h_callI G (x_siteS G (pc := 348) (y2 := y_W_code) (As := [.ref v1, .int t38, .int t39, .int t40, .ref v3]) (S := []) d_W_law_348 lm_W_83 mi_W_code mw_W_code.2 mw_W_code.1 mx_W_code.1 mx_W_code.2 rfl) mw_W_code ⟨Nat.le_of_ble_eq_true rfl, Nat.le_of_ble_eq_true rfl⟩ rfl (fun _ _ e => p_W_code G _ _ _ _ _ _ e) h fun t42 M41 h => ?_
              refine x_istore (pc := 351) (L' := [(0, .ref v0), (1, .ref v1), (2, .ref v2), (3, .ref v3), (4, .int v4), (5, .int t42)]) d_W_law_351 (by decide) rfl ?_
              refine x_aload_n (pc := 353) d_W_law_353 rfl 2 rfl ?_
              refine x_aload_n (pc := 354) d_W_law_354 rfl 0 rfl ?_
              refine x_iload (pc := 355) d_W_law_355 4 rfl ?_
              refine x_iconst (pc := 357) d_W_law_357 rfl ?_
              refine x_iadd (pc := 358) d_W_law_358 ?_
              refine h_iaload (pc := 359) d_W_law_359 h fun t43 h => ?_
              refine x_aload_n (pc := 360) d_W_law_360 rfl 0 rfl ?_
              refine x_iload (pc := 361) d_W_law_361 4 rfl ?_
              refine x_iconst (pc := 363) d_W_law_363 rfl ?_
              refine x_iadd (pc := 364) d_W_law_364 ?_
              refine h_iaload (pc := 365) d_W_law_365 h fun t44 h => ?_
              refine x_aload_n (pc := 366) d_W_law_366 rfl 0 rfl ?_
              refine x_iload (pc := 367) d_W_law_367 4 rfl ?_
              refine x_iconst (pc := 369) d_W_law_369 rfl ?_
              refine x_iadd (pc := 370) d_W_law_370 ?_
              refine h_iaload (pc := 371) d_W_law_371 h fun t45 h => ?_
              obtain ⟨⟨ra46, ra46t⟩, h⟩ := h_ok h
              refine h_callI G (x_siteV G (pc := 372) (y2 := y_R_code) (As := [.int t43, .int t44, .int t45]) (S := []) (ci := 7) d_W_law_372 rfl lm_W_85 mi_R_code ms_R_code mw_R_code.1 mx_R_code.1 mx_R_code.2 rfl ra46 ra46t) mw_R_code ⟨Nat.le_of_ble_eq_true rfl, Nat.le_of_ble_eq_true rfl⟩ rfl (fun _ _ e => p_R_code G _ _ _ _ _ e) h fun t48 M47 h => ?_
              refine x_istore (pc := 375) (L' := [(0, .ref v0), (1, .ref v1), (2, .ref v2), (3, .ref v3), (4, .int v4), (5, .int t42), (6, .int t48)]) d_W_law_375 (by decide) rfl ?_
              refine x_aload_n (pc := 377) d_W_law_377 rfl 2 rfl ?_
              obtain ⟨⟨ra49, ra49t⟩, h⟩ := h_ok h
              refine h_callI G (x_siteV G (pc := 378) (y2 := y_R_thrown) (As := []) (S := []) (ci := 7) d_W_law_378 rfl lm_W_72 mi_R_thrown ms_R_thrown mw_R_thrown.1 mx_R_thrown.1 mx_R_thrown.2 rfl ra49 ra49t) mw_R_thrown ⟨Nat.le_of_ble_eq_true rfl, Nat.le_of_ble_eq_true rfl⟩ rfl (fun _ _ e => p_R_thrown G _ _ e) h fun t51 M50 h => ?_
              refine x_iload (pc := 381) d_W_law_381 5 rfl ?_
              refine h_icmp_eq (pc := 383) 388 d_W_law_383 (by decide) h (fun _ h => ?_) (fun _ h => ?_)
              · refine x_iload (pc := 388) d_W_law_388 5 rfl ?_
                refine h_if_ne (pc := 390) 405 d_W_law_390 (by decide) h (fun _ h => ?_) (fun _ h => ?_)
                · refine x_goto (pc := 405) 1141 d_W_law_405 (by decide) ?_
                  refine x_iinc (pc := 1141) (n := 4) (L' := [(0, .ref v0), (1, .ref v1), (2, .ref v2), (3, .ref v3), (4, .int (v4 + 5)), (5, .int t42), (6, .int t48)]) d_W_law_1141 (by decide) rfl rfl ?_
                  refine x_goto (pc := 1144) 23 d_W_law_1144 (by decide) ?_
                  refine x_weak [0, 1, 2, 3, 4] rfl ?_
                  exact ih _ _ _ _ _ _ h
                · refine x_aload_n (pc := 393) d_W_law_393 rfl 3 rfl ?_
                  refine x_iconst (pc := 394) d_W_law_394 rfl ?_
                  refine h_laload (pc := 395) d_W_law_395 h fun t52 h => ?_
                  refine x_iload (pc := 396) d_W_law_396 6 rfl ?_
                  refine x_i2l (pc := 398) d_W_law_398 ?_
                  refine x_lcmp (pc := 399) d_W_law_399 ?_
                  refine h_if_eq (pc := 400) 405 d_W_law_400 (by decide) h (fun _ h => ?_) (fun _ h => ?_)
                  · refine x_goto (pc := 405) 1141 d_W_law_405 (by decide) ?_
                    refine x_iinc (pc := 1141) (n := 4) (L' := [(0, .ref v0), (1, .ref v1), (2, .ref v2), (3, .ref v3), (4, .int (v4 + 5)), (5, .int t42), (6, .int t48)]) d_W_law_1141 (by decide) rfl rfl ?_
                    refine x_goto (pc := 1144) 23 d_W_law_1144 (by decide) ?_
                    refine x_weak [0, 1, 2, 3, 4] rfl ?_
                    exact ih _ _ _ _ _ _ h
                  · refine x_iconst (pc := 403) d_W_law_403 rfl ?_
                    exact h_zreturn (pc := 404) d_W_law_404 rfl h
              · refine x_iconst (pc := 386) d_W_law_386 rfl ?_
                exact h_zreturn (pc := 387) d_W_law_387 rfl h
            · refine h_case h (fun c4 h => ?_) (fun c4 h => ?_)
              · refine x_tableIn (pc := 39) 408 d_W_law_39 (by rw [c4]; decide) (by rw [c4]; decide) (off := 369) (by rw [c4]; rfl) (by decide) ?_
                refine x_aload_n (pc := 408) d_W_law_408 rfl 1 rfl ?_
                refine x_aload_n (pc := 409) d_W_law_409 rfl 0 rfl ?_
                refine x_iload (pc := 410) d_W_law_410 4 rfl ?_
                refine x_iconst (pc := 412) d_W_law_412 rfl ?_
                refine x_iadd (pc := 413) d_W_law_413 ?_
                refine h_iaload (pc := 414) d_W_law_414 h fun t36 h => ?_
                refine x_aload_n (pc := 415) d_W_law_415 rfl 0 rfl ?_
                refine x_iload (pc := 416) d_W_law_416 4 rfl ?_
                refine x_iconst (pc := 418) d_W_law_418 rfl ?_
                refine x_iadd (pc := 419) d_W_law_419 ?_
                refine h_iaload (pc := 420) d_W_law_420 h fun t37 h => ?_
                refine h_if_eq (pc := 421) 428 d_W_law_421 (by decide) h (fun _ h => ?_) (fun _ h => ?_)
                · refine x_iconst (pc := 428) d_W_law_428 rfl ?_
                  refine x_weak [0, 1, 2, 3, 4] rfl ?_
                  exact p_W_law_429 G ih _ _ _ _ _ _ _ _ _ h
                · refine x_iconst (pc := 424) d_W_law_424 rfl ?_
                  refine x_goto (pc := 425) 429 d_W_law_425 (by decide) ?_
                  refine x_weak [0, 1, 2, 3, 4] rfl ?_
                  exact p_W_law_429 G ih _ _ _ _ _ _ _ _ _ h
              · refine h_case h (fun c5 h => ?_) (fun c5 h => ?_)
                · refine x_tableIn (pc := 39) 472 d_W_law_39 (by rw [c5]; decide) (by rw [c5]; decide) (off := 433) (by rw [c5]; rfl) (by decide) ?_
                  refine x_aload_n (pc := 472) d_W_law_472 rfl 1 rfl ?_
                  obtain ⟨⟨ra32, ra32t⟩, h⟩ := h_ok h
                  refine h_callV G (x_siteV G (pc := 473) (y2 := y_S_clear) (As := []) (S := []) (ci := 0) d_W_law_473 rfl lm_W_90 mi_S_clear ms_S_clear mw_S_clear.1 mx_S_clear.1 mx_S_clear.2 rfl ra32 ra32t) mw_S_clear ⟨Nat.le_of_ble_eq_true rfl, Nat.le_of_ble_eq_true rfl⟩ rfl (fun _ _ e => p_S_clear G _ _ e) h fun M33 h => ?_
                  refine x_aload_n (pc := 476) d_W_law_476 rfl 2 rfl ?_
                  obtain ⟨⟨ra34, ra34t⟩, h⟩ := h_ok h
                  refine h_callV G (x_siteV G (pc := 477) (y2 := y_R_clear) (As := []) (S := []) (ci := 7) d_W_law_477 rfl lm_W_93 mi_R_clear ms_R_clear mw_R_clear.1 mx_R_clear.1 mx_R_clear.2 rfl ra34 ra34t) mw_R_clear ⟨Nat.le_of_ble_eq_true rfl, Nat.le_of_ble_eq_true rfl⟩ rfl (fun _ _ e => p_R_clear G _ _ e) h fun M35 h => ?_
                  refine x_goto (pc := 480) 1141 d_W_law_480 (by decide) ?_
                  refine x_iinc (pc := 1141) (n := 4) (L' := [(0, .ref v0), (1, .ref v1), (2, .ref v2), (3, .ref v3), (4, .int (v4 + 5))]) d_W_law_1141 (by decide) rfl rfl ?_
                  refine x_goto (pc := 1144) 23 d_W_law_1144 (by decide) ?_
                  refine x_weak [0, 1, 2, 3, 4] rfl ?_
                  exact ih _ _ _ _ _ _ h
                · refine h_case h (fun c6 h => ?_) (fun c6 h => ?_)
                  · refine x_tableIn (pc := 39) 483 d_W_law_39 (by rw [c6]; decide) (by rw [c6]; decide) (off := 444) (by rw [c6]; rfl) (by decide) ?_
                    refine x_aload_n (pc := 483) d_W_law_483 rfl 1 rfl ?_
                    obtain ⟨⟨ra26, ra26t⟩, h⟩ := h_ok h
                    refine h_callI G (x_siteV G (pc := 484) (y2 := y_S_fault) (As := []) (S := []) (ci := 0) d_W_law_484 rfl lm_W_94 mi_S_fault ms_S_fault mw_S_fault.1 mx_S_fault.1 mx_S_fault.2 rfl ra26 ra26t) mw_S_fault ⟨Nat.le_of_ble_eq_true rfl, Nat.le_of_ble_eq_true rfl⟩ rfl (fun _ _ e => p_S_fault G _ _ e) h fun t28 M27 h => ?_
                    refine x_aload_n (pc := 487) d_W_law_487 rfl 2 rfl ?_
                    obtain ⟨⟨ra29, ra29t⟩, h⟩ := h_ok h
                    refine h_callI G (x_siteV G (pc := 488) (y2 := y_R_fault) (As := []) (S := [.int t28]) (ci := 7) d_W_law_488 rfl lm_W_97 mi_R_fault ms_R_fault mw_R_fault.1 mx_R_fault.1 mx_R_fault.2 rfl ra29 ra29t) mw_R_fault ⟨Nat.le_of_ble_eq_true rfl, Nat.le_of_ble_eq_true rfl⟩ rfl (fun _ _ e => p_R_fault G _ _ e) h fun t31 M30 h => ?_
                    refine h_icmp_eq (pc := 491) 1141 d_W_law_491 (by decide) h (fun _ h => ?_) (fun _ h => ?_)
                    · refine x_iinc (pc := 1141) (n := 4) (L' := [(0, .ref v0), (1, .ref v1), (2, .ref v2), (3, .ref v3), (4, .int (v4 + 5))]) d_W_law_1141 (by decide) rfl rfl ?_
                      refine x_goto (pc := 1144) 23 d_W_law_1144 (by decide) ?_
                      refine x_weak [0, 1, 2, 3, 4] rfl ?_
                      exact ih _ _ _ _ _ _ h
                    · refine x_iconst (pc := 494) d_W_law_494 rfl ?_
                      exact h_zreturn (pc := 495) d_W_law_495 rfl h
                  · refine h_case h (fun c7 h => ?_) (fun c7 h => ?_)
                    · refine x_tableIn (pc := 39) 496 d_W_law_39 (by rw [c7]; decide) (by rw [c7]; decide) (off := 457) (by rw [c7]; rfl) (by decide) ?_
                      refine x_aload_n (pc := 496) d_W_law_496 rfl 1 rfl ?_
                      refine x_aload_n (pc := 497) d_W_law_497 rfl 3 rfl ?_
                      refine h_callI G (x_siteS G (pc := 498) (y2 := y_W_shake) (As := [.ref v1, .ref v3]) (S := []) d_W_law_498 lm_W_98 mi_W_shake mw_W_shake.2 mw_W_shake.1 mx_W_shake.1 mx_W_shake.2 rfl) mw_W_shake ⟨Nat.le_of_ble_eq_true rfl, Nat.le_of_ble_eq_true rfl⟩ rfl (fun _ _ e => p_W_shake G _ _ _ e) h fun t18 M17 h => ?_
                      refine x_istore (pc := 501) (L' := [(0, .ref v0), (1, .ref v1), (2, .ref v2), (3, .ref v3), (4, .int v4), (5, .int t18)]) d_W_law_501 (by decide) rfl ?_
                      refine x_aload_n (pc := 503) d_W_law_503 rfl 2 rfl ?_
                      obtain ⟨⟨ra19, ra19t⟩, h⟩ := h_ok h
                      refine h_callI G (x_siteV G (pc := 504) (y2 := y_R_shake) (As := []) (S := []) (ci := 7) d_W_law_504 rfl lm_W_100 mi_R_shake ms_R_shake mw_R_shake.1 mx_R_shake.1 mx_R_shake.2 rfl ra19 ra19t) mw_R_shake ⟨Nat.le_of_ble_eq_true rfl, Nat.le_of_ble_eq_true rfl⟩ rfl (fun _ _ e => p_R_shake G _ _ e) h fun t21 M20 h => ?_
                      refine x_istore (pc := 507) (L' := [(0, .ref v0), (1, .ref v1), (2, .ref v2), (3, .ref v3), (4, .int v4), (5, .int t18), (6, .int t21)]) d_W_law_507 (by decide) rfl ?_
                      refine x_aload_n (pc := 509) d_W_law_509 rfl 2 rfl ?_
                      obtain ⟨⟨ra22, ra22t⟩, h⟩ := h_ok h
                      refine h_callI G (x_siteV G (pc := 510) (y2 := y_R_thrown) (As := []) (S := []) (ci := 7) d_W_law_510 rfl lm_W_72 mi_R_thrown ms_R_thrown mw_R_thrown.1 mx_R_thrown.1 mx_R_thrown.2 rfl ra22 ra22t) mw_R_thrown ⟨Nat.le_of_ble_eq_true rfl, Nat.le_of_ble_eq_true rfl⟩ rfl (fun _ _ e => p_R_thrown G _ _ e) h fun t24 M23 h => ?_
                      refine x_iload (pc := 513) d_W_law_513 5 rfl ?_
                      refine h_icmp_eq (pc := 515) 520 d_W_law_515 (by decide) h (fun _ h => ?_) (fun _ h => ?_)
                      · refine x_iload (pc := 520) d_W_law_520 5 rfl ?_
                        refine h_if_ne (pc := 522) 537 d_W_law_522 (by decide) h (fun _ h => ?_) (fun _ h => ?_)
                        · refine x_goto (pc := 537) 1141 d_W_law_537 (by decide) ?_
                          refine x_iinc (pc := 1141) (n := 4) (L' := [(0, .ref v0), (1, .ref v1), (2, .ref v2), (3, .ref v3), (4, .int (v4 + 5)), (5, .int t18), (6, .int t21)]) d_W_law_1141 (by decide) rfl rfl ?_
                          refine x_goto (pc := 1144) 23 d_W_law_1144 (by decide) ?_
                          refine x_weak [0, 1, 2, 3, 4] rfl ?_
                          exact ih _ _ _ _ _ _ h
                        · refine x_aload_n (pc := 525) d_W_law_525 rfl 3 rfl ?_
                          refine x_iconst (pc := 526) d_W_law_526 rfl ?_
                          refine h_laload (pc := 527) d_W_law_527 h fun t25 h => ?_
                          refine x_iload (pc := 528) d_W_law_528 6 rfl ?_
                          refine x_i2l (pc := 530) d_W_law_530 ?_
                          refine x_lcmp (pc := 531) d_W_law_531 ?_
                          refine h_if_eq (pc := 532) 537 d_W_law_532 (by decide) h (fun _ h => ?_) (fun _ h => ?_)
                          · refine x_goto (pc := 537) 1141 d_W_law_537 (by decide) ?_
                            refine x_iinc (pc := 1141) (n := 4) (L' := [(0, .ref v0), (1, .ref v1), (2, .ref v2), (3, .ref v3), (4, .int (v4 + 5)), (5, .int t18), (6, .int t21)]) d_W_law_1141 (by decide) rfl rfl ?_
                            refine x_goto (pc := 1144) 23 d_W_law_1144 (by decide) ?_
                            refine x_weak [0, 1, 2, 3, 4] rfl ?_
                            exact ih _ _ _ _ _ _ h
                          · refine x_iconst (pc := 535) d_W_law_535 rfl ?_
                            exact h_zreturn (pc := 536) d_W_law_536 rfl h
                      · refine x_iconst (pc := 518) d_W_law_518 rfl ?_
                        exact h_zreturn (pc := 519) d_W_law_519 rfl h
                    · refine h_case h (fun c8 h => ?_) (fun c8 h => ?_)
                      · refine x_tableIn (pc := 39) 540 d_W_law_39 (by rw [c8]; decide) (by rw [c8]; decide) (off := 501) (by rw [c8]; rfl) (by decide) ?_
                        refine x_aload_n (pc := 540) d_W_law_540 rfl 1 rfl ?_
                        refine x_aload_n (pc := 541) d_W_law_541 rfl 0 rfl ?_
                        refine x_iload (pc := 542) d_W_law_542 4 rfl ?_
                        refine x_iconst (pc := 544) d_W_law_544 rfl ?_
                        refine x_iadd (pc := 545) d_W_law_545 ?_
                        refine h_iaload (pc := 546) d_W_law_546 h fun t16 h => ?_
                        refine h_if_eq (pc := 547) 554 d_W_law_547 (by decide) h (fun _ h => ?_) (fun _ h => ?_)
                        · refine x_iconst (pc := 554) d_W_law_554 rfl ?_
                          refine x_weak [0, 1, 2, 3, 4] rfl ?_
                          exact p_W_law_555 G ih _ _ _ _ _ _ _ _ h
                        · refine x_iconst (pc := 550) d_W_law_550 rfl ?_
                          refine x_goto (pc := 551) 555 d_W_law_551 (by decide) ?_
                          refine x_weak [0, 1, 2, 3, 4] rfl ?_
                          exact p_W_law_555 G ih _ _ _ _ _ _ _ _ h
                      · refine h_case h (fun c9 h => ?_) (fun c9 h => ?_)
                        · refine x_tableIn (pc := 39) 624 d_W_law_39 (by rw [c9]; decide) (by rw [c9]; decide) (off := 585) (by rw [c9]; rfl) (by decide) ?_
                          refine x_aload_n (pc := 624) d_W_law_624 rfl 1 rfl ?_
                          refine x_aload_n (pc := 625) d_W_law_625 rfl 0 rfl ?_
                          refine x_iload (pc := 626) d_W_law_626 4 rfl ?_
                          refine x_iconst (pc := 628) d_W_law_628 rfl ?_
                          refine x_iadd (pc := 629) d_W_law_629 ?_
                          refine h_iaload (pc := 630) d_W_law_630 h fun t15 h => ?_
                          refine h_if_eq (pc := 631) 638 d_W_law_631 (by decide) h (fun _ h => ?_) (fun _ h => ?_)
                          · refine x_iconst (pc := 638) d_W_law_638 rfl ?_
                            refine x_weak [0, 1, 2, 3, 4] rfl ?_
                            exact p_W_law_639 G ih _ _ _ _ _ _ _ _ h
                          · refine x_iconst (pc := 634) d_W_law_634 rfl ?_
                            refine x_goto (pc := 635) 639 d_W_law_635 (by decide) ?_
                            refine x_weak [0, 1, 2, 3, 4] rfl ?_
                            exact p_W_law_639 G ih _ _ _ _ _ _ _ _ h
                        · refine h_case h (fun c10 h => ?_) (fun c10 h => ?_)
                          · refine x_tableIn (pc := 39) 708 d_W_law_39 (by rw [c10]; decide) (by rw [c10]; decide) (off := 669) (by rw [c10]; rfl) (by decide) ?_
                            refine x_aload_n (pc := 708) d_W_law_708 rfl 1 rfl ?_
                            refine x_aload_n (pc := 709) d_W_law_709 rfl 0 rfl ?_
                            refine x_iload (pc := 710) d_W_law_710 4 rfl ?_
                            refine x_iconst (pc := 712) d_W_law_712 rfl ?_
                            refine x_iadd (pc := 713) d_W_law_713 ?_
                            refine h_iaload (pc := 714) d_W_law_714 h fun t14 h => ?_
                            refine h_if_eq (pc := 715) 722 d_W_law_715 (by decide) h (fun _ h => ?_) (fun _ h => ?_)
                            · refine x_iconst (pc := 722) d_W_law_722 rfl ?_
                              refine x_weak [0, 1, 2, 3, 4] rfl ?_
                              exact p_W_law_723 G ih _ _ _ _ _ _ _ _ h
                            · refine x_iconst (pc := 718) d_W_law_718 rfl ?_
                              refine x_goto (pc := 719) 723 d_W_law_719 (by decide) ?_
                              refine x_weak [0, 1, 2, 3, 4] rfl ?_
                              exact p_W_law_723 G ih _ _ _ _ _ _ _ _ h
                          · refine h_case h (fun c11 h => ?_) (fun c11 h => ?_)
                            · refine x_tableIn (pc := 39) 816 d_W_law_39 (by rw [c11]; decide) (by rw [c11]; decide) (off := 777) (by rw [c11]; rfl) (by decide) ?_
                              refine x_aload_n (pc := 816) d_W_law_816 rfl 1 rfl ?_
                              refine x_aload_n (pc := 817) d_W_law_817 rfl 0 rfl ?_
                              refine x_iload (pc := 818) d_W_law_818 4 rfl ?_
                              refine x_iconst (pc := 820) d_W_law_820 rfl ?_
                              refine x_iadd (pc := 821) d_W_law_821 ?_
                              refine h_iaload (pc := 822) d_W_law_822 h fun t13 h => ?_
                              refine h_if_eq (pc := 823) 830 d_W_law_823 (by decide) h (fun _ h => ?_) (fun _ h => ?_)
                              · refine x_iconst (pc := 830) d_W_law_830 rfl ?_
                                refine x_weak [0, 1, 2, 3, 4] rfl ?_
                                exact p_W_law_831 G ih _ _ _ _ _ _ _ _ h
                              · refine x_iconst (pc := 826) d_W_law_826 rfl ?_
                                refine x_goto (pc := 827) 831 d_W_law_827 (by decide) ?_
                                refine x_weak [0, 1, 2, 3, 4] rfl ?_
                                exact p_W_law_831 G ih _ _ _ _ _ _ _ _ h
                            · refine h_case h (fun c12 h => ?_) (fun c12 h => ?_)
                              · refine x_tableIn (pc := 39) 912 d_W_law_39 (by rw [c12]; decide) (by rw [c12]; decide) (off := 873) (by rw [c12]; rfl) (by decide) ?_
                                refine x_aload_n (pc := 912) d_W_law_912 rfl 1 rfl ?_
                                refine x_aload_n (pc := 913) d_W_law_913 rfl 0 rfl ?_
                                refine x_iload (pc := 914) d_W_law_914 4 rfl ?_
                                refine x_iconst (pc := 916) d_W_law_916 rfl ?_
                                refine x_iadd (pc := 917) d_W_law_917 ?_
                                refine h_iaload (pc := 918) d_W_law_918 h fun t12 h => ?_
                                refine h_if_eq (pc := 919) 926 d_W_law_919 (by decide) h (fun _ h => ?_) (fun _ h => ?_)
                                · refine x_iconst (pc := 926) d_W_law_926 rfl ?_
                                  refine x_weak [0, 1, 2, 3, 4] rfl ?_
                                  exact p_W_law_927 G ih _ _ _ _ _ _ _ _ h
                                · refine x_iconst (pc := 922) d_W_law_922 rfl ?_
                                  refine x_goto (pc := 923) 927 d_W_law_923 (by decide) ?_
                                  refine x_weak [0, 1, 2, 3, 4] rfl ?_
                                  exact p_W_law_927 G ih _ _ _ _ _ _ _ _ h
                              · refine h_case h (fun c13 h => ?_) (fun c13 h => ?_)
                                · refine x_tableIn (pc := 39) 1008 d_W_law_39 (by rw [c13]; decide) (by rw [c13]; decide) (off := 969) (by rw [c13]; rfl) (by decide) ?_
                                  refine x_aload_n (pc := 1008) d_W_law_1008 rfl 1 rfl ?_
                                  refine x_aload_n (pc := 1009) d_W_law_1009 rfl 0 rfl ?_
                                  refine x_iload (pc := 1010) d_W_law_1010 4 rfl ?_
                                  refine x_iconst (pc := 1012) d_W_law_1012 rfl ?_
                                  refine x_iadd (pc := 1013) d_W_law_1013 ?_
                                  refine h_iaload (pc := 1014) d_W_law_1014 h fun t4 h => ?_
                                  obtain ⟨⟨ra5, ra5t⟩, h⟩ := h_ok h
                                  refine h_callI G (x_siteV G (pc := 1015) (y2 := y_S_moved) (As := [.int t4]) (S := []) (ci := 0) d_W_law_1015 rfl lm_W_119 mi_S_moved ms_S_moved mw_S_moved.1 mx_S_moved.1 mx_S_moved.2 rfl ra5 ra5t) mw_S_moved ⟨Nat.le_of_ble_eq_true rfl, Nat.le_of_ble_eq_true rfl⟩ rfl (fun _ _ e => p_S_moved G _ _ _ e) h fun t7 M6 h => ?_
                                  refine x_aload_n (pc := 1018) d_W_law_1018 rfl 2 rfl ?_
                                  refine x_aload_n (pc := 1019) d_W_law_1019 rfl 0 rfl ?_
                                  refine x_iload (pc := 1020) d_W_law_1020 4 rfl ?_
                                  refine x_iconst (pc := 1022) d_W_law_1022 rfl ?_
                                  refine x_iadd (pc := 1023) d_W_law_1023 ?_
                                  refine h_iaload (pc := 1024) d_W_law_1024 h fun t8 h => ?_
                                  obtain ⟨⟨ra9, ra9t⟩, h⟩ := h_ok h
                                  refine h_callI G (x_siteV G (pc := 1025) (y2 := y_R_moved) (As := [.int t8]) (S := [.int t7]) (ci := 7) d_W_law_1025 rfl lm_W_123 mi_R_moved ms_R_moved mw_R_moved.1 mx_R_moved.1 mx_R_moved.2 rfl ra9 ra9t) mw_R_moved ⟨Nat.le_of_ble_eq_true rfl, Nat.le_of_ble_eq_true rfl⟩ rfl (fun _ _ e => p_R_moved G _ _ _ e) h fun t11 M10 h => ?_
                                  refine h_icmp_eq (pc := 1028) 1141 d_W_law_1028 (by decide) h (fun _ h => ?_) (fun _ h => ?_)
                                  · refine x_iinc (pc := 1141) (n := 4) (L' := [(0, .ref v0), (1, .ref v1), (2, .ref v2), (3, .ref v3), (4, .int (v4 + 5))]) d_W_law_1141 (by decide) rfl rfl ?_
                                    refine x_goto (pc := 1144) 23 d_W_law_1144 (by decide) ?_
                                    refine x_weak [0, 1, 2, 3, 4] rfl ?_
                                    exact ih _ _ _ _ _ _ h
                                  · refine x_iconst (pc := 1031) d_W_law_1031 rfl ?_
                                    exact h_zreturn (pc := 1032) d_W_law_1032 rfl h
                                · refine h_case h (fun c14 h => ?_) (fun c14 h => ?_)
                                  · refine x_tableIn (pc := 39) 1033 d_W_law_39 (by rw [c14]; decide) (by rw [c14]; decide) (off := 994) (by rw [c14]; rfl) (by decide) ?_
                                    refine x_aload_n (pc := 1033) d_W_law_1033 rfl 1 rfl ?_
                                    refine x_aload_n (pc := 1034) d_W_law_1034 rfl 0 rfl ?_
                                    refine x_iload (pc := 1035) d_W_law_1035 4 rfl ?_
                                    refine x_iconst (pc := 1037) d_W_law_1037 rfl ?_
                                    refine x_iadd (pc := 1038) d_W_law_1038 ?_
                                    refine h_iaload (pc := 1039) d_W_law_1039 h fun t3 h => ?_
                                    refine h_if_eq (pc := 1040) 1047 d_W_law_1040 (by decide) h (fun _ h => ?_) (fun _ h => ?_)
                                    · refine x_iconst (pc := 1047) d_W_law_1047 rfl ?_
                                      refine x_weak [0, 1, 2, 3, 4] rfl ?_
                                      exact p_W_law_1048 G ih _ _ _ _ _ _ _ _ h
                                    · refine x_iconst (pc := 1043) d_W_law_1043 rfl ?_
                                      refine x_goto (pc := 1044) 1048 d_W_law_1044 (by decide) ?_
                                      refine x_weak [0, 1, 2, 3, 4] rfl ?_
                                      exact p_W_law_1048 G ih _ _ _ _ _ _ _ _ h
                                  · refine x_tableOut (pc := 39) 1141 d_W_law_39 (by have q0 := lv_neT (a := 0) c0 (by decide); have q1 := lv_neT (a := 1) c1 (by decide); have q2 := lv_neT (a := 2) c2 (by decide); have q3 := lv_neT (a := 3) c3 (by decide); have q4 := lv_neT (a := 4) c4 (by decide); have q5 := lv_neT (a := 5) c5 (by decide); have q6 := lv_neT (a := 6) c6 (by decide); have q7 := lv_neT (a := 7) c7 (by decide); have q8 := lv_neT (a := 8) c8 (by decide); have q9 := lv_neT (a := 9) c9 (by decide); have q10 := lv_neT (a := 10) c10 (by decide); have q11 := lv_neT (a := 11) c11 (by decide); have q12 := lv_neT (a := 12) c12 (by decide); have q13 := lv_neT (a := 13) c13 (by decide); have q14 := lv_neT (a := 14) c14 (by decide); omega) (by decide) ?_
                                    refine x_iinc (pc := 1141) (n := 4) (L' := [(0, .ref v0), (1, .ref v1), (2, .ref v2), (3, .ref v3), (4, .int (v4 + 5))]) d_W_law_1141 (by decide) rfl rfl ?_
                                    refine x_goto (pc := 1144) 23 d_W_law_1144 (by decide) ?_
                                    refine x_weak [0, 1, 2, 3, 4] rfl ?_
                                    exact ih _ _ _ _ _ _ h
theorem p_W_law (G : xG K) (v0 : Nat) (M : XM) (h : g_W_law v0 M = some (o, N)) : cA K y_W_law 0 [(0, .ref v0)] [] M o N := by
  unfold g_W_law at h
  refine h_new G (pc := 0) (ci := 0) d_W_law_0 rfl rfl lc_W_8 li_S h fun t1 M2 h => ?_
  refine x_dup (pc := 3) d_W_law_3 rfl ?_
  refine h_callV G (x_siteI G (pc := 4) (y2 := y_S_init) (As := []) (S := [.ref t1]) d_W_law_4 rfl lm_W_62 mi_S_init mw_S_init.1 mx_S_init.1 mx_S_init.2 rfl) mw_S_init ⟨Nat.le_of_ble_eq_true rfl, Nat.le_of_ble_eq_true rfl⟩ rfl (fun _ _ e => p_S_init G _ _ e) h fun M3 h => ?_
  refine x_astore_n (pc := 7) (L' := [(0, .ref v0), (1, .ref t1)]) d_W_law_7 rfl (by decide) rfl ?_
  refine h_new G (pc := 8) (ci := 7) d_W_law_8 rfl rfl lc_W_63 li_R h fun t4 M5 h => ?_
  refine x_dup (pc := 11) d_W_law_11 rfl ?_
  refine h_callV G (x_siteI G (pc := 12) (y2 := y_R_init) (As := []) (S := [.ref t4]) d_W_law_12 rfl lm_W_65 mi_R_init mw_R_init.1 mx_R_init.1 mx_R_init.2 rfl) mw_R_init ⟨Nat.le_of_ble_eq_true rfl, Nat.le_of_ble_eq_true rfl⟩ rfl (fun _ _ e => p_R_init G _ _ e) h fun M6 h => ?_
  refine x_astore_n (pc := 15) (L' := [(0, .ref v0), (1, .ref t1), (2, .ref t4)]) d_W_law_15 rfl (by decide) rfl ?_
  refine x_iconst (pc := 16) d_W_law_16 rfl ?_
  refine h_newarray G (pc := 17) (kd := 2) (ty := .long) d_W_law_17 rfl la_long rfl (by decide) (by decide) h fun t7 M8 h => ?_
  refine x_astore_n (pc := 19) (L' := [(0, .ref v0), (1, .ref t1), (2, .ref t4), (3, .ref t7)]) d_W_law_19 rfl (by decide) rfl ?_
  refine x_iconst (pc := 20) d_W_law_20 rfl ?_
  refine x_istore (pc := 21) (L' := [(0, .ref v0), (1, .ref t1), (2, .ref t4), (3, .ref t7), (4, .int 0)]) d_W_law_21 (by decide) rfl ?_
  refine x_weak [0, 1, 2, 3, 4] rfl ?_
  exact p_W_law_23 G FU _ _ _ _ _ _ h
end XG
