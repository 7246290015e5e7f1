/-! the law: its cases, its loop, its start -/
theorem dW_0 : decode code 0 = .ok (.new 8, 3) := by decide +kernel
theorem dW_3 : decode code 3 = .ok (.dup, 1) := by decide +kernel
theorem dW_4 : decode code 4 = .ok (.invokespecial 85, 3) := by decide +kernel
theorem dW_7 : decode code 7 = .ok (.astore_n 1, 1) := by decide +kernel
theorem dW_8 : decode code 8 = .ok (.new 86, 3) := by decide +kernel
theorem dW_11 : decode code 11 = .ok (.dup, 1) := by decide +kernel
theorem dW_12 : decode code 12 = .ok (.invokespecial 88, 3) := by decide +kernel
theorem dW_15 : decode code 15 = .ok (.astore_n 2, 1) := by decide +kernel
theorem dW_16 : decode code 16 = .ok (.iconst 1, 1) := by decide +kernel
theorem dW_17 : decode code 17 = .ok (.newarray .long, 2) := by decide +kernel
theorem dW_19 : decode code 19 = .ok (.astore_n 3, 1) := by decide +kernel
theorem dW_20 : decode code 20 = .ok (.iconst 0, 1) := by decide +kernel
theorem dW_21 : decode code 21 = .ok (.istore 4, 2) := by decide +kernel
theorem dW_23 : decode code 23 = .ok (.iload 4, 2) := by decide +kernel
theorem dW_25 : decode code 25 = .ok (.aload_n 0, 1) := by decide +kernel
theorem dW_26 : decode code 26 = .ok (.arraylength, 1) := by decide +kernel
theorem dW_27 : decode code 27 = .ok (.bipush (6), 2) := by decide +kernel
theorem dW_29 : decode code 29 = .ok (.isub, 1) := by decide +kernel
theorem dW_30 : decode code 30 = .ok (.if_icmp .gt (1491), 3) := by decide +kernel
theorem dW_33 : decode code 33 = .ok (.aload_n 0, 1) := by decide +kernel
theorem dW_34 : decode code 34 = .ok (.iload 4, 2) := by decide +kernel
theorem dW_36 : decode code 36 = .ok (.iaload, 1) := by decide +kernel
theorem dW_37 : decode code 37 = .ok (.bipush (31), 2) := by decide +kernel
theorem dW_39 : decode code 39 = .ok (.iand, 1) := by decide +kernel
theorem dW_40 : decode code 40 = .ok (.tableswitch (1475) (0) (19) #[96, 140, 244, 304, 424, 475, 531, 646, 730, 829, 921, 1012, 1080, 1131, 1182, 1250, 1330, 1374, 1437, 1450], 96) := by decide +kernel
theorem dW_136 : decode code 136 = .ok (.aload_n 1, 1) := by decide +kernel
theorem dW_137 : decode code 137 = .ok (.aload_n 3, 1) := by decide +kernel
theorem dW_138 : decode code 138 = .ok (.invokestatic 89, 3) := by decide +kernel
theorem dW_141 : decode code 141 = .ok (.istore 5, 2) := by decide +kernel
theorem dW_143 : decode code 143 = .ok (.aload_n 2, 1) := by decide +kernel
theorem dW_144 : decode code 144 = .ok (.invokevirtual 94, 3) := by decide +kernel
theorem dW_147 : decode code 147 = .ok (.istore 6, 2) := by decide +kernel
theorem dW_149 : decode code 149 = .ok (.aload_n 2, 1) := by decide +kernel
theorem dW_150 : decode code 150 = .ok (.invokevirtual 95, 3) := by decide +kernel
theorem dW_153 : decode code 153 = .ok (.iload 5, 2) := by decide +kernel
theorem dW_155 : decode code 155 = .ok (.if_icmp .eq (5), 3) := by decide +kernel
theorem dW_158 : decode code 158 = .ok (.iconst 0, 1) := by decide +kernel
theorem dW_159 : decode code 159 = .ok (.ireturn, 1) := by decide +kernel
theorem dW_160 : decode code 160 = .ok (.iload 5, 2) := by decide +kernel
theorem dW_162 : decode code 162 = .ok (.ifCond .ne (15), 3) := by decide +kernel
theorem dW_165 : decode code 165 = .ok (.aload_n 3, 1) := by decide +kernel
theorem dW_166 : decode code 166 = .ok (.iconst 0, 1) := by decide +kernel
theorem dW_167 : decode code 167 = .ok (.laload, 1) := by decide +kernel
theorem dW_168 : decode code 168 = .ok (.iload 6, 2) := by decide +kernel
theorem dW_170 : decode code 170 = .ok (.i2l, 1) := by decide +kernel
theorem dW_171 : decode code 171 = .ok (.lcmp, 1) := by decide +kernel
theorem dW_172 : decode code 172 = .ok (.ifCond .eq (5), 3) := by decide +kernel
theorem dW_175 : decode code 175 = .ok (.iconst 0, 1) := by decide +kernel
theorem dW_176 : decode code 176 = .ok (.ireturn, 1) := by decide +kernel
theorem dW_177 : decode code 177 = .ok (.goto (1338), 3) := by decide +kernel
theorem dW_180 : decode code 180 = .ok (.aload_n 1, 1) := by decide +kernel
theorem dW_181 : decode code 181 = .ok (.aload_n 0, 1) := by decide +kernel
theorem dW_182 : decode code 182 = .ok (.iload 4, 2) := by decide +kernel
theorem dW_184 : decode code 184 = .ok (.iconst 1, 1) := by decide +kernel
theorem dW_185 : decode code 185 = .ok (.iadd, 1) := by decide +kernel
theorem dW_186 : decode code 186 = .ok (.iaload, 1) := by decide +kernel
theorem dW_187 : decode code 187 = .ok (.aload_n 0, 1) := by decide +kernel
theorem dW_188 : decode code 188 = .ok (.iload 4, 2) := by decide +kernel
theorem dW_190 : decode code 190 = .ok (.iconst 2, 1) := by decide +kernel
theorem dW_191 : decode code 191 = .ok (.iadd, 1) := by decide +kernel
theorem dW_192 : decode code 192 = .ok (.iaload, 1) := by decide +kernel
theorem dW_193 : decode code 193 = .ok (.aload_n 0, 1) := by decide +kernel
theorem dW_194 : decode code 194 = .ok (.iload 4, 2) := by decide +kernel
theorem dW_196 : decode code 196 = .ok (.iconst 3, 1) := by decide +kernel
theorem dW_197 : decode code 197 = .ok (.iadd, 1) := by decide +kernel
theorem dW_198 : decode code 198 = .ok (.iaload, 1) := by decide +kernel
theorem dW_199 : decode code 199 = .ok (.aload_n 0, 1) := by decide +kernel
theorem dW_200 : decode code 200 = .ok (.iload 4, 2) := by decide +kernel
theorem dW_202 : decode code 202 = .ok (.iconst 4, 1) := by decide +kernel
theorem dW_203 : decode code 203 = .ok (.iadd, 1) := by decide +kernel
theorem dW_204 : decode code 204 = .ok (.iaload, 1) := by decide +kernel
theorem dW_205 : decode code 205 = .ok (.aload_n 0, 1) := by decide +kernel
theorem dW_206 : decode code 206 = .ok (.iload 4, 2) := by decide +kernel
theorem dW_208 : decode code 208 = .ok (.iconst 5, 1) := by decide +kernel
theorem dW_209 : decode code 209 = .ok (.iadd, 1) := by decide +kernel
theorem dW_210 : decode code 210 = .ok (.iaload, 1) := by decide +kernel
theorem dW_211 : decode code 211 = .ok (.aload_n 3, 1) := by decide +kernel
theorem dW_212 : decode code 212 = .ok (.invokestatic 98, 3) := by decide +kernel
theorem dW_215 : decode code 215 = .ok (.istore 5, 2) := by decide +kernel
theorem dW_217 : decode code 217 = .ok (.aload_n 2, 1) := by decide +kernel
theorem dW_218 : decode code 218 = .ok (.aload_n 0, 1) := by decide +kernel
theorem dW_219 : decode code 219 = .ok (.iload 4, 2) := by decide +kernel
theorem dW_221 : decode code 221 = .ok (.iconst 1, 1) := by decide +kernel
theorem dW_222 : decode code 222 = .ok (.iadd, 1) := by decide +kernel
theorem dW_223 : decode code 223 = .ok (.iaload, 1) := by decide +kernel
theorem dW_224 : decode code 224 = .ok (.aload_n 0, 1) := by decide +kernel
theorem dW_225 : decode code 225 = .ok (.iload 4, 2) := by decide +kernel
theorem dW_227 : decode code 227 = .ok (.iconst 2, 1) := by decide +kernel
theorem dW_228 : decode code 228 = .ok (.iadd, 1) := by decide +kernel
theorem dW_229 : decode code 229 = .ok (.iaload, 1) := by decide +kernel
theorem dW_230 : decode code 230 = .ok (.aload_n 0, 1) := by decide +kernel
theorem dW_231 : decode code 231 = .ok (.iload 4, 2) := by decide +kernel
theorem dW_233 : decode code 233 = .ok (.iconst 3, 1) := by decide +kernel
theorem dW_234 : decode code 234 = .ok (.iadd, 1) := by decide +kernel
theorem dW_235 : decode code 235 = .ok (.iaload, 1) := by decide +kernel
theorem dW_236 : decode code 236 = .ok (.aload_n 0, 1) := by decide +kernel
theorem dW_237 : decode code 237 = .ok (.iload 4, 2) := by decide +kernel
theorem dW_239 : decode code 239 = .ok (.iconst 4, 1) := by decide +kernel
theorem dW_240 : decode code 240 = .ok (.iadd, 1) := by decide +kernel
theorem dW_241 : decode code 241 = .ok (.iaload, 1) := by decide +kernel
theorem dW_242 : decode code 242 = .ok (.aload_n 0, 1) := by decide +kernel
theorem dW_243 : decode code 243 = .ok (.iload 4, 2) := by decide +kernel
theorem dW_245 : decode code 245 = .ok (.iconst 5, 1) := by decide +kernel
theorem dW_246 : decode code 246 = .ok (.iadd, 1) := by decide +kernel
theorem dW_247 : decode code 247 = .ok (.iaload, 1) := by decide +kernel
theorem dW_248 : decode code 248 = .ok (.invokevirtual 101, 3) := by decide +kernel
theorem dW_251 : decode code 251 = .ok (.istore 6, 2) := by decide +kernel
theorem dW_253 : decode code 253 = .ok (.aload_n 2, 1) := by decide +kernel
theorem dW_254 : decode code 254 = .ok (.invokevirtual 95, 3) := by decide +kernel
theorem dW_257 : decode code 257 = .ok (.iload 5, 2) := by decide +kernel
theorem dW_259 : decode code 259 = .ok (.if_icmp .eq (5), 3) := by decide +kernel
theorem dW_262 : decode code 262 = .ok (.iconst 0, 1) := by decide +kernel
theorem dW_263 : decode code 263 = .ok (.ireturn, 1) := by decide +kernel
theorem dW_264 : decode code 264 = .ok (.iload 5, 2) := by decide +kernel
theorem dW_266 : decode code 266 = .ok (.ifCond .ne (15), 3) := by decide +kernel
theorem dW_269 : decode code 269 = .ok (.aload_n 3, 1) := by decide +kernel
theorem dW_270 : decode code 270 = .ok (.iconst 0, 1) := by decide +kernel
theorem dW_271 : decode code 271 = .ok (.laload, 1) := by decide +kernel
theorem dW_272 : decode code 272 = .ok (.iload 6, 2) := by decide +kernel
theorem dW_274 : decode code 274 = .ok (.i2l, 1) := by decide +kernel
theorem dW_275 : decode code 275 = .ok (.lcmp, 1) := by decide +kernel
theorem dW_276 : decode code 276 = .ok (.ifCond .eq (5), 3) := by decide +kernel
theorem dW_279 : decode code 279 = .ok (.iconst 0, 1) := by decide +kernel
theorem dW_280 : decode code 280 = .ok (.ireturn, 1) := by decide +kernel
theorem dW_281 : decode code 281 = .ok (.goto (1234), 3) := by decide +kernel
theorem dW_284 : decode code 284 = .ok (.aload_n 1, 1) := by decide +kernel
theorem dW_285 : decode code 285 = .ok (.aload_n 0, 1) := by decide +kernel
theorem dW_286 : decode code 286 = .ok (.iload 4, 2) := by decide +kernel
theorem dW_288 : decode code 288 = .ok (.iconst 1, 1) := by decide +kernel
theorem dW_289 : decode code 289 = .ok (.iadd, 1) := by decide +kernel
theorem dW_290 : decode code 290 = .ok (.iaload, 1) := by decide +kernel
theorem dW_291 : decode code 291 = .ok (.aload_n 0, 1) := by decide +kernel
theorem dW_292 : decode code 292 = .ok (.iload 4, 2) := by decide +kernel
theorem dW_294 : decode code 294 = .ok (.iconst 2, 1) := by decide +kernel
theorem dW_295 : decode code 295 = .ok (.iadd, 1) := by decide +kernel
theorem dW_296 : decode code 296 = .ok (.iaload, 1) := by decide +kernel
theorem dW_297 : decode code 297 = .ok (.aload_n 0, 1) := by decide +kernel
theorem dW_298 : decode code 298 = .ok (.iload 4, 2) := by decide +kernel
theorem dW_300 : decode code 300 = .ok (.iconst 3, 1) := by decide +kernel
theorem dW_301 : decode code 301 = .ok (.iadd, 1) := by decide +kernel
theorem dW_302 : decode code 302 = .ok (.iaload, 1) := by decide +kernel
theorem dW_303 : decode code 303 = .ok (.invokestatic 102, 3) := by decide +kernel
theorem dW_306 : decode code 306 = .ok (.istore 5, 2) := by decide +kernel
theorem dW_308 : decode code 308 = .ok (.aload_n 2, 1) := by decide +kernel
theorem dW_309 : decode code 309 = .ok (.aload_n 0, 1) := by decide +kernel
theorem dW_310 : decode code 310 = .ok (.iload 4, 2) := by decide +kernel
theorem dW_312 : decode code 312 = .ok (.iconst 1, 1) := by decide +kernel
theorem dW_313 : decode code 313 = .ok (.iadd, 1) := by decide +kernel
theorem dW_314 : decode code 314 = .ok (.iaload, 1) := by decide +kernel
theorem dW_315 : decode code 315 = .ok (.aload_n 0, 1) := by decide +kernel
theorem dW_316 : decode code 316 = .ok (.iload 4, 2) := by decide +kernel
theorem dW_318 : decode code 318 = .ok (.iconst 2, 1) := by decide +kernel
theorem dW_319 : decode code 319 = .ok (.iadd, 1) := by decide +kernel
theorem dW_320 : decode code 320 = .ok (.iaload, 1) := by decide +kernel
theorem dW_321 : decode code 321 = .ok (.aload_n 0, 1) := by decide +kernel
theorem dW_322 : decode code 322 = .ok (.iload 4, 2) := by decide +kernel
theorem dW_324 : decode code 324 = .ok (.iconst 3, 1) := by decide +kernel
theorem dW_325 : decode code 325 = .ok (.iadd, 1) := by decide +kernel
theorem dW_326 : decode code 326 = .ok (.iaload, 1) := by decide +kernel
theorem dW_327 : decode code 327 = .ok (.invokevirtual 105, 3) := by decide +kernel
theorem dW_330 : decode code 330 = .ok (.aload_n 2, 1) := by decide +kernel
theorem dW_331 : decode code 331 = .ok (.invokevirtual 95, 3) := by decide +kernel
theorem dW_334 : decode code 334 = .ok (.iload 5, 2) := by decide +kernel
theorem dW_336 : decode code 336 = .ok (.if_icmp .eq (5), 3) := by decide +kernel
theorem dW_339 : decode code 339 = .ok (.iconst 0, 1) := by decide +kernel
theorem dW_340 : decode code 340 = .ok (.ireturn, 1) := by decide +kernel
theorem dW_341 : decode code 341 = .ok (.goto (1174), 3) := by decide +kernel
theorem dW_344 : decode code 344 = .ok (.aload_n 1, 1) := by decide +kernel
theorem dW_345 : decode code 345 = .ok (.aload_n 0, 1) := by decide +kernel
theorem dW_346 : decode code 346 = .ok (.iload 4, 2) := by decide +kernel
theorem dW_348 : decode code 348 = .ok (.iconst 1, 1) := by decide +kernel
theorem dW_349 : decode code 349 = .ok (.iadd, 1) := by decide +kernel
theorem dW_350 : decode code 350 = .ok (.iaload, 1) := by decide +kernel
theorem dW_351 : decode code 351 = .ok (.aload_n 0, 1) := by decide +kernel
theorem dW_352 : decode code 352 = .ok (.iload 4, 2) := by decide +kernel
theorem dW_354 : decode code 354 = .ok (.iconst 2, 1) := by decide +kernel
theorem dW_355 : decode code 355 = .ok (.iadd, 1) := by decide +kernel
theorem dW_356 : decode code 356 = .ok (.iaload, 1) := by decide +kernel
theorem dW_357 : decode code 357 = .ok (.aload_n 0, 1) := by decide +kernel
theorem dW_358 : decode code 358 = .ok (.iload 4, 2) := by decide +kernel
theorem dW_360 : decode code 360 = .ok (.iconst 3, 1) := by decide +kernel
theorem dW_361 : decode code 361 = .ok (.iadd, 1) := by decide +kernel
theorem dW_362 : decode code 362 = .ok (.iaload, 1) := by decide +kernel
theorem dW_363 : decode code 363 = .ok (.aload_n 0, 1) := by decide +kernel
theorem dW_364 : decode code 364 = .ok (.iload 4, 2) := by decide +kernel
theorem dW_366 : decode code 366 = .ok (.iconst 4, 1) := by decide +kernel
theorem dW_367 : decode code 367 = .ok (.iadd, 1) := by decide +kernel
theorem dW_368 : decode code 368 = .ok (.iaload, 1) := by decide +kernel
theorem dW_369 : decode code 369 = .ok (.aload_n 0, 1) := by decide +kernel
theorem dW_370 : decode code 370 = .ok (.iload 4, 2) := by decide +kernel
theorem dW_372 : decode code 372 = .ok (.iconst 5, 1) := by decide +kernel
theorem dW_373 : decode code 373 = .ok (.iadd, 1) := by decide +kernel
theorem dW_374 : decode code 374 = .ok (.iaload, 1) := by decide +kernel
theorem dW_375 : decode code 375 = .ok (.ifCond .eq (7), 3) := by decide +kernel
theorem dW_378 : decode code 378 = .ok (.iconst 1, 1) := by decide +kernel
theorem dW_379 : decode code 379 = .ok (.goto (4), 3) := by decide +kernel
theorem dW_382 : decode code 382 = .ok (.iconst 0, 1) := by decide +kernel
theorem dW_383 : decode code 383 = .ok (.aload_n 3, 1) := by decide +kernel
theorem dW_384 : decode code 384 = .ok (.invokestatic 106, 3) := by decide +kernel
theorem dW_387 : decode code 387 = .ok (.istore 5, 2) := by decide +kernel
theorem dW_389 : decode code 389 = .ok (.aload_n 2, 1) := by decide +kernel
theorem dW_390 : decode code 390 = .ok (.aload_n 0, 1) := by decide +kernel
theorem dW_391 : decode code 391 = .ok (.iload 4, 2) := by decide +kernel
theorem dW_393 : decode code 393 = .ok (.iconst 1, 1) := by decide +kernel
theorem dW_394 : decode code 394 = .ok (.iadd, 1) := by decide +kernel
theorem dW_395 : decode code 395 = .ok (.iaload, 1) := by decide +kernel
theorem dW_396 : decode code 396 = .ok (.aload_n 0, 1) := by decide +kernel
theorem dW_397 : decode code 397 = .ok (.iload 4, 2) := by decide +kernel
theorem dW_399 : decode code 399 = .ok (.iconst 2, 1) := by decide +kernel
theorem dW_400 : decode code 400 = .ok (.iadd, 1) := by decide +kernel
theorem dW_401 : decode code 401 = .ok (.iaload, 1) := by decide +kernel
theorem dW_402 : decode code 402 = .ok (.aload_n 0, 1) := by decide +kernel
theorem dW_403 : decode code 403 = .ok (.iload 4, 2) := by decide +kernel
theorem dW_405 : decode code 405 = .ok (.iconst 3, 1) := by decide +kernel
theorem dW_406 : decode code 406 = .ok (.iadd, 1) := by decide +kernel
theorem dW_407 : decode code 407 = .ok (.iaload, 1) := by decide +kernel
theorem dW_408 : decode code 408 = .ok (.aload_n 0, 1) := by decide +kernel
theorem dW_409 : decode code 409 = .ok (.iload 4, 2) := by decide +kernel
theorem dW_411 : decode code 411 = .ok (.iconst 4, 1) := by decide +kernel
theorem dW_412 : decode code 412 = .ok (.iadd, 1) := by decide +kernel
theorem dW_413 : decode code 413 = .ok (.iaload, 1) := by decide +kernel
theorem dW_414 : decode code 414 = .ok (.aload_n 0, 1) := by decide +kernel
theorem dW_415 : decode code 415 = .ok (.iload 4, 2) := by decide +kernel
theorem dW_417 : decode code 417 = .ok (.iconst 5, 1) := by decide +kernel
theorem dW_418 : decode code 418 = .ok (.iadd, 1) := by decide +kernel
theorem dW_419 : decode code 419 = .ok (.iaload, 1) := by decide +kernel
theorem dW_420 : decode code 420 = .ok (.ifCond .eq (7), 3) := by decide +kernel
theorem dW_423 : decode code 423 = .ok (.iconst 1, 1) := by decide +kernel
theorem dW_424 : decode code 424 = .ok (.goto (4), 3) := by decide +kernel
theorem dW_427 : decode code 427 = .ok (.iconst 0, 1) := by decide +kernel
theorem dW_428 : decode code 428 = .ok (.invokevirtual 109, 3) := by decide +kernel
theorem dW_431 : decode code 431 = .ok (.istore 6, 2) := by decide +kernel
theorem dW_433 : decode code 433 = .ok (.aload_n 2, 1) := by decide +kernel
theorem dW_434 : decode code 434 = .ok (.invokevirtual 95, 3) := by decide +kernel
theorem dW_437 : decode code 437 = .ok (.iload 5, 2) := by decide +kernel
theorem dW_439 : decode code 439 = .ok (.if_icmp .eq (5), 3) := by decide +kernel
theorem dW_442 : decode code 442 = .ok (.iconst 0, 1) := by decide +kernel
theorem dW_443 : decode code 443 = .ok (.ireturn, 1) := by decide +kernel
theorem dW_444 : decode code 444 = .ok (.iload 5, 2) := by decide +kernel
theorem dW_446 : decode code 446 = .ok (.ifCond .ne (15), 3) := by decide +kernel
theorem dW_449 : decode code 449 = .ok (.aload_n 3, 1) := by decide +kernel
theorem dW_450 : decode code 450 = .ok (.iconst 0, 1) := by decide +kernel
theorem dW_451 : decode code 451 = .ok (.laload, 1) := by decide +kernel
theorem dW_452 : decode code 452 = .ok (.iload 6, 2) := by decide +kernel
theorem dW_454 : decode code 454 = .ok (.i2l, 1) := by decide +kernel
theorem dW_455 : decode code 455 = .ok (.lcmp, 1) := by decide +kernel
theorem dW_456 : decode code 456 = .ok (.ifCond .eq (5), 3) := by decide +kernel
theorem dW_459 : decode code 459 = .ok (.iconst 0, 1) := by decide +kernel
theorem dW_460 : decode code 460 = .ok (.ireturn, 1) := by decide +kernel
theorem dW_461 : decode code 461 = .ok (.goto (1054), 3) := by decide +kernel
theorem dW_464 : decode code 464 = .ok (.aload_n 1, 1) := by decide +kernel
theorem dW_465 : decode code 465 = .ok (.aload_n 3, 1) := by decide +kernel
theorem dW_466 : decode code 466 = .ok (.invokestatic 110, 3) := by decide +kernel
theorem dW_469 : decode code 469 = .ok (.istore 5, 2) := by decide +kernel
theorem dW_471 : decode code 471 = .ok (.aload_n 2, 1) := by decide +kernel
theorem dW_472 : decode code 472 = .ok (.invokevirtual 112, 3) := by decide +kernel
theorem dW_475 : decode code 475 = .ok (.istore 6, 2) := by decide +kernel
theorem dW_477 : decode code 477 = .ok (.aload_n 2, 1) := by decide +kernel
theorem dW_478 : decode code 478 = .ok (.invokevirtual 95, 3) := by decide +kernel
theorem dW_481 : decode code 481 = .ok (.iload 5, 2) := by decide +kernel
theorem dW_483 : decode code 483 = .ok (.if_icmp .eq (5), 3) := by decide +kernel
theorem dW_486 : decode code 486 = .ok (.iconst 0, 1) := by decide +kernel
theorem dW_487 : decode code 487 = .ok (.ireturn, 1) := by decide +kernel
theorem dW_488 : decode code 488 = .ok (.iload 5, 2) := by decide +kernel
theorem dW_490 : decode code 490 = .ok (.ifCond .ne (22), 3) := by decide +kernel
theorem dW_493 : decode code 493 = .ok (.aload_n 3, 1) := by decide +kernel
theorem dW_494 : decode code 494 = .ok (.iconst 0, 1) := by decide +kernel
theorem dW_495 : decode code 495 = .ok (.laload, 1) := by decide +kernel
theorem dW_496 : decode code 496 = .ok (.iload 6, 2) := by decide +kernel
theorem dW_498 : decode code 498 = .ok (.ifCond .eq (7), 3) := by decide +kernel
theorem dW_501 : decode code 501 = .ok (.lconst 1, 1) := by decide +kernel
theorem dW_502 : decode code 502 = .ok (.goto (4), 3) := by decide +kernel
theorem dW_505 : decode code 505 = .ok (.lconst 0, 1) := by decide +kernel
theorem dW_506 : decode code 506 = .ok (.lcmp, 1) := by decide +kernel
theorem dW_507 : decode code 507 = .ok (.ifCond .eq (5), 3) := by decide +kernel
theorem dW_510 : decode code 510 = .ok (.iconst 0, 1) := by decide +kernel
theorem dW_511 : decode code 511 = .ok (.ireturn, 1) := by decide +kernel
theorem dW_512 : decode code 512 = .ok (.goto (1003), 3) := by decide +kernel
theorem dW_515 : decode code 515 = .ok (.aload_n 1, 1) := by decide +kernel
theorem dW_516 : decode code 516 = .ok (.aload_n 0, 1) := by decide +kernel
theorem dW_517 : decode code 517 = .ok (.iload 4, 2) := by decide +kernel
theorem dW_519 : decode code 519 = .ok (.iconst 1, 1) := by decide +kernel
theorem dW_520 : decode code 520 = .ok (.iadd, 1) := by decide +kernel
theorem dW_521 : decode code 521 = .ok (.iaload, 1) := by decide +kernel
theorem dW_522 : decode code 522 = .ok (.aload_n 3, 1) := by decide +kernel
theorem dW_523 : decode code 523 = .ok (.invokestatic 113, 3) := by decide +kernel
theorem dW_526 : decode code 526 = .ok (.istore 5, 2) := by decide +kernel
theorem dW_528 : decode code 528 = .ok (.aload_n 2, 1) := by decide +kernel
theorem dW_529 : decode code 529 = .ok (.aload_n 0, 1) := by decide +kernel
theorem dW_530 : decode code 530 = .ok (.iload 4, 2) := by decide +kernel
theorem dW_532 : decode code 532 = .ok (.iconst 1, 1) := by decide +kernel
theorem dW_533 : decode code 533 = .ok (.iadd, 1) := by decide +kernel
theorem dW_534 : decode code 534 = .ok (.iaload, 1) := by decide +kernel
theorem dW_535 : decode code 535 = .ok (.invokevirtual 116, 3) := by decide +kernel
theorem dW_538 : decode code 538 = .ok (.istore 6, 2) := by decide +kernel
theorem dW_540 : decode code 540 = .ok (.aload_n 2, 1) := by decide +kernel
theorem dW_541 : decode code 541 = .ok (.invokevirtual 95, 3) := by decide +kernel
theorem dW_544 : decode code 544 = .ok (.iload 5, 2) := by decide +kernel
theorem dW_546 : decode code 546 = .ok (.if_icmp .eq (5), 3) := by decide +kernel
theorem dW_549 : decode code 549 = .ok (.iconst 0, 1) := by decide +kernel
theorem dW_550 : decode code 550 = .ok (.ireturn, 1) := by decide +kernel
theorem dW_551 : decode code 551 = .ok (.iload 5, 2) := by decide +kernel
theorem dW_553 : decode code 553 = .ok (.ifCond .ne (15), 3) := by decide +kernel
theorem dW_556 : decode code 556 = .ok (.aload_n 3, 1) := by decide +kernel
theorem dW_557 : decode code 557 = .ok (.iconst 0, 1) := by decide +kernel
theorem dW_558 : decode code 558 = .ok (.laload, 1) := by decide +kernel
theorem dW_559 : decode code 559 = .ok (.iload 6, 2) := by decide +kernel
theorem dW_561 : decode code 561 = .ok (.i2l, 1) := by decide +kernel
theorem dW_562 : decode code 562 = .ok (.lcmp, 1) := by decide +kernel
theorem dW_563 : decode code 563 = .ok (.ifCond .eq (5), 3) := by decide +kernel
theorem dW_566 : decode code 566 = .ok (.iconst 0, 1) := by decide +kernel
theorem dW_567 : decode code 567 = .ok (.ireturn, 1) := by decide +kernel
theorem dW_568 : decode code 568 = .ok (.goto (947), 3) := by decide +kernel
theorem dW_571 : decode code 571 = .ok (.aload_n 1, 1) := by decide +kernel
theorem dW_572 : decode code 572 = .ok (.aload_n 0, 1) := by decide +kernel
theorem dW_573 : decode code 573 = .ok (.iload 4, 2) := by decide +kernel
theorem dW_575 : decode code 575 = .ok (.iconst 1, 1) := by decide +kernel
theorem dW_576 : decode code 576 = .ok (.iadd, 1) := by decide +kernel
theorem dW_577 : decode code 577 = .ok (.iaload, 1) := by decide +kernel
theorem dW_578 : decode code 578 = .ok (.aload_n 0, 1) := by decide +kernel
theorem dW_579 : decode code 579 = .ok (.iload 4, 2) := by decide +kernel
theorem dW_581 : decode code 581 = .ok (.iconst 2, 1) := by decide +kernel
theorem dW_582 : decode code 582 = .ok (.iadd, 1) := by decide +kernel
theorem dW_583 : decode code 583 = .ok (.iaload, 1) := by decide +kernel
theorem dW_584 : decode code 584 = .ok (.aload_n 0, 1) := by decide +kernel
theorem dW_585 : decode code 585 = .ok (.iload 4, 2) := by decide +kernel
theorem dW_587 : decode code 587 = .ok (.iconst 3, 1) := by decide +kernel
theorem dW_588 : decode code 588 = .ok (.iadd, 1) := by decide +kernel
theorem dW_589 : decode code 589 = .ok (.iaload, 1) := by decide +kernel
theorem dW_590 : decode code 590 = .ok (.aload_n 0, 1) := by decide +kernel
theorem dW_591 : decode code 591 = .ok (.iload 4, 2) := by decide +kernel
theorem dW_593 : decode code 593 = .ok (.iconst 4, 1) := by decide +kernel
theorem dW_594 : decode code 594 = .ok (.iadd, 1) := by decide +kernel
theorem dW_595 : decode code 595 = .ok (.iaload, 1) := by decide +kernel
theorem dW_596 : decode code 596 = .ok (.ifCond .eq (7), 3) := by decide +kernel
theorem dW_599 : decode code 599 = .ok (.iconst 1, 1) := by decide +kernel
theorem dW_600 : decode code 600 = .ok (.goto (4), 3) := by decide +kernel
theorem dW_603 : decode code 603 = .ok (.iconst 0, 1) := by decide +kernel
theorem dW_604 : decode code 604 = .ok (.aload_n 3, 1) := by decide +kernel
theorem dW_605 : decode code 605 = .ok (.invokestatic 117, 3) := by decide +kernel
theorem dW_608 : decode code 608 = .ok (.istore 5, 2) := by decide +kernel
theorem dW_610 : decode code 610 = .ok (.aload_n 2, 1) := by decide +kernel
theorem dW_611 : decode code 611 = .ok (.aload_n 0, 1) := by decide +kernel
theorem dW_612 : decode code 612 = .ok (.iload 4, 2) := by decide +kernel
theorem dW_614 : decode code 614 = .ok (.iconst 1, 1) := by decide +kernel
theorem dW_615 : decode code 615 = .ok (.iadd, 1) := by decide +kernel
theorem dW_616 : decode code 616 = .ok (.iaload, 1) := by decide +kernel
theorem dW_617 : decode code 617 = .ok (.aload_n 0, 1) := by decide +kernel
theorem dW_618 : decode code 618 = .ok (.iload 4, 2) := by decide +kernel
theorem dW_620 : decode code 620 = .ok (.iconst 2, 1) := by decide +kernel
theorem dW_621 : decode code 621 = .ok (.iadd, 1) := by decide +kernel
theorem dW_622 : decode code 622 = .ok (.iaload, 1) := by decide +kernel
theorem dW_623 : decode code 623 = .ok (.aload_n 0, 1) := by decide +kernel
theorem dW_624 : decode code 624 = .ok (.iload 4, 2) := by decide +kernel
theorem dW_626 : decode code 626 = .ok (.iconst 3, 1) := by decide +kernel
theorem dW_627 : decode code 627 = .ok (.iadd, 1) := by decide +kernel
theorem dW_628 : decode code 628 = .ok (.iaload, 1) := by decide +kernel
theorem dW_629 : decode code 629 = .ok (.aload_n 0, 1) := by decide +kernel
theorem dW_630 : decode code 630 = .ok (.iload 4, 2) := by decide +kernel
theorem dW_632 : decode code 632 = .ok (.iconst 4, 1) := by decide +kernel
theorem dW_633 : decode code 633 = .ok (.iadd, 1) := by decide +kernel
theorem dW_634 : decode code 634 = .ok (.iaload, 1) := by decide +kernel
theorem dW_635 : decode code 635 = .ok (.ifCond .eq (7), 3) := by decide +kernel
theorem dW_638 : decode code 638 = .ok (.iconst 1, 1) := by decide +kernel
theorem dW_639 : decode code 639 = .ok (.goto (4), 3) := by decide +kernel
theorem dW_642 : decode code 642 = .ok (.iconst 0, 1) := by decide +kernel
theorem dW_643 : decode code 643 = .ok (.invokevirtual 120, 3) := by decide +kernel
theorem dW_646 : decode code 646 = .ok (.istore 6, 2) := by decide +kernel
theorem dW_648 : decode code 648 = .ok (.aload_n 2, 1) := by decide +kernel
theorem dW_649 : decode code 649 = .ok (.invokevirtual 95, 3) := by decide +kernel
theorem dW_652 : decode code 652 = .ok (.iload 5, 2) := by decide +kernel
theorem dW_654 : decode code 654 = .ok (.if_icmp .eq (5), 3) := by decide +kernel
theorem dW_657 : decode code 657 = .ok (.iconst 0, 1) := by decide +kernel
theorem dW_658 : decode code 658 = .ok (.ireturn, 1) := by decide +kernel
theorem dW_659 : decode code 659 = .ok (.iload 5, 2) := by decide +kernel
theorem dW_661 : decode code 661 = .ok (.ifCond .ne (22), 3) := by decide +kernel
theorem dW_664 : decode code 664 = .ok (.aload_n 3, 1) := by decide +kernel
theorem dW_665 : decode code 665 = .ok (.iconst 0, 1) := by decide +kernel
theorem dW_666 : decode code 666 = .ok (.laload, 1) := by decide +kernel
theorem dW_667 : decode code 667 = .ok (.iload 6, 2) := by decide +kernel
theorem dW_669 : decode code 669 = .ok (.ifCond .eq (7), 3) := by decide +kernel
theorem dW_672 : decode code 672 = .ok (.lconst 1, 1) := by decide +kernel
theorem dW_673 : decode code 673 = .ok (.goto (4), 3) := by decide +kernel
theorem dW_676 : decode code 676 = .ok (.lconst 0, 1) := by decide +kernel
theorem dW_677 : decode code 677 = .ok (.lcmp, 1) := by decide +kernel
theorem dW_678 : decode code 678 = .ok (.ifCond .eq (5), 3) := by decide +kernel
theorem dW_681 : decode code 681 = .ok (.iconst 0, 1) := by decide +kernel
theorem dW_682 : decode code 682 = .ok (.ireturn, 1) := by decide +kernel
theorem dW_683 : decode code 683 = .ok (.goto (832), 3) := by decide +kernel
theorem dW_686 : decode code 686 = .ok (.aload_n 1, 1) := by decide +kernel
theorem dW_687 : decode code 687 = .ok (.aload_n 0, 1) := by decide +kernel
theorem dW_688 : decode code 688 = .ok (.iload 4, 2) := by decide +kernel
theorem dW_690 : decode code 690 = .ok (.iconst 1, 1) := by decide +kernel
theorem dW_691 : decode code 691 = .ok (.iadd, 1) := by decide +kernel
theorem dW_692 : decode code 692 = .ok (.iaload, 1) := by decide +kernel
theorem dW_693 : decode code 693 = .ok (.aload_n 0, 1) := by decide +kernel
theorem dW_694 : decode code 694 = .ok (.iload 4, 2) := by decide +kernel
theorem dW_696 : decode code 696 = .ok (.iconst 2, 1) := by decide +kernel
theorem dW_697 : decode code 697 = .ok (.iadd, 1) := by decide +kernel
theorem dW_698 : decode code 698 = .ok (.iaload, 1) := by decide +kernel
theorem dW_699 : decode code 699 = .ok (.aload_n 0, 1) := by decide +kernel
theorem dW_700 : decode code 700 = .ok (.iload 4, 2) := by decide +kernel
theorem dW_702 : decode code 702 = .ok (.iconst 3, 1) := by decide +kernel
theorem dW_703 : decode code 703 = .ok (.iadd, 1) := by decide +kernel
theorem dW_704 : decode code 704 = .ok (.iaload, 1) := by decide +kernel
theorem dW_705 : decode code 705 = .ok (.aload_n 0, 1) := by decide +kernel
theorem dW_706 : decode code 706 = .ok (.iload 4, 2) := by decide +kernel
theorem dW_708 : decode code 708 = .ok (.iconst 4, 1) := by decide +kernel
theorem dW_709 : decode code 709 = .ok (.iadd, 1) := by decide +kernel
theorem dW_710 : decode code 710 = .ok (.iaload, 1) := by decide +kernel
theorem dW_711 : decode code 711 = .ok (.aload_n 0, 1) := by decide +kernel
theorem dW_712 : decode code 712 = .ok (.iload 4, 2) := by decide +kernel
theorem dW_714 : decode code 714 = .ok (.iconst 5, 1) := by decide +kernel
theorem dW_715 : decode code 715 = .ok (.iadd, 1) := by decide +kernel
theorem dW_716 : decode code 716 = .ok (.iaload, 1) := by decide +kernel
theorem dW_717 : decode code 717 = .ok (.invokestatic 121, 3) := by decide +kernel
theorem dW_720 : decode code 720 = .ok (.istore 5, 2) := by decide +kernel
theorem dW_722 : decode code 722 = .ok (.aload_n 2, 1) := by decide +kernel
theorem dW_723 : decode code 723 = .ok (.aload_n 0, 1) := by decide +kernel
theorem dW_724 : decode code 724 = .ok (.iload 4, 2) := by decide +kernel
theorem dW_726 : decode code 726 = .ok (.iconst 1, 1) := by decide +kernel
theorem dW_727 : decode code 727 = .ok (.iadd, 1) := by decide +kernel
theorem dW_728 : decode code 728 = .ok (.iaload, 1) := by decide +kernel
theorem dW_729 : decode code 729 = .ok (.aload_n 0, 1) := by decide +kernel
theorem dW_730 : decode code 730 = .ok (.iload 4, 2) := by decide +kernel
theorem dW_732 : decode code 732 = .ok (.iconst 2, 1) := by decide +kernel
theorem dW_733 : decode code 733 = .ok (.iadd, 1) := by decide +kernel
theorem dW_734 : decode code 734 = .ok (.iaload, 1) := by decide +kernel
theorem dW_735 : decode code 735 = .ok (.aload_n 0, 1) := by decide +kernel
theorem dW_736 : decode code 736 = .ok (.iload 4, 2) := by decide +kernel
theorem dW_738 : decode code 738 = .ok (.iconst 3, 1) := by decide +kernel
theorem dW_739 : decode code 739 = .ok (.iadd, 1) := by decide +kernel
theorem dW_740 : decode code 740 = .ok (.iaload, 1) := by decide +kernel
theorem dW_741 : decode code 741 = .ok (.aload_n 0, 1) := by decide +kernel
theorem dW_742 : decode code 742 = .ok (.iload 4, 2) := by decide +kernel
theorem dW_744 : decode code 744 = .ok (.iconst 4, 1) := by decide +kernel
theorem dW_745 : decode code 745 = .ok (.iadd, 1) := by decide +kernel
theorem dW_746 : decode code 746 = .ok (.iaload, 1) := by decide +kernel
theorem dW_747 : decode code 747 = .ok (.aload_n 0, 1) := by decide +kernel
theorem dW_748 : decode code 748 = .ok (.iload 4, 2) := by decide +kernel
theorem dW_750 : decode code 750 = .ok (.iconst 5, 1) := by decide +kernel
theorem dW_751 : decode code 751 = .ok (.iadd, 1) := by decide +kernel
theorem dW_752 : decode code 752 = .ok (.iaload, 1) := by decide +kernel
theorem dW_753 : decode code 753 = .ok (.invokevirtual 124, 3) := by decide +kernel
theorem dW_756 : decode code 756 = .ok (.aload_n 2, 1) := by decide +kernel
theorem dW_757 : decode code 757 = .ok (.invokevirtual 95, 3) := by decide +kernel
theorem dW_760 : decode code 760 = .ok (.iload 5, 2) := by decide +kernel
theorem dW_762 : decode code 762 = .ok (.if_icmp .eq (5), 3) := by decide +kernel
theorem dW_765 : decode code 765 = .ok (.iconst 0, 1) := by decide +kernel
theorem dW_766 : decode code 766 = .ok (.ireturn, 1) := by decide +kernel
theorem dW_767 : decode code 767 = .ok (.goto (748), 3) := by decide +kernel
theorem dW_770 : decode code 770 = .ok (.aload_n 1, 1) := by decide +kernel
theorem dW_771 : decode code 771 = .ok (.aload_n 0, 1) := by decide +kernel
theorem dW_772 : decode code 772 = .ok (.iload 4, 2) := by decide +kernel
theorem dW_774 : decode code 774 = .ok (.iconst 1, 1) := by decide +kernel
theorem dW_775 : decode code 775 = .ok (.iadd, 1) := by decide +kernel
theorem dW_776 : decode code 776 = .ok (.iaload, 1) := by decide +kernel
theorem dW_777 : decode code 777 = .ok (.aload_n 0, 1) := by decide +kernel
theorem dW_778 : decode code 778 = .ok (.iload 4, 2) := by decide +kernel
theorem dW_780 : decode code 780 = .ok (.iconst 2, 1) := by decide +kernel
theorem dW_781 : decode code 781 = .ok (.iadd, 1) := by decide +kernel
theorem dW_782 : decode code 782 = .ok (.iaload, 1) := by decide +kernel
theorem dW_783 : decode code 783 = .ok (.aload_n 0, 1) := by decide +kernel
theorem dW_784 : decode code 784 = .ok (.iload 4, 2) := by decide +kernel
theorem dW_786 : decode code 786 = .ok (.iconst 3, 1) := by decide +kernel
theorem dW_787 : decode code 787 = .ok (.iadd, 1) := by decide +kernel
theorem dW_788 : decode code 788 = .ok (.iaload, 1) := by decide +kernel
theorem dW_789 : decode code 789 = .ok (.aload_n 0, 1) := by decide +kernel
theorem dW_790 : decode code 790 = .ok (.iload 4, 2) := by decide +kernel
theorem dW_792 : decode code 792 = .ok (.iconst 4, 1) := by decide +kernel
theorem dW_793 : decode code 793 = .ok (.iadd, 1) := by decide +kernel
theorem dW_794 : decode code 794 = .ok (.iaload, 1) := by decide +kernel
theorem dW_795 : decode code 795 = .ok (.aload_n 3, 1) := by decide +kernel
theorem dW_796 : decode code 796 = .ok (.invokestatic 125, 3) := by decide +kernel
theorem dW_799 : decode code 799 = .ok (.istore 5, 2) := by decide +kernel
theorem dW_801 : decode code 801 = .ok (.aload_n 2, 1) := by decide +kernel
theorem dW_802 : decode code 802 = .ok (.aload_n 0, 1) := by decide +kernel
theorem dW_803 : decode code 803 = .ok (.iload 4, 2) := by decide +kernel
theorem dW_805 : decode code 805 = .ok (.iconst 1, 1) := by decide +kernel
theorem dW_806 : decode code 806 = .ok (.iadd, 1) := by decide +kernel
theorem dW_807 : decode code 807 = .ok (.iaload, 1) := by decide +kernel
theorem dW_808 : decode code 808 = .ok (.aload_n 0, 1) := by decide +kernel
theorem dW_809 : decode code 809 = .ok (.iload 4, 2) := by decide +kernel
theorem dW_811 : decode code 811 = .ok (.iconst 2, 1) := by decide +kernel
theorem dW_812 : decode code 812 = .ok (.iadd, 1) := by decide +kernel
theorem dW_813 : decode code 813 = .ok (.iaload, 1) := by decide +kernel
theorem dW_814 : decode code 814 = .ok (.aload_n 0, 1) := by decide +kernel
theorem dW_815 : decode code 815 = .ok (.iload 4, 2) := by decide +kernel
theorem dW_817 : decode code 817 = .ok (.iconst 3, 1) := by decide +kernel
theorem dW_818 : decode code 818 = .ok (.iadd, 1) := by decide +kernel
theorem dW_819 : decode code 819 = .ok (.iaload, 1) := by decide +kernel
theorem dW_820 : decode code 820 = .ok (.aload_n 0, 1) := by decide +kernel
theorem dW_821 : decode code 821 = .ok (.iload 4, 2) := by decide +kernel
theorem dW_823 : decode code 823 = .ok (.iconst 4, 1) := by decide +kernel
theorem dW_824 : decode code 824 = .ok (.iadd, 1) := by decide +kernel
theorem dW_825 : decode code 825 = .ok (.iaload, 1) := by decide +kernel
theorem dW_826 : decode code 826 = .ok (.invokevirtual 128, 3) := by decide +kernel
theorem dW_829 : decode code 829 = .ok (.istore 6, 2) := by decide +kernel
theorem dW_831 : decode code 831 = .ok (.aload_n 2, 1) := by decide +kernel
theorem dW_832 : decode code 832 = .ok (.invokevirtual 95, 3) := by decide +kernel
theorem dW_835 : decode code 835 = .ok (.iload 5, 2) := by decide +kernel
theorem dW_837 : decode code 837 = .ok (.if_icmp .eq (5), 3) := by decide +kernel
theorem dW_840 : decode code 840 = .ok (.iconst 0, 1) := by decide +kernel
theorem dW_841 : decode code 841 = .ok (.ireturn, 1) := by decide +kernel
theorem dW_842 : decode code 842 = .ok (.iload 5, 2) := by decide +kernel
theorem dW_844 : decode code 844 = .ok (.ifCond .ne (22), 3) := by decide +kernel
theorem dW_847 : decode code 847 = .ok (.aload_n 3, 1) := by decide +kernel
theorem dW_848 : decode code 848 = .ok (.iconst 0, 1) := by decide +kernel
theorem dW_849 : decode code 849 = .ok (.laload, 1) := by decide +kernel
theorem dW_850 : decode code 850 = .ok (.iload 6, 2) := by decide +kernel
theorem dW_852 : decode code 852 = .ok (.ifCond .eq (7), 3) := by decide +kernel
theorem dW_855 : decode code 855 = .ok (.lconst 1, 1) := by decide +kernel
theorem dW_856 : decode code 856 = .ok (.goto (4), 3) := by decide +kernel
theorem dW_859 : decode code 859 = .ok (.lconst 0, 1) := by decide +kernel
theorem dW_860 : decode code 860 = .ok (.lcmp, 1) := by decide +kernel
theorem dW_861 : decode code 861 = .ok (.ifCond .eq (5), 3) := by decide +kernel
theorem dW_864 : decode code 864 = .ok (.iconst 0, 1) := by decide +kernel
theorem dW_865 : decode code 865 = .ok (.ireturn, 1) := by decide +kernel
theorem dW_866 : decode code 866 = .ok (.goto (649), 3) := by decide +kernel
theorem dW_869 : decode code 869 = .ok (.aload_n 1, 1) := by decide +kernel
theorem dW_870 : decode code 870 = .ok (.aload_n 0, 1) := by decide +kernel
theorem dW_871 : decode code 871 = .ok (.iload 4, 2) := by decide +kernel
theorem dW_873 : decode code 873 = .ok (.iconst 1, 1) := by decide +kernel
theorem dW_874 : decode code 874 = .ok (.iadd, 1) := by decide +kernel
theorem dW_875 : decode code 875 = .ok (.iaload, 1) := by decide +kernel
theorem dW_876 : decode code 876 = .ok (.aload_n 0, 1) := by decide +kernel
theorem dW_877 : decode code 877 = .ok (.iload 4, 2) := by decide +kernel
theorem dW_879 : decode code 879 = .ok (.iconst 2, 1) := by decide +kernel
theorem dW_880 : decode code 880 = .ok (.iadd, 1) := by decide +kernel
theorem dW_881 : decode code 881 = .ok (.iaload, 1) := by decide +kernel
theorem dW_882 : decode code 882 = .ok (.aload_n 0, 1) := by decide +kernel
theorem dW_883 : decode code 883 = .ok (.iload 4, 2) := by decide +kernel
theorem dW_885 : decode code 885 = .ok (.iconst 3, 1) := by decide +kernel
theorem dW_886 : decode code 886 = .ok (.iadd, 1) := by decide +kernel
theorem dW_887 : decode code 887 = .ok (.iaload, 1) := by decide +kernel
theorem dW_888 : decode code 888 = .ok (.aload_n 0, 1) := by decide +kernel
theorem dW_889 : decode code 889 = .ok (.iload 4, 2) := by decide +kernel
theorem dW_891 : decode code 891 = .ok (.iconst 4, 1) := by decide +kernel
theorem dW_892 : decode code 892 = .ok (.iadd, 1) := by decide +kernel
theorem dW_893 : decode code 893 = .ok (.iaload, 1) := by decide +kernel
theorem dW_894 : decode code 894 = .ok (.aload_n 3, 1) := by decide +kernel
theorem dW_895 : decode code 895 = .ok (.invokestatic 129, 3) := by decide +kernel
theorem dW_898 : decode code 898 = .ok (.istore 5, 2) := by decide +kernel
theorem dW_900 : decode code 900 = .ok (.aload_n 2, 1) := by decide +kernel
theorem dW_901 : decode code 901 = .ok (.aload_n 0, 1) := by decide +kernel
theorem dW_902 : decode code 902 = .ok (.iload 4, 2) := by decide +kernel
theorem dW_904 : decode code 904 = .ok (.iconst 1, 1) := by decide +kernel
theorem dW_905 : decode code 905 = .ok (.iadd, 1) := by decide +kernel
theorem dW_906 : decode code 906 = .ok (.iaload, 1) := by decide +kernel
theorem dW_907 : decode code 907 = .ok (.aload_n 0, 1) := by decide +kernel
theorem dW_908 : decode code 908 = .ok (.iload 4, 2) := by decide +kernel
theorem dW_910 : decode code 910 = .ok (.iconst 2, 1) := by decide +kernel
theorem dW_911 : decode code 911 = .ok (.iadd, 1) := by decide +kernel
theorem dW_912 : decode code 912 = .ok (.iaload, 1) := by decide +kernel
theorem dW_913 : decode code 913 = .ok (.aload_n 0, 1) := by decide +kernel
theorem dW_914 : decode code 914 = .ok (.iload 4, 2) := by decide +kernel
theorem dW_916 : decode code 916 = .ok (.iconst 3, 1) := by decide +kernel
theorem dW_917 : decode code 917 = .ok (.iadd, 1) := by decide +kernel
theorem dW_918 : decode code 918 = .ok (.iaload, 1) := by decide +kernel
theorem dW_919 : decode code 919 = .ok (.aload_n 0, 1) := by decide +kernel
theorem dW_920 : decode code 920 = .ok (.iload 4, 2) := by decide +kernel
theorem dW_922 : decode code 922 = .ok (.iconst 4, 1) := by decide +kernel
theorem dW_923 : decode code 923 = .ok (.iadd, 1) := by decide +kernel
theorem dW_924 : decode code 924 = .ok (.iaload, 1) := by decide +kernel
theorem dW_925 : decode code 925 = .ok (.invokevirtual 131, 3) := by decide +kernel
theorem dW_928 : decode code 928 = .ok (.istore 6, 2) := by decide +kernel
theorem dW_930 : decode code 930 = .ok (.aload_n 2, 1) := by decide +kernel
theorem dW_931 : decode code 931 = .ok (.invokevirtual 95, 3) := by decide +kernel
theorem dW_934 : decode code 934 = .ok (.iload 5, 2) := by decide +kernel
theorem dW_936 : decode code 936 = .ok (.if_icmp .eq (5), 3) := by decide +kernel
theorem dW_939 : decode code 939 = .ok (.iconst 0, 1) := by decide +kernel
theorem dW_940 : decode code 940 = .ok (.ireturn, 1) := by decide +kernel
theorem dW_941 : decode code 941 = .ok (.iload 5, 2) := by decide +kernel
theorem dW_943 : decode code 943 = .ok (.ifCond .ne (15), 3) := by decide +kernel
theorem dW_946 : decode code 946 = .ok (.aload_n 3, 1) := by decide +kernel
theorem dW_947 : decode code 947 = .ok (.iconst 0, 1) := by decide +kernel
theorem dW_948 : decode code 948 = .ok (.laload, 1) := by decide +kernel
theorem dW_949 : decode code 949 = .ok (.iload 6, 2) := by decide +kernel
theorem dW_951 : decode code 951 = .ok (.i2l, 1) := by decide +kernel
theorem dW_952 : decode code 952 = .ok (.lcmp, 1) := by decide +kernel
theorem dW_953 : decode code 953 = .ok (.ifCond .eq (5), 3) := by decide +kernel
theorem dW_956 : decode code 956 = .ok (.iconst 0, 1) := by decide +kernel
theorem dW_957 : decode code 957 = .ok (.ireturn, 1) := by decide +kernel
theorem dW_958 : decode code 958 = .ok (.goto (557), 3) := by decide +kernel
theorem dW_961 : decode code 961 = .ok (.aload_n 1, 1) := by decide +kernel
theorem dW_962 : decode code 962 = .ok (.aload_n 0, 1) := by decide +kernel
theorem dW_963 : decode code 963 = .ok (.iload 4, 2) := by decide +kernel
theorem dW_965 : decode code 965 = .ok (.iconst 1, 1) := by decide +kernel
theorem dW_966 : decode code 966 = .ok (.iadd, 1) := by decide +kernel
theorem dW_967 : decode code 967 = .ok (.iaload, 1) := by decide +kernel
theorem dW_968 : decode code 968 = .ok (.aload_n 0, 1) := by decide +kernel
theorem dW_969 : decode code 969 = .ok (.iload 4, 2) := by decide +kernel
theorem dW_971 : decode code 971 = .ok (.iconst 2, 1) := by decide +kernel
theorem dW_972 : decode code 972 = .ok (.iadd, 1) := by decide +kernel
theorem dW_973 : decode code 973 = .ok (.iaload, 1) := by decide +kernel
theorem dW_974 : decode code 974 = .ok (.ifCond .eq (7), 3) := by decide +kernel
theorem dW_977 : decode code 977 = .ok (.iconst 1, 1) := by decide +kernel
theorem dW_978 : decode code 978 = .ok (.goto (4), 3) := by decide +kernel
theorem dW_981 : decode code 981 = .ok (.iconst 0, 1) := by decide +kernel
theorem dW_982 : decode code 982 = .ok (.aload_n 3, 1) := by decide +kernel
theorem dW_983 : decode code 983 = .ok (.invokestatic 132, 3) := by decide +kernel
theorem dW_986 : decode code 986 = .ok (.istore 5, 2) := by decide +kernel
theorem dW_988 : decode code 988 = .ok (.aload_n 2, 1) := by decide +kernel
theorem dW_989 : decode code 989 = .ok (.aload_n 0, 1) := by decide +kernel
theorem dW_990 : decode code 990 = .ok (.iload 4, 2) := by decide +kernel
theorem dW_992 : decode code 992 = .ok (.iconst 1, 1) := by decide +kernel
theorem dW_993 : decode code 993 = .ok (.iadd, 1) := by decide +kernel
theorem dW_994 : decode code 994 = .ok (.iaload, 1) := by decide +kernel
theorem dW_995 : decode code 995 = .ok (.aload_n 0, 1) := by decide +kernel
theorem dW_996 : decode code 996 = .ok (.iload 4, 2) := by decide +kernel
theorem dW_998 : decode code 998 = .ok (.iconst 2, 1) := by decide +kernel
theorem dW_999 : decode code 999 = .ok (.iadd, 1) := by decide +kernel
theorem dW_1000 : decode code 1000 = .ok (.iaload, 1) := by decide +kernel
theorem dW_1001 : decode code 1001 = .ok (.ifCond .eq (7), 3) := by decide +kernel
theorem dW_1004 : decode code 1004 = .ok (.iconst 1, 1) := by decide +kernel
theorem dW_1005 : decode code 1005 = .ok (.goto (4), 3) := by decide +kernel
theorem dW_1008 : decode code 1008 = .ok (.iconst 0, 1) := by decide +kernel
theorem dW_1009 : decode code 1009 = .ok (.invokevirtual 135, 3) := by decide +kernel
theorem dW_1012 : decode code 1012 = .ok (.istore 6, 2) := by decide +kernel
theorem dW_1014 : decode code 1014 = .ok (.aload_n 2, 1) := by decide +kernel
theorem dW_1015 : decode code 1015 = .ok (.invokevirtual 95, 3) := by decide +kernel
theorem dW_1018 : decode code 1018 = .ok (.iload 5, 2) := by decide +kernel
theorem dW_1020 : decode code 1020 = .ok (.if_icmp .eq (5), 3) := by decide +kernel
theorem dW_1023 : decode code 1023 = .ok (.iconst 0, 1) := by decide +kernel
theorem dW_1024 : decode code 1024 = .ok (.ireturn, 1) := by decide +kernel
theorem dW_1025 : decode code 1025 = .ok (.iload 5, 2) := by decide +kernel
theorem dW_1027 : decode code 1027 = .ok (.ifCond .ne (22), 3) := by decide +kernel
theorem dW_1030 : decode code 1030 = .ok (.aload_n 3, 1) := by decide +kernel
theorem dW_1031 : decode code 1031 = .ok (.iconst 0, 1) := by decide +kernel
theorem dW_1032 : decode code 1032 = .ok (.laload, 1) := by decide +kernel
theorem dW_1033 : decode code 1033 = .ok (.iload 6, 2) := by decide +kernel
theorem dW_1035 : decode code 1035 = .ok (.ifCond .eq (7), 3) := by decide +kernel
theorem dW_1038 : decode code 1038 = .ok (.lconst 1, 1) := by decide +kernel
theorem dW_1039 : decode code 1039 = .ok (.goto (4), 3) := by decide +kernel
theorem dW_1042 : decode code 1042 = .ok (.lconst 0, 1) := by decide +kernel
theorem dW_1043 : decode code 1043 = .ok (.lcmp, 1) := by decide +kernel
theorem dW_1044 : decode code 1044 = .ok (.ifCond .eq (5), 3) := by decide +kernel
theorem dW_1047 : decode code 1047 = .ok (.iconst 0, 1) := by decide +kernel
theorem dW_1048 : decode code 1048 = .ok (.ireturn, 1) := by decide +kernel
theorem dW_1049 : decode code 1049 = .ok (.goto (466), 3) := by decide +kernel
theorem dW_1052 : decode code 1052 = .ok (.aload_n 1, 1) := by decide +kernel
theorem dW_1053 : decode code 1053 = .ok (.aload_n 0, 1) := by decide +kernel
theorem dW_1054 : decode code 1054 = .ok (.iload 4, 2) := by decide +kernel
theorem dW_1056 : decode code 1056 = .ok (.iconst 1, 1) := by decide +kernel
theorem dW_1057 : decode code 1057 = .ok (.iadd, 1) := by decide +kernel
theorem dW_1058 : decode code 1058 = .ok (.iaload, 1) := by decide +kernel
theorem dW_1059 : decode code 1059 = .ok (.aload_n 0, 1) := by decide +kernel
theorem dW_1060 : decode code 1060 = .ok (.iload 4, 2) := by decide +kernel
theorem dW_1062 : decode code 1062 = .ok (.iconst 2, 1) := by decide +kernel
theorem dW_1063 : decode code 1063 = .ok (.iadd, 1) := by decide +kernel
theorem dW_1064 : decode code 1064 = .ok (.iaload, 1) := by decide +kernel
theorem dW_1065 : decode code 1065 = .ok (.aload_n 3, 1) := by decide +kernel
theorem dW_1066 : decode code 1066 = .ok (.invokestatic 136, 3) := by decide +kernel
theorem dW_1069 : decode code 1069 = .ok (.istore 5, 2) := by decide +kernel
theorem dW_1071 : decode code 1071 = .ok (.aload_n 2, 1) := by decide +kernel
theorem dW_1072 : decode code 1072 = .ok (.aload_n 0, 1) := by decide +kernel
theorem dW_1073 : decode code 1073 = .ok (.iload 4, 2) := by decide +kernel
theorem dW_1075 : decode code 1075 = .ok (.iconst 1, 1) := by decide +kernel
theorem dW_1076 : decode code 1076 = .ok (.iadd, 1) := by decide +kernel
theorem dW_1077 : decode code 1077 = .ok (.iaload, 1) := by decide +kernel
theorem dW_1078 : decode code 1078 = .ok (.aload_n 0, 1) := by decide +kernel
theorem dW_1079 : decode code 1079 = .ok (.iload 4, 2) := by decide +kernel
theorem dW_1081 : decode code 1081 = .ok (.iconst 2, 1) := by decide +kernel
theorem dW_1082 : decode code 1082 = .ok (.iadd, 1) := by decide +kernel
theorem dW_1083 : decode code 1083 = .ok (.iaload, 1) := by decide +kernel
theorem dW_1084 : decode code 1084 = .ok (.invokevirtual 139, 3) := by decide +kernel
theorem dW_1087 : decode code 1087 = .ok (.istore 6, 2) := by decide +kernel
theorem dW_1089 : decode code 1089 = .ok (.aload_n 2, 1) := by decide +kernel
theorem dW_1090 : decode code 1090 = .ok (.invokevirtual 95, 3) := by decide +kernel
theorem dW_1093 : decode code 1093 = .ok (.iload 5, 2) := by decide +kernel
theorem dW_1095 : decode code 1095 = .ok (.if_icmp .eq (5), 3) := by decide +kernel
theorem dW_1098 : decode code 1098 = .ok (.iconst 0, 1) := by decide +kernel
theorem dW_1099 : decode code 1099 = .ok (.ireturn, 1) := by decide +kernel
theorem dW_1100 : decode code 1100 = .ok (.iload 5, 2) := by decide +kernel
theorem dW_1102 : decode code 1102 = .ok (.ifCond .ne (15), 3) := by decide +kernel
theorem dW_1105 : decode code 1105 = .ok (.aload_n 3, 1) := by decide +kernel
theorem dW_1106 : decode code 1106 = .ok (.iconst 0, 1) := by decide +kernel
theorem dW_1107 : decode code 1107 = .ok (.laload, 1) := by decide +kernel
theorem dW_1108 : decode code 1108 = .ok (.iload 6, 2) := by decide +kernel
theorem dW_1110 : decode code 1110 = .ok (.i2l, 1) := by decide +kernel
theorem dW_1111 : decode code 1111 = .ok (.lcmp, 1) := by decide +kernel
theorem dW_1112 : decode code 1112 = .ok (.ifCond .eq (5), 3) := by decide +kernel
theorem dW_1115 : decode code 1115 = .ok (.iconst 0, 1) := by decide +kernel
theorem dW_1116 : decode code 1116 = .ok (.ireturn, 1) := by decide +kernel
theorem dW_1117 : decode code 1117 = .ok (.goto (398), 3) := by decide +kernel
theorem dW_1120 : decode code 1120 = .ok (.aload_n 1, 1) := by decide +kernel
theorem dW_1121 : decode code 1121 = .ok (.aload_n 3, 1) := by decide +kernel
theorem dW_1122 : decode code 1122 = .ok (.invokestatic 140, 3) := by decide +kernel
theorem dW_1125 : decode code 1125 = .ok (.istore 5, 2) := by decide +kernel
theorem dW_1127 : decode code 1127 = .ok (.aload_n 2, 1) := by decide +kernel
theorem dW_1128 : decode code 1128 = .ok (.invokevirtual 142, 3) := by decide +kernel
theorem dW_1131 : decode code 1131 = .ok (.istore 6, 2) := by decide +kernel
theorem dW_1133 : decode code 1133 = .ok (.aload_n 2, 1) := by decide +kernel
theorem dW_1134 : decode code 1134 = .ok (.invokevirtual 95, 3) := by decide +kernel
theorem dW_1137 : decode code 1137 = .ok (.iload 5, 2) := by decide +kernel
theorem dW_1139 : decode code 1139 = .ok (.if_icmp .eq (5), 3) := by decide +kernel
theorem dW_1142 : decode code 1142 = .ok (.iconst 0, 1) := by decide +kernel
theorem dW_1143 : decode code 1143 = .ok (.ireturn, 1) := by decide +kernel
theorem dW_1144 : decode code 1144 = .ok (.iload 5, 2) := by decide +kernel
theorem dW_1146 : decode code 1146 = .ok (.ifCond .ne (22), 3) := by decide +kernel
theorem dW_1149 : decode code 1149 = .ok (.aload_n 3, 1) := by decide +kernel
theorem dW_1150 : decode code 1150 = .ok (.iconst 0, 1) := by decide +kernel
theorem dW_1151 : decode code 1151 = .ok (.laload, 1) := by decide +kernel
theorem dW_1152 : decode code 1152 = .ok (.iload 6, 2) := by decide +kernel
theorem dW_1154 : decode code 1154 = .ok (.ifCond .eq (7), 3) := by decide +kernel
theorem dW_1157 : decode code 1157 = .ok (.lconst 1, 1) := by decide +kernel
theorem dW_1158 : decode code 1158 = .ok (.goto (4), 3) := by decide +kernel
theorem dW_1161 : decode code 1161 = .ok (.lconst 0, 1) := by decide +kernel
theorem dW_1162 : decode code 1162 = .ok (.lcmp, 1) := by decide +kernel
theorem dW_1163 : decode code 1163 = .ok (.ifCond .eq (5), 3) := by decide +kernel
theorem dW_1166 : decode code 1166 = .ok (.iconst 0, 1) := by decide +kernel
theorem dW_1167 : decode code 1167 = .ok (.ireturn, 1) := by decide +kernel
theorem dW_1168 : decode code 1168 = .ok (.goto (347), 3) := by decide +kernel
theorem dW_1171 : decode code 1171 = .ok (.aload_n 1, 1) := by decide +kernel
theorem dW_1172 : decode code 1172 = .ok (.aload_n 3, 1) := by decide +kernel
theorem dW_1173 : decode code 1173 = .ok (.invokestatic 143, 3) := by decide +kernel
theorem dW_1176 : decode code 1176 = .ok (.istore 5, 2) := by decide +kernel
theorem dW_1178 : decode code 1178 = .ok (.aload_n 2, 1) := by decide +kernel
theorem dW_1179 : decode code 1179 = .ok (.invokevirtual 145, 3) := by decide +kernel
theorem dW_1182 : decode code 1182 = .ok (.istore 6, 2) := by decide +kernel
theorem dW_1184 : decode code 1184 = .ok (.aload_n 2, 1) := by decide +kernel
theorem dW_1185 : decode code 1185 = .ok (.invokevirtual 95, 3) := by decide +kernel
theorem dW_1188 : decode code 1188 = .ok (.iload 5, 2) := by decide +kernel
theorem dW_1190 : decode code 1190 = .ok (.if_icmp .eq (5), 3) := by decide +kernel
theorem dW_1193 : decode code 1193 = .ok (.iconst 0, 1) := by decide +kernel
theorem dW_1194 : decode code 1194 = .ok (.ireturn, 1) := by decide +kernel
theorem dW_1195 : decode code 1195 = .ok (.iload 5, 2) := by decide +kernel
theorem dW_1197 : decode code 1197 = .ok (.ifCond .ne (22), 3) := by decide +kernel
theorem dW_1200 : decode code 1200 = .ok (.aload_n 3, 1) := by decide +kernel
theorem dW_1201 : decode code 1201 = .ok (.iconst 0, 1) := by decide +kernel
theorem dW_1202 : decode code 1202 = .ok (.laload, 1) := by decide +kernel
theorem dW_1203 : decode code 1203 = .ok (.iload 6, 2) := by decide +kernel
theorem dW_1205 : decode code 1205 = .ok (.ifCond .eq (7), 3) := by decide +kernel
theorem dW_1208 : decode code 1208 = .ok (.lconst 1, 1) := by decide +kernel
theorem dW_1209 : decode code 1209 = .ok (.goto (4), 3) := by decide +kernel
theorem dW_1212 : decode code 1212 = .ok (.lconst 0, 1) := by decide +kernel
theorem dW_1213 : decode code 1213 = .ok (.lcmp, 1) := by decide +kernel
theorem dW_1214 : decode code 1214 = .ok (.ifCond .eq (5), 3) := by decide +kernel
theorem dW_1217 : decode code 1217 = .ok (.iconst 0, 1) := by decide +kernel
theorem dW_1218 : decode code 1218 = .ok (.ireturn, 1) := by decide +kernel
theorem dW_1219 : decode code 1219 = .ok (.goto (296), 3) := by decide +kernel
theorem dW_1222 : decode code 1222 = .ok (.aload_n 1, 1) := by decide +kernel
theorem dW_1223 : decode code 1223 = .ok (.aload_n 0, 1) := by decide +kernel
theorem dW_1224 : decode code 1224 = .ok (.iload 4, 2) := by decide +kernel
theorem dW_1226 : decode code 1226 = .ok (.iconst 1, 1) := by decide +kernel
theorem dW_1227 : decode code 1227 = .ok (.iadd, 1) := by decide +kernel
theorem dW_1228 : decode code 1228 = .ok (.iaload, 1) := by decide +kernel
theorem dW_1229 : decode code 1229 = .ok (.aload_n 0, 1) := by decide +kernel
theorem dW_1230 : decode code 1230 = .ok (.iload 4, 2) := by decide +kernel
theorem dW_1232 : decode code 1232 = .ok (.iconst 2, 1) := by decide +kernel
theorem dW_1233 : decode code 1233 = .ok (.iadd, 1) := by decide +kernel
theorem dW_1234 : decode code 1234 = .ok (.iaload, 1) := by decide +kernel
theorem dW_1235 : decode code 1235 = .ok (.aload_n 3, 1) := by decide +kernel
theorem dW_1236 : decode code 1236 = .ok (.invokestatic 146, 3) := by decide +kernel
theorem dW_1239 : decode code 1239 = .ok (.istore 5, 2) := by decide +kernel
theorem dW_1241 : decode code 1241 = .ok (.aload_n 2, 1) := by decide +kernel
theorem dW_1242 : decode code 1242 = .ok (.aload_n 0, 1) := by decide +kernel
theorem dW_1243 : decode code 1243 = .ok (.iload 4, 2) := by decide +kernel
theorem dW_1245 : decode code 1245 = .ok (.iconst 1, 1) := by decide +kernel
theorem dW_1246 : decode code 1246 = .ok (.iadd, 1) := by decide +kernel
theorem dW_1247 : decode code 1247 = .ok (.iaload, 1) := by decide +kernel
theorem dW_1248 : decode code 1248 = .ok (.aload_n 0, 1) := by decide +kernel
theorem dW_1249 : decode code 1249 = .ok (.iload 4, 2) := by decide +kernel
theorem dW_1251 : decode code 1251 = .ok (.iconst 2, 1) := by decide +kernel
theorem dW_1252 : decode code 1252 = .ok (.iadd, 1) := by decide +kernel
theorem dW_1253 : decode code 1253 = .ok (.iaload, 1) := by decide +kernel
theorem dW_1254 : decode code 1254 = .ok (.invokevirtual 148, 3) := by decide +kernel
theorem dW_1257 : decode code 1257 = .ok (.istore 6, 2) := by decide +kernel
theorem dW_1259 : decode code 1259 = .ok (.aload_n 2, 1) := by decide +kernel
theorem dW_1260 : decode code 1260 = .ok (.invokevirtual 95, 3) := by decide +kernel
theorem dW_1263 : decode code 1263 = .ok (.iload 5, 2) := by decide +kernel
theorem dW_1265 : decode code 1265 = .ok (.if_icmp .eq (5), 3) := by decide +kernel
theorem dW_1268 : decode code 1268 = .ok (.iconst 0, 1) := by decide +kernel
theorem dW_1269 : decode code 1269 = .ok (.ireturn, 1) := by decide +kernel
theorem dW_1270 : decode code 1270 = .ok (.iload 5, 2) := by decide +kernel
theorem dW_1272 : decode code 1272 = .ok (.ifCond .ne (15), 3) := by decide +kernel
theorem dW_1275 : decode code 1275 = .ok (.aload_n 3, 1) := by decide +kernel
theorem dW_1276 : decode code 1276 = .ok (.iconst 0, 1) := by decide +kernel
theorem dW_1277 : decode code 1277 = .ok (.laload, 1) := by decide +kernel
theorem dW_1278 : decode code 1278 = .ok (.iload 6, 2) := by decide +kernel
theorem dW_1280 : decode code 1280 = .ok (.i2l, 1) := by decide +kernel
theorem dW_1281 : decode code 1281 = .ok (.lcmp, 1) := by decide +kernel
theorem dW_1282 : decode code 1282 = .ok (.ifCond .eq (5), 3) := by decide +kernel
theorem dW_1285 : decode code 1285 = .ok (.iconst 0, 1) := by decide +kernel
theorem dW_1286 : decode code 1286 = .ok (.ireturn, 1) := by decide +kernel
theorem dW_1287 : decode code 1287 = .ok (.goto (228), 3) := by decide +kernel
theorem dW_1290 : decode code 1290 = .ok (.aload_n 1, 1) := by decide +kernel
theorem dW_1291 : decode code 1291 = .ok (.aload_n 0, 1) := by decide +kernel
theorem dW_1292 : decode code 1292 = .ok (.iload 4, 2) := by decide +kernel
theorem dW_1294 : decode code 1294 = .ok (.iconst 1, 1) := by decide +kernel
theorem dW_1295 : decode code 1295 = .ok (.iadd, 1) := by decide +kernel
theorem dW_1296 : decode code 1296 = .ok (.iaload, 1) := by decide +kernel
theorem dW_1297 : decode code 1297 = .ok (.aload_n 0, 1) := by decide +kernel
theorem dW_1298 : decode code 1298 = .ok (.iload 4, 2) := by decide +kernel
theorem dW_1300 : decode code 1300 = .ok (.iconst 2, 1) := by decide +kernel
theorem dW_1301 : decode code 1301 = .ok (.iadd, 1) := by decide +kernel
theorem dW_1302 : decode code 1302 = .ok (.iaload, 1) := by decide +kernel
theorem dW_1303 : decode code 1303 = .ok (.aload_n 0, 1) := by decide +kernel
theorem dW_1304 : decode code 1304 = .ok (.iload 4, 2) := by decide +kernel
theorem dW_1306 : decode code 1306 = .ok (.iconst 3, 1) := by decide +kernel
theorem dW_1307 : decode code 1307 = .ok (.iadd, 1) := by decide +kernel
theorem dW_1308 : decode code 1308 = .ok (.iaload, 1) := by decide +kernel
theorem dW_1309 : decode code 1309 = .ok (.aload_n 3, 1) := by decide +kernel
theorem dW_1310 : decode code 1310 = .ok (.invokestatic 149, 3) := by decide +kernel
theorem dW_1313 : decode code 1313 = .ok (.istore 5, 2) := by decide +kernel
theorem dW_1315 : decode code 1315 = .ok (.aload_n 2, 1) := by decide +kernel
theorem dW_1316 : decode code 1316 = .ok (.aload_n 0, 1) := by decide +kernel
theorem dW_1317 : decode code 1317 = .ok (.iload 4, 2) := by decide +kernel
theorem dW_1319 : decode code 1319 = .ok (.iconst 1, 1) := by decide +kernel
theorem dW_1320 : decode code 1320 = .ok (.iadd, 1) := by decide +kernel
theorem dW_1321 : decode code 1321 = .ok (.iaload, 1) := by decide +kernel
theorem dW_1322 : decode code 1322 = .ok (.aload_n 0, 1) := by decide +kernel
theorem dW_1323 : decode code 1323 = .ok (.iload 4, 2) := by decide +kernel
theorem dW_1325 : decode code 1325 = .ok (.iconst 2, 1) := by decide +kernel
theorem dW_1326 : decode code 1326 = .ok (.iadd, 1) := by decide +kernel
theorem dW_1327 : decode code 1327 = .ok (.iaload, 1) := by decide +kernel
theorem dW_1328 : decode code 1328 = .ok (.aload_n 0, 1) := by decide +kernel
theorem dW_1329 : decode code 1329 = .ok (.iload 4, 2) := by decide +kernel
theorem dW_1331 : decode code 1331 = .ok (.iconst 3, 1) := by decide +kernel
theorem dW_1332 : decode code 1332 = .ok (.iadd, 1) := by decide +kernel
theorem dW_1333 : decode code 1333 = .ok (.iaload, 1) := by decide +kernel
theorem dW_1334 : decode code 1334 = .ok (.invokevirtual 152, 3) := by decide +kernel
theorem dW_1337 : decode code 1337 = .ok (.istore 6, 2) := by decide +kernel
theorem dW_1339 : decode code 1339 = .ok (.aload_n 2, 1) := by decide +kernel
theorem dW_1340 : decode code 1340 = .ok (.invokevirtual 95, 3) := by decide +kernel
theorem dW_1343 : decode code 1343 = .ok (.iload 5, 2) := by decide +kernel
theorem dW_1345 : decode code 1345 = .ok (.if_icmp .eq (5), 3) := by decide +kernel
theorem dW_1348 : decode code 1348 = .ok (.iconst 0, 1) := by decide +kernel
theorem dW_1349 : decode code 1349 = .ok (.ireturn, 1) := by decide +kernel
theorem dW_1350 : decode code 1350 = .ok (.iload 5, 2) := by decide +kernel
theorem dW_1352 : decode code 1352 = .ok (.ifCond .ne (15), 3) := by decide +kernel
theorem dW_1355 : decode code 1355 = .ok (.aload_n 3, 1) := by decide +kernel
theorem dW_1356 : decode code 1356 = .ok (.iconst 0, 1) := by decide +kernel
theorem dW_1357 : decode code 1357 = .ok (.laload, 1) := by decide +kernel
theorem dW_1358 : decode code 1358 = .ok (.iload 6, 2) := by decide +kernel
theorem dW_1360 : decode code 1360 = .ok (.i2l, 1) := by decide +kernel
theorem dW_1361 : decode code 1361 = .ok (.lcmp, 1) := by decide +kernel
theorem dW_1362 : decode code 1362 = .ok (.ifCond .eq (5), 3) := by decide +kernel
theorem dW_1365 : decode code 1365 = .ok (.iconst 0, 1) := by decide +kernel
theorem dW_1366 : decode code 1366 = .ok (.ireturn, 1) := by decide +kernel
theorem dW_1367 : decode code 1367 = .ok (.goto (148), 3) := by decide +kernel
theorem dW_1370 : decode code 1370 = .ok (.aload_n 1, 1) := by decide +kernel
theorem dW_1371 : decode code 1371 = .ok (.aload_n 3, 1) := by decide +kernel
theorem dW_1372 : decode code 1372 = .ok (.invokestatic 153, 3) := by decide +kernel
theorem dW_1375 : decode code 1375 = .ok (.istore 5, 2) := by decide +kernel
theorem dW_1377 : decode code 1377 = .ok (.aload_n 2, 1) := by decide +kernel
theorem dW_1378 : decode code 1378 = .ok (.invokevirtual 155, 3) := by decide +kernel
theorem dW_1381 : decode code 1381 = .ok (.istore 6, 2) := by decide +kernel
theorem dW_1383 : decode code 1383 = .ok (.aload_n 2, 1) := by decide +kernel
theorem dW_1384 : decode code 1384 = .ok (.invokevirtual 95, 3) := by decide +kernel
theorem dW_1387 : decode code 1387 = .ok (.iload 5, 2) := by decide +kernel
theorem dW_1389 : decode code 1389 = .ok (.if_icmp .eq (5), 3) := by decide +kernel
theorem dW_1392 : decode code 1392 = .ok (.iconst 0, 1) := by decide +kernel
theorem dW_1393 : decode code 1393 = .ok (.ireturn, 1) := by decide +kernel
theorem dW_1394 : decode code 1394 = .ok (.iload 5, 2) := by decide +kernel
theorem dW_1396 : decode code 1396 = .ok (.ifCond .ne (15), 3) := by decide +kernel
theorem dW_1399 : decode code 1399 = .ok (.aload_n 3, 1) := by decide +kernel
theorem dW_1400 : decode code 1400 = .ok (.iconst 0, 1) := by decide +kernel
theorem dW_1401 : decode code 1401 = .ok (.laload, 1) := by decide +kernel
theorem dW_1402 : decode code 1402 = .ok (.iload 6, 2) := by decide +kernel
theorem dW_1404 : decode code 1404 = .ok (.i2l, 1) := by decide +kernel
theorem dW_1405 : decode code 1405 = .ok (.lcmp, 1) := by decide +kernel
theorem dW_1406 : decode code 1406 = .ok (.ifCond .eq (5), 3) := by decide +kernel
theorem dW_1409 : decode code 1409 = .ok (.iconst 0, 1) := by decide +kernel
theorem dW_1410 : decode code 1410 = .ok (.ireturn, 1) := by decide +kernel
theorem dW_1411 : decode code 1411 = .ok (.goto (104), 3) := by decide +kernel
theorem dW_1414 : decode code 1414 = .ok (.aload_n 1, 1) := by decide +kernel
theorem dW_1415 : decode code 1415 = .ok (.aload_n 0, 1) := by decide +kernel
theorem dW_1416 : decode code 1416 = .ok (.iload 4, 2) := by decide +kernel
theorem dW_1418 : decode code 1418 = .ok (.iconst 1, 1) := by decide +kernel
theorem dW_1419 : decode code 1419 = .ok (.iadd, 1) := by decide +kernel
theorem dW_1420 : decode code 1420 = .ok (.iaload, 1) := by decide +kernel
theorem dW_1421 : decode code 1421 = .ok (.aload_n 3, 1) := by decide +kernel
theorem dW_1422 : decode code 1422 = .ok (.invokestatic 156, 3) := by decide +kernel
theorem dW_1425 : decode code 1425 = .ok (.istore 5, 2) := by decide +kernel
theorem dW_1427 : decode code 1427 = .ok (.aload_n 2, 1) := by decide +kernel
theorem dW_1428 : decode code 1428 = .ok (.aload_n 0, 1) := by decide +kernel
theorem dW_1429 : decode code 1429 = .ok (.iload 4, 2) := by decide +kernel
theorem dW_1431 : decode code 1431 = .ok (.iconst 1, 1) := by decide +kernel
theorem dW_1432 : decode code 1432 = .ok (.iadd, 1) := by decide +kernel
theorem dW_1433 : decode code 1433 = .ok (.iaload, 1) := by decide +kernel
theorem dW_1434 : decode code 1434 = .ok (.invokevirtual 158, 3) := by decide +kernel
theorem dW_1437 : decode code 1437 = .ok (.istore 6, 2) := by decide +kernel
theorem dW_1439 : decode code 1439 = .ok (.aload_n 2, 1) := by decide +kernel
theorem dW_1440 : decode code 1440 = .ok (.invokevirtual 95, 3) := by decide +kernel
theorem dW_1443 : decode code 1443 = .ok (.iload 5, 2) := by decide +kernel
theorem dW_1445 : decode code 1445 = .ok (.if_icmp .eq (5), 3) := by decide +kernel
theorem dW_1448 : decode code 1448 = .ok (.iconst 0, 1) := by decide +kernel
theorem dW_1449 : decode code 1449 = .ok (.ireturn, 1) := by decide +kernel
theorem dW_1450 : decode code 1450 = .ok (.iload 5, 2) := by decide +kernel
theorem dW_1452 : decode code 1452 = .ok (.ifCond .ne (22), 3) := by decide +kernel
theorem dW_1455 : decode code 1455 = .ok (.aload_n 3, 1) := by decide +kernel
theorem dW_1456 : decode code 1456 = .ok (.iconst 0, 1) := by decide +kernel
theorem dW_1457 : decode code 1457 = .ok (.laload, 1) := by decide +kernel
theorem dW_1458 : decode code 1458 = .ok (.iload 6, 2) := by decide +kernel
theorem dW_1460 : decode code 1460 = .ok (.ifCond .eq (7), 3) := by decide +kernel
theorem dW_1463 : decode code 1463 = .ok (.lconst 1, 1) := by decide +kernel
theorem dW_1464 : decode code 1464 = .ok (.goto (4), 3) := by decide +kernel
theorem dW_1467 : decode code 1467 = .ok (.lconst 0, 1) := by decide +kernel
theorem dW_1468 : decode code 1468 = .ok (.lcmp, 1) := by decide +kernel
theorem dW_1469 : decode code 1469 = .ok (.ifCond .eq (5), 3) := by decide +kernel
theorem dW_1472 : decode code 1472 = .ok (.iconst 0, 1) := by decide +kernel
theorem dW_1473 : decode code 1473 = .ok (.ireturn, 1) := by decide +kernel
theorem dW_1474 : decode code 1474 = .ok (.goto (41), 3) := by decide +kernel
theorem dW_1477 : decode code 1477 = .ok (.aload_n 1, 1) := by decide +kernel
theorem dW_1478 : decode code 1478 = .ok (.invokevirtual 159, 3) := by decide +kernel
theorem dW_1481 : decode code 1481 = .ok (.aload_n 2, 1) := by decide +kernel
theorem dW_1482 : decode code 1482 = .ok (.invokevirtual 162, 3) := by decide +kernel
theorem dW_1485 : decode code 1485 = .ok (.if_icmp .eq (30), 3) := by decide +kernel
theorem dW_1488 : decode code 1488 = .ok (.iconst 0, 1) := by decide +kernel
theorem dW_1489 : decode code 1489 = .ok (.ireturn, 1) := by decide +kernel
theorem dW_1490 : decode code 1490 = .ok (.aload_n 1, 1) := by decide +kernel
theorem dW_1491 : decode code 1491 = .ok (.aload_n 0, 1) := by decide +kernel
theorem dW_1492 : decode code 1492 = .ok (.iload 4, 2) := by decide +kernel
theorem dW_1494 : decode code 1494 = .ok (.iconst 1, 1) := by decide +kernel
theorem dW_1495 : decode code 1495 = .ok (.iadd, 1) := by decide +kernel
theorem dW_1496 : decode code 1496 = .ok (.iaload, 1) := by decide +kernel
theorem dW_1497 : decode code 1497 = .ok (.invokevirtual 163, 3) := by decide +kernel
theorem dW_1500 : decode code 1500 = .ok (.aload_n 2, 1) := by decide +kernel
theorem dW_1501 : decode code 1501 = .ok (.aload_n 0, 1) := by decide +kernel
theorem dW_1502 : decode code 1502 = .ok (.iload 4, 2) := by decide +kernel
theorem dW_1504 : decode code 1504 = .ok (.iconst 1, 1) := by decide +kernel
theorem dW_1505 : decode code 1505 = .ok (.iadd, 1) := by decide +kernel
theorem dW_1506 : decode code 1506 = .ok (.iaload, 1) := by decide +kernel
theorem dW_1507 : decode code 1507 = .ok (.invokevirtual 166, 3) := by decide +kernel
theorem dW_1510 : decode code 1510 = .ok (.if_icmp .eq (5), 3) := by decide +kernel
theorem dW_1513 : decode code 1513 = .ok (.iconst 0, 1) := by decide +kernel
theorem dW_1514 : decode code 1514 = .ok (.ireturn, 1) := by decide +kernel
theorem dW_1515 : decode code 1515 = .ok (.iinc 4 (6), 3) := by decide +kernel
theorem dW_1518 : decode code 1518 = .ok (.goto (-1495), 3) := by decide +kernel
theorem dW_1521 : decode code 1521 = .ok (.iconst 1, 1) := by decide +kernel
theorem dW_1522 : decode code 1522 = .ok (.ireturn, 1) := by decide +kernel
def Y_law : sdY := ("SettingsDeskLaw", code, maxLocals, ret, .code x code maxLocals ret :: sdB0, room_1, 601024, 7293034, [])
theorem q696 : (.methodLink "SettingsDeskLaw" 89 ⟨"SettingsDeskLaw", "list", "(LSettingsDesk;[J)I"⟩ : Cond) ∈ sdB0 := sd_tb2 58 rfl rfl
theorem q697 : (.static ⟨"SettingsDeskLaw", "list", "(LSettingsDesk;[J)I"⟩ : Cond) ∈ sdB0 := sd_tb2 59 rfl rfl
theorem q698 : (.initialized "SettingsDeskLaw" : Cond) ∈ sdB0 := sd_tb1 0 rfl rfl
theorem q699 : (.codeWith ⟨"SettingsDeskLaw", "list", "(LSettingsDesk;[J)I"⟩ method_3_code 3 (some .int) [(0, 8, 11, 13)] : Cond) ∈ sdB0 := sd_tb2 60 rfl rfl
theorem q700 : (.methodLink "SettingsDeskLaw" 94 ⟨"SettingsDeskModel", "list", "()I"⟩ : Cond) ∈ sdB0 := sd_tb5 30 rfl rfl
theorem q701 : (.code ⟨"SettingsDeskModel", "list", "()I"⟩ prog_12_method_6_code 1 (some .int) : Cond) ∈ sdB0 := sd_tb5 33 rfl rfl
theorem q702 : (.instanceMethod ⟨"SettingsDeskModel", "list", "()I"⟩ : Cond) ∈ sdB0 := sd_tb5 31 rfl rfl
theorem q703 : (.selects "SettingsDeskModel" ⟨"SettingsDeskModel", "list", "()I"⟩ ⟨"SettingsDeskModel", "list", "()I"⟩ : Cond) ∈ sdB0 := sd_tb5 32 rfl rfl
theorem q704 : (.methodLink "SettingsDeskLaw" 95 ⟨"SettingsDeskModel", "thrown", "()I"⟩ : Cond) ∈ sdB0 := sd_tb5 26 rfl rfl
theorem q705 : (.code ⟨"SettingsDeskModel", "thrown", "()I"⟩ prog_12_method_2_code 1 (some .int) : Cond) ∈ sdB0 := sd_tb5 29 rfl rfl
theorem q706 : (.instanceMethod ⟨"SettingsDeskModel", "thrown", "()I"⟩ : Cond) ∈ sdB0 := sd_tb5 27 rfl rfl
theorem q707 : (.selects "SettingsDeskModel" ⟨"SettingsDeskModel", "thrown", "()I"⟩ ⟨"SettingsDeskModel", "thrown", "()I"⟩ : Cond) ∈ sdB0 := sd_tb5 28 rfl rfl
theorem q708 : (.methodLink "SettingsDeskLaw" 98 ⟨"SettingsDeskLaw", "leaf", "(LSettingsDesk;IIIII[J)I"⟩ : Cond) ∈ sdB0 := sd_tb2 140 rfl rfl
theorem q709 : (.static ⟨"SettingsDeskLaw", "leaf", "(LSettingsDesk;IIIII[J)I"⟩ : Cond) ∈ sdB0 := sd_tb2 141 rfl rfl
theorem q710 : (.codeWith ⟨"SettingsDeskLaw", "leaf", "(LSettingsDesk;IIIII[J)I"⟩ method_4_code 8 (some .int) [(0, 16, 19, 13), (0, 16, 23, 19), (0, 16, 27, 21)] : Cond) ∈ sdB0 := sd_tb2 142 rfl rfl
theorem q711 : (.methodLink "SettingsDeskLaw" 101 ⟨"SettingsDeskModel", "leaf", "(IIIII)I"⟩ : Cond) ∈ sdB0 := sd_tb5 34 rfl rfl
theorem q712 : (.code ⟨"SettingsDeskModel", "leaf", "(IIIII)I"⟩ prog_12_method_7_code 9 (some .int) : Cond) ∈ sdB0 := sd_tb5 37 rfl rfl
theorem q713 : (.instanceMethod ⟨"SettingsDeskModel", "leaf", "(IIIII)I"⟩ : Cond) ∈ sdB0 := sd_tb5 35 rfl rfl
theorem q714 : (.selects "SettingsDeskModel" ⟨"SettingsDeskModel", "leaf", "(IIIII)I"⟩ ⟨"SettingsDeskModel", "leaf", "(IIIII)I"⟩ : Cond) ∈ sdB0 := sd_tb5 36 rfl rfl
theorem q715 : (.methodLink "SettingsDeskLaw" 102 ⟨"SettingsDeskLaw", "standard", "(LSettingsDesk;III)I"⟩ : Cond) ∈ sdB0 := sd_tb2 203 rfl rfl
theorem q716 : (.static ⟨"SettingsDeskLaw", "standard", "(LSettingsDesk;III)I"⟩ : Cond) ∈ sdB0 := sd_tb2 204 rfl rfl
theorem q717 : (.codeWith ⟨"SettingsDeskLaw", "standard", "(LSettingsDesk;III)I"⟩ method_5_code 5 (some .int) [(0, 7, 10, 13), (0, 7, 14, 19), (0, 7, 18, 21)] : Cond) ∈ sdB0 := sd_tb2 205 rfl rfl
theorem q718 : (.methodLink "SettingsDeskLaw" 105 ⟨"SettingsDeskModel", "standard", "(III)V"⟩ : Cond) ∈ sdB0 := sd_tb5 42 rfl rfl
theorem q719 : (.code ⟨"SettingsDeskModel", "standard", "(III)V"⟩ prog_12_method_8_code 6 none : Cond) ∈ sdB0 := sd_tb5 45 rfl rfl
theorem q720 : (.instanceMethod ⟨"SettingsDeskModel", "standard", "(III)V"⟩ : Cond) ∈ sdB0 := sd_tb5 43 rfl rfl
theorem q721 : (.selects "SettingsDeskModel" ⟨"SettingsDeskModel", "standard", "(III)V"⟩ ⟨"SettingsDeskModel", "standard", "(III)V"⟩ : Cond) ∈ sdB0 := sd_tb5 44 rfl rfl
theorem q722 : (.methodLink "SettingsDeskLaw" 106 ⟨"SettingsDeskLaw", "rule", "(LSettingsDesk;IIIIZ[J)I"⟩ : Cond) ∈ sdB0 := sd_tb2 225 rfl rfl
theorem q723 : (.static ⟨"SettingsDeskLaw", "rule", "(LSettingsDesk;IIIIZ[J)I"⟩ : Cond) ∈ sdB0 := sd_tb2 226 rfl rfl
theorem q724 : (.codeWith ⟨"SettingsDeskLaw", "rule", "(LSettingsDesk;IIIIZ[J)I"⟩ method_6_code 8 (some .int) [(0, 16, 19, 13), (0, 16, 23, 19)] : Cond) ∈ sdB0 := sd_tb2 227 rfl rfl
theorem q725 : (.methodLink "SettingsDeskLaw" 109 ⟨"SettingsDeskModel", "rule", "(IIIIZ)I"⟩ : Cond) ∈ sdB0 := sd_tb5 50 rfl rfl
theorem q726 : (.code ⟨"SettingsDeskModel", "rule", "(IIIIZ)I"⟩ prog_12_method_9_code 6 (some .int) : Cond) ∈ sdB0 := sd_tb5 53 rfl rfl
theorem q727 : (.instanceMethod ⟨"SettingsDeskModel", "rule", "(IIIIZ)I"⟩ : Cond) ∈ sdB0 := sd_tb5 51 rfl rfl
theorem q728 : (.selects "SettingsDeskModel" ⟨"SettingsDeskModel", "rule", "(IIIIZ)I"⟩ ⟨"SettingsDeskModel", "rule", "(IIIIZ)I"⟩ : Cond) ∈ sdB0 := sd_tb5 52 rfl rfl
theorem q729 : (.methodLink "SettingsDeskLaw" 110 ⟨"SettingsDeskLaw", "ready", "(LSettingsDesk;[J)I"⟩ : Cond) ∈ sdB0 := sd_tb2 237 rfl rfl
theorem q730 : (.static ⟨"SettingsDeskLaw", "ready", "(LSettingsDesk;[J)I"⟩ : Cond) ∈ sdB0 := sd_tb2 238 rfl rfl
theorem q731 : (.codeWith ⟨"SettingsDeskLaw", "ready", "(LSettingsDesk;[J)I"⟩ method_7_code 3 (some .int) [(0, 15, 18, 13)] : Cond) ∈ sdB0 := sd_tb2 239 rfl rfl
theorem q732 : (.methodLink "SettingsDeskLaw" 112 ⟨"SettingsDeskModel", "ready", "()Z"⟩ : Cond) ∈ sdB0 := sd_tb5 54 rfl rfl
theorem q733 : (.code ⟨"SettingsDeskModel", "ready", "()Z"⟩ prog_12_method_10_code 1 (some .boolean) : Cond) ∈ sdB0 := sd_tb5 57 rfl rfl
theorem q734 : (.instanceMethod ⟨"SettingsDeskModel", "ready", "()Z"⟩ : Cond) ∈ sdB0 := sd_tb5 55 rfl rfl
theorem q735 : (.selects "SettingsDeskModel" ⟨"SettingsDeskModel", "ready", "()Z"⟩ ⟨"SettingsDeskModel", "ready", "()Z"⟩ : Cond) ∈ sdB0 := sd_tb5 56 rfl rfl
theorem q736 : (.methodLink "SettingsDeskLaw" 113 ⟨"SettingsDeskLaw", "begin", "(LSettingsDesk;I[J)I"⟩ : Cond) ∈ sdB0 := sd_tb3 81 rfl rfl
theorem q737 : (.static ⟨"SettingsDeskLaw", "begin", "(LSettingsDesk;I[J)I"⟩ : Cond) ∈ sdB0 := sd_tb3 82 rfl rfl
theorem q738 : (.codeWith ⟨"SettingsDeskLaw", "begin", "(LSettingsDesk;I[J)I"⟩ method_8_code 4 (some .int) [(0, 9, 12, 13), (0, 9, 15, 19)] : Cond) ∈ sdB0 := sd_tb3 83 rfl rfl
theorem q739 : (.methodLink "SettingsDeskLaw" 116 ⟨"SettingsDeskModel", "begin", "(I)I"⟩ : Cond) ∈ sdB0 := sd_tb5 94 rfl rfl
theorem q740 : (.code ⟨"SettingsDeskModel", "begin", "(I)I"⟩ prog_12_method_29_code 2 (some .int) : Cond) ∈ sdB0 := sd_tb5 97 rfl rfl
theorem q741 : (.instanceMethod ⟨"SettingsDeskModel", "begin", "(I)I"⟩ : Cond) ∈ sdB0 := sd_tb5 95 rfl rfl
theorem q742 : (.selects "SettingsDeskModel" ⟨"SettingsDeskModel", "begin", "(I)I"⟩ ⟨"SettingsDeskModel", "begin", "(I)I"⟩ : Cond) ∈ sdB0 := sd_tb5 96 rfl rfl
theorem q743 : (.methodLink "SettingsDeskLaw" 117 ⟨"SettingsDeskLaw", "entry", "(LSettingsDesk;IIIZ[J)I"⟩ : Cond) ∈ sdB0 := sd_tb3 107 rfl rfl
theorem q744 : (.static ⟨"SettingsDeskLaw", "entry", "(LSettingsDesk;IIIZ[J)I"⟩ : Cond) ∈ sdB0 := sd_tb3 108 rfl rfl
theorem q745 : (.codeWith ⟨"SettingsDeskLaw", "entry", "(LSettingsDesk;IIIZ[J)I"⟩ method_9_code 7 (some .int) [(0, 21, 24, 13), (0, 21, 28, 19), (0, 21, 32, 21), (0, 21, 36, 43)] : Cond) ∈ sdB0 := sd_tb3 109 rfl rfl
theorem q746 : (.methodLink "SettingsDeskLaw" 120 ⟨"SettingsDeskModel", "entry", "(IIIZ)Z"⟩ : Cond) ∈ sdB0 := sd_tb5 113 rfl rfl
theorem q747 : (.code ⟨"SettingsDeskModel", "entry", "(IIIZ)Z"⟩ prog_12_method_30_code 9 (some .boolean) : Cond) ∈ sdB0 := sd_tb5 116 rfl rfl
theorem q748 : (.instanceMethod ⟨"SettingsDeskModel", "entry", "(IIIZ)Z"⟩ : Cond) ∈ sdB0 := sd_tb5 114 rfl rfl
theorem q749 : (.selects "SettingsDeskModel" ⟨"SettingsDeskModel", "entry", "(IIIZ)Z"⟩ ⟨"SettingsDeskModel", "entry", "(IIIZ)Z"⟩ : Cond) ∈ sdB0 := sd_tb5 115 rfl rfl
theorem q750 : (.methodLink "SettingsDeskLaw" 121 ⟨"SettingsDeskLaw", "set", "(LSettingsDesk;IIIII)I"⟩ : Cond) ∈ sdB0 := sd_tb3 154 rfl rfl
theorem q751 : (.static ⟨"SettingsDeskLaw", "set", "(LSettingsDesk;IIIII)I"⟩ : Cond) ∈ sdB0 := sd_tb3 155 rfl rfl
theorem q752 : (.codeWith ⟨"SettingsDeskLaw", "set", "(LSettingsDesk;IIIII)I"⟩ method_10_code 7 (some .int) [(0, 11, 14, 13), (0, 11, 18, 19), (0, 11, 22, 21)] : Cond) ∈ sdB0 := sd_tb3 156 rfl rfl
theorem q753 : (.methodLink "SettingsDeskLaw" 124 ⟨"SettingsDeskModel", "set", "(IIIII)V"⟩ : Cond) ∈ sdB0 := sd_tb5 125 rfl rfl
theorem q754 : (.code ⟨"SettingsDeskModel", "set", "(IIIII)V"⟩ prog_12_method_32_code 9 none : Cond) ∈ sdB0 := sd_tb5 128 rfl rfl
theorem q755 : (.instanceMethod ⟨"SettingsDeskModel", "set", "(IIIII)V"⟩ : Cond) ∈ sdB0 := sd_tb5 126 rfl rfl
theorem q756 : (.selects "SettingsDeskModel" ⟨"SettingsDeskModel", "set", "(IIIII)V"⟩ ⟨"SettingsDeskModel", "set", "(IIIII)V"⟩ : Cond) ∈ sdB0 := sd_tb5 127 rfl rfl
theorem q757 : (.methodLink "SettingsDeskLaw" 125 ⟨"SettingsDeskLaw", "unset", "(LSettingsDesk;IIII[J)I"⟩ : Cond) ∈ sdB0 := sd_tb3 171 rfl rfl
theorem q758 : (.static ⟨"SettingsDeskLaw", "unset", "(LSettingsDesk;IIII[J)I"⟩ : Cond) ∈ sdB0 := sd_tb3 172 rfl rfl
theorem q759 : (.codeWith ⟨"SettingsDeskLaw", "unset", "(LSettingsDesk;IIII[J)I"⟩ method_11_code 7 (some .int) [(0, 21, 24, 13), (0, 21, 28, 19)] : Cond) ∈ sdB0 := sd_tb3 173 rfl rfl
theorem q760 : (.methodLink "SettingsDeskLaw" 128 ⟨"SettingsDeskModel", "unset", "(IIII)Z"⟩ : Cond) ∈ sdB0 := sd_tb5 133 rfl rfl
theorem q761 : (.code ⟨"SettingsDeskModel", "unset", "(IIII)Z"⟩ prog_12_method_33_code 7 (some .boolean) : Cond) ∈ sdB0 := sd_tb5 136 rfl rfl
theorem q762 : (.instanceMethod ⟨"SettingsDeskModel", "unset", "(IIII)Z"⟩ : Cond) ∈ sdB0 := sd_tb5 134 rfl rfl
theorem q763 : (.selects "SettingsDeskModel" ⟨"SettingsDeskModel", "unset", "(IIII)Z"⟩ ⟨"SettingsDeskModel", "unset", "(IIII)Z"⟩ : Cond) ∈ sdB0 := sd_tb5 135 rfl rfl
theorem q764 : (.methodLink "SettingsDeskLaw" 129 ⟨"SettingsDeskLaw", "get", "(LSettingsDesk;IIII[J)I"⟩ : Cond) ∈ sdB0 := sd_tb3 180 rfl rfl
theorem q765 : (.static ⟨"SettingsDeskLaw", "get", "(LSettingsDesk;IIII[J)I"⟩ : Cond) ∈ sdB0 := sd_tb3 181 rfl rfl
theorem q766 : (.codeWith ⟨"SettingsDeskLaw", "get", "(LSettingsDesk;IIII[J)I"⟩ method_12_code 7 (some .int) [(0, 14, 17, 13), (0, 14, 21, 19), (0, 14, 25, 43)] : Cond) ∈ sdB0 := sd_tb3 182 rfl rfl
theorem q767 : (.methodLink "SettingsDeskLaw" 131 ⟨"SettingsDeskModel", "get", "(IIII)I"⟩ : Cond) ∈ sdB0 := sd_tb5 137 rfl rfl
theorem q768 : (.code ⟨"SettingsDeskModel", "get", "(IIII)I"⟩ prog_12_method_34_code 8 (some .int) : Cond) ∈ sdB0 := sd_tb5 140 rfl rfl
theorem q769 : (.instanceMethod ⟨"SettingsDeskModel", "get", "(IIII)I"⟩ : Cond) ∈ sdB0 := sd_tb5 138 rfl rfl
theorem q770 : (.selects "SettingsDeskModel" ⟨"SettingsDeskModel", "get", "(IIII)I"⟩ ⟨"SettingsDeskModel", "get", "(IIII)I"⟩ : Cond) ∈ sdB0 := sd_tb5 139 rfl rfl
theorem q771 : (.methodLink "SettingsDeskLaw" 132 ⟨"SettingsDeskLaw", "lock", "(LSettingsDesk;IZ[J)I"⟩ : Cond) ∈ sdB0 := sd_tb3 195 rfl rfl
theorem q772 : (.static ⟨"SettingsDeskLaw", "lock", "(LSettingsDesk;IZ[J)I"⟩ : Cond) ∈ sdB0 := sd_tb3 196 rfl rfl
theorem q773 : (.codeWith ⟨"SettingsDeskLaw", "lock", "(LSettingsDesk;IZ[J)I"⟩ method_13_code 5 (some .int) [(0, 17, 20, 13), (0, 17, 24, 19)] : Cond) ∈ sdB0 := sd_tb3 197 rfl rfl
theorem q774 : (.methodLink "SettingsDeskLaw" 135 ⟨"SettingsDeskModel", "lock", "(IZ)Z"⟩ : Cond) ∈ sdB0 := sd_tb5 141 rfl rfl
theorem q775 : (.code ⟨"SettingsDeskModel", "lock", "(IZ)Z"⟩ prog_12_method_36_code 4 (some .boolean) : Cond) ∈ sdB0 := sd_tb5 144 rfl rfl
theorem q776 : (.instanceMethod ⟨"SettingsDeskModel", "lock", "(IZ)Z"⟩ : Cond) ∈ sdB0 := sd_tb5 142 rfl rfl
theorem q777 : (.selects "SettingsDeskModel" ⟨"SettingsDeskModel", "lock", "(IZ)Z"⟩ ⟨"SettingsDeskModel", "lock", "(IZ)Z"⟩ : Cond) ∈ sdB0 := sd_tb5 143 rfl rfl
theorem q778 : (.methodLink "SettingsDeskLaw" 136 ⟨"SettingsDeskLaw", "commit", "(LSettingsDesk;II[J)I"⟩ : Cond) ∈ sdB0 := sd_tb3 202 rfl rfl
theorem q779 : (.static ⟨"SettingsDeskLaw", "commit", "(LSettingsDesk;II[J)I"⟩ : Cond) ∈ sdB0 := sd_tb3 203 rfl rfl
theorem q780 : (.codeWith ⟨"SettingsDeskLaw", "commit", "(LSettingsDesk;II[J)I"⟩ method_14_code 5 (some .int) [(0, 10, 13, 13), (0, 10, 17, 19), (0, 10, 21, 21)] : Cond) ∈ sdB0 := sd_tb3 204 rfl rfl
theorem q781 : (.methodLink "SettingsDeskLaw" 139 ⟨"SettingsDeskModel", "commit", "(II)I"⟩ : Cond) ∈ sdB0 := sd_tb5 149 rfl rfl
theorem q782 : (.code ⟨"SettingsDeskModel", "commit", "(II)I"⟩ prog_12_method_41_code 4 (some .int) : Cond) ∈ sdB0 := sd_tb5 152 rfl rfl
theorem q783 : (.instanceMethod ⟨"SettingsDeskModel", "commit", "(II)I"⟩ : Cond) ∈ sdB0 := sd_tb5 150 rfl rfl
theorem q784 : (.selects "SettingsDeskModel" ⟨"SettingsDeskModel", "commit", "(II)I"⟩ ⟨"SettingsDeskModel", "commit", "(II)I"⟩ : Cond) ∈ sdB0 := sd_tb5 151 rfl rfl
theorem q785 : (.methodLink "SettingsDeskLaw" 140 ⟨"SettingsDeskLaw", "confirm", "(LSettingsDesk;[J)I"⟩ : Cond) ∈ sdB0 := sd_tb4 38 rfl rfl
theorem q786 : (.static ⟨"SettingsDeskLaw", "confirm", "(LSettingsDesk;[J)I"⟩ : Cond) ∈ sdB0 := sd_tb4 39 rfl rfl
theorem q787 : (.codeWith ⟨"SettingsDeskLaw", "confirm", "(LSettingsDesk;[J)I"⟩ method_15_code 3 (some .int) [(0, 15, 18, 13)] : Cond) ∈ sdB0 := sd_tb4 40 rfl rfl
theorem q788 : (.methodLink "SettingsDeskLaw" 142 ⟨"SettingsDeskModel", "confirm", "()Z"⟩ : Cond) ∈ sdB0 := sd_tb5 185 rfl rfl
theorem q789 : (.code ⟨"SettingsDeskModel", "confirm", "()Z"⟩ prog_12_method_42_code 2 (some .boolean) : Cond) ∈ sdB0 := sd_tb5 188 rfl rfl
theorem q790 : (.instanceMethod ⟨"SettingsDeskModel", "confirm", "()Z"⟩ : Cond) ∈ sdB0 := sd_tb5 186 rfl rfl
theorem q791 : (.selects "SettingsDeskModel" ⟨"SettingsDeskModel", "confirm", "()Z"⟩ ⟨"SettingsDeskModel", "confirm", "()Z"⟩ : Cond) ∈ sdB0 := sd_tb5 187 rfl rfl
theorem q792 : (.methodLink "SettingsDeskLaw" 143 ⟨"SettingsDeskLaw", "tick", "(LSettingsDesk;[J)I"⟩ : Cond) ∈ sdB0 := sd_tb4 45 rfl rfl
theorem q793 : (.static ⟨"SettingsDeskLaw", "tick", "(LSettingsDesk;[J)I"⟩ : Cond) ∈ sdB0 := sd_tb4 46 rfl rfl
theorem q794 : (.codeWith ⟨"SettingsDeskLaw", "tick", "(LSettingsDesk;[J)I"⟩ method_16_code 3 (some .int) [(0, 15, 18, 13)] : Cond) ∈ sdB0 := sd_tb4 47 rfl rfl
theorem q795 : (.methodLink "SettingsDeskLaw" 145 ⟨"SettingsDeskModel", "tick", "()Z"⟩ : Cond) ∈ sdB0 := sd_tb5 189 rfl rfl
theorem q796 : (.code ⟨"SettingsDeskModel", "tick", "()Z"⟩ prog_12_method_43_code 2 (some .boolean) : Cond) ∈ sdB0 := sd_tb5 192 rfl rfl
theorem q797 : (.instanceMethod ⟨"SettingsDeskModel", "tick", "()Z"⟩ : Cond) ∈ sdB0 := sd_tb5 190 rfl rfl
theorem q798 : (.selects "SettingsDeskModel" ⟨"SettingsDeskModel", "tick", "()Z"⟩ ⟨"SettingsDeskModel", "tick", "()Z"⟩ : Cond) ∈ sdB0 := sd_tb5 191 rfl rfl
theorem q799 : (.methodLink "SettingsDeskLaw" 146 ⟨"SettingsDeskLaw", "rollback", "(LSettingsDesk;II[J)I"⟩ : Cond) ∈ sdB0 := sd_tb4 56 rfl rfl
theorem q800 : (.static ⟨"SettingsDeskLaw", "rollback", "(LSettingsDesk;II[J)I"⟩ : Cond) ∈ sdB0 := sd_tb4 57 rfl rfl
theorem q801 : (.codeWith ⟨"SettingsDeskLaw", "rollback", "(LSettingsDesk;II[J)I"⟩ method_17_code 5 (some .int) [(0, 10, 13, 13), (0, 10, 17, 19), (0, 10, 21, 21)] : Cond) ∈ sdB0 := sd_tb4 58 rfl rfl
theorem q802 : (.methodLink "SettingsDeskLaw" 148 ⟨"SettingsDeskModel", "rollback", "(II)I"⟩ : Cond) ∈ sdB0 := sd_tb5 193 rfl rfl
theorem q803 : (.code ⟨"SettingsDeskModel", "rollback", "(II)I"⟩ prog_12_method_44_code 3 (some .int) : Cond) ∈ sdB0 := sd_tb5 196 rfl rfl
theorem q804 : (.instanceMethod ⟨"SettingsDeskModel", "rollback", "(II)I"⟩ : Cond) ∈ sdB0 := sd_tb5 194 rfl rfl
theorem q805 : (.selects "SettingsDeskModel" ⟨"SettingsDeskModel", "rollback", "(II)I"⟩ ⟨"SettingsDeskModel", "rollback", "(II)I"⟩ : Cond) ∈ sdB0 := sd_tb5 195 rfl rfl
theorem q806 : (.methodLink "SettingsDeskLaw" 149 ⟨"SettingsDeskLaw", "diff", "(LSettingsDesk;III[J)I"⟩ : Cond) ∈ sdB0 := sd_tb4 64 rfl rfl
theorem q807 : (.static ⟨"SettingsDeskLaw", "diff", "(LSettingsDesk;III[J)I"⟩ : Cond) ∈ sdB0 := sd_tb4 65 rfl rfl
theorem q808 : (.codeWith ⟨"SettingsDeskLaw", "diff", "(LSettingsDesk;III[J)I"⟩ method_18_code 6 (some .int) [(0, 12, 15, 13), (0, 12, 19, 19)] : Cond) ∈ sdB0 := sd_tb4 66 rfl rfl
theorem q809 : (.methodLink "SettingsDeskLaw" 152 ⟨"SettingsDeskModel", "diff", "(III)I"⟩ : Cond) ∈ sdB0 := sd_tb5 197 rfl rfl
theorem q810 : (.code ⟨"SettingsDeskModel", "diff", "(III)I"⟩ prog_12_method_47_code 4 (some .int) : Cond) ∈ sdB0 := sd_tb5 200 rfl rfl
theorem q811 : (.instanceMethod ⟨"SettingsDeskModel", "diff", "(III)I"⟩ : Cond) ∈ sdB0 := sd_tb5 198 rfl rfl
theorem q812 : (.selects "SettingsDeskModel" ⟨"SettingsDeskModel", "diff", "(III)I"⟩ ⟨"SettingsDeskModel", "diff", "(III)I"⟩ : Cond) ∈ sdB0 := sd_tb5 199 rfl rfl
theorem q813 : (.methodLink "SettingsDeskLaw" 153 ⟨"SettingsDeskLaw", "save", "(LSettingsDesk;[J)I"⟩ : Cond) ∈ sdB0 := sd_tb4 126 rfl rfl
theorem q814 : (.static ⟨"SettingsDeskLaw", "save", "(LSettingsDesk;[J)I"⟩ : Cond) ∈ sdB0 := sd_tb4 127 rfl rfl
theorem q815 : (.codeWith ⟨"SettingsDeskLaw", "save", "(LSettingsDesk;[J)I"⟩ method_19_code 3 (some .int) [(0, 8, 11, 13)] : Cond) ∈ sdB0 := sd_tb4 128 rfl rfl
theorem q816 : (.methodLink "SettingsDeskLaw" 155 ⟨"SettingsDeskModel", "save", "()I"⟩ : Cond) ∈ sdB0 := sd_tb5 209 rfl rfl
theorem q817 : (.code ⟨"SettingsDeskModel", "save", "()I"⟩ prog_12_method_48_code 3 (some .int) : Cond) ∈ sdB0 := sd_tb5 212 rfl rfl
theorem q818 : (.instanceMethod ⟨"SettingsDeskModel", "save", "()I"⟩ : Cond) ∈ sdB0 := sd_tb5 210 rfl rfl
theorem q819 : (.selects "SettingsDeskModel" ⟨"SettingsDeskModel", "save", "()I"⟩ ⟨"SettingsDeskModel", "save", "()I"⟩ : Cond) ∈ sdB0 := sd_tb5 211 rfl rfl
theorem q820 : (.methodLink "SettingsDeskLaw" 156 ⟨"SettingsDeskLaw", "cut", "(LSettingsDesk;I[J)I"⟩ : Cond) ∈ sdB0 := sd_tb4 145 rfl rfl
theorem q821 : (.static ⟨"SettingsDeskLaw", "cut", "(LSettingsDesk;I[J)I"⟩ : Cond) ∈ sdB0 := sd_tb4 146 rfl rfl
theorem q822 : (.codeWith ⟨"SettingsDeskLaw", "cut", "(LSettingsDesk;I[J)I"⟩ method_20_code 4 (some .int) [(0, 16, 19, 21)] : Cond) ∈ sdB0 := sd_tb4 147 rfl rfl
theorem q823 : (.methodLink "SettingsDeskLaw" 158 ⟨"SettingsDeskModel", "cut", "(I)Z"⟩ : Cond) ∈ sdB0 := sd_tb5 213 rfl rfl
theorem q824 : (.code ⟨"SettingsDeskModel", "cut", "(I)Z"⟩ prog_12_method_49_code 2 (some .boolean) : Cond) ∈ sdB0 := sd_tb5 216 rfl rfl
theorem q825 : (.instanceMethod ⟨"SettingsDeskModel", "cut", "(I)Z"⟩ : Cond) ∈ sdB0 := sd_tb5 214 rfl rfl
theorem q826 : (.selects "SettingsDeskModel" ⟨"SettingsDeskModel", "cut", "(I)Z"⟩ ⟨"SettingsDeskModel", "cut", "(I)Z"⟩ : Cond) ∈ sdB0 := sd_tb5 215 rfl rfl
theorem q827 : (.methodLink "SettingsDeskLaw" 159 ⟨"SettingsDesk", "reboot", "()Z"⟩ : Cond) ∈ sdB0 := sd_tb1 237 rfl rfl
theorem q828 : (.code ⟨"SettingsDesk", "reboot", "()Z"⟩ prog_1_method_20_code 2 (some .boolean) : Cond) ∈ sdB0 := sd_tb2 0 rfl rfl
theorem q829 : (.instanceMethod ⟨"SettingsDesk", "reboot", "()Z"⟩ : Cond) ∈ sdB0 := sd_tb1 238 rfl rfl
theorem q830 : (.selects "SettingsDesk" ⟨"SettingsDesk", "reboot", "()Z"⟩ ⟨"SettingsDesk", "reboot", "()Z"⟩ : Cond) ∈ sdB0 := sd_tb1 239 rfl rfl
theorem q831 : (.methodLink "SettingsDeskLaw" 162 ⟨"SettingsDeskModel", "reboot", "()Z"⟩ : Cond) ∈ sdB0 := sd_tb5 217 rfl rfl
theorem q832 : (.code ⟨"SettingsDeskModel", "reboot", "()Z"⟩ prog_12_method_50_code 3 (some .boolean) : Cond) ∈ sdB0 := sd_tb5 220 rfl rfl
theorem q833 : (.instanceMethod ⟨"SettingsDeskModel", "reboot", "()Z"⟩ : Cond) ∈ sdB0 := sd_tb5 218 rfl rfl
theorem q834 : (.selects "SettingsDeskModel" ⟨"SettingsDeskModel", "reboot", "()Z"⟩ ⟨"SettingsDeskModel", "reboot", "()Z"⟩ : Cond) ∈ sdB0 := sd_tb5 219 rfl rfl
theorem q835 : (.methodLink "SettingsDeskLaw" 163 ⟨"SettingsDesk", "figure", "(I)I"⟩ : Cond) ∈ sdB0 := sd_tb2 47 rfl rfl
theorem q836 : (.code ⟨"SettingsDesk", "figure", "(I)I"⟩ prog_1_method_21_code 2 (some .int) : Cond) ∈ sdB0 := sd_tb2 50 rfl rfl
theorem q837 : (.instanceMethod ⟨"SettingsDesk", "figure", "(I)I"⟩ : Cond) ∈ sdB0 := sd_tb2 48 rfl rfl
theorem q838 : (.selects "SettingsDesk" ⟨"SettingsDesk", "figure", "(I)I"⟩ ⟨"SettingsDesk", "figure", "(I)I"⟩ : Cond) ∈ sdB0 := sd_tb2 49 rfl rfl
theorem q839 : (.methodLink "SettingsDeskLaw" 166 ⟨"SettingsDeskModel", "figure", "(I)I"⟩ : Cond) ∈ sdB0 := sd_tb5 221 rfl rfl
theorem q840 : (.code ⟨"SettingsDeskModel", "figure", "(I)I"⟩ prog_12_method_51_code 2 (some .int) : Cond) ∈ sdB0 := sd_tb5 224 rfl rfl
theorem q841 : (.instanceMethod ⟨"SettingsDeskModel", "figure", "(I)I"⟩ : Cond) ∈ sdB0 := sd_tb5 222 rfl rfl
theorem q842 : (.selects "SettingsDeskModel" ⟨"SettingsDeskModel", "figure", "(I)I"⟩ ⟨"SettingsDeskModel", "figure", "(I)I"⟩ : Cond) ∈ sdB0 := sd_tb5 223 rfl rfl
theorem q843 : (.classLink "SettingsDeskLaw" 8 "SettingsDesk" : Cond) ∈ sdB0 := sd_tb1 22 rfl rfl
theorem q844 : (.instantiable "SettingsDesk" 12 : Cond) ∈ sdB0 := sd_tb1 23 rfl rfl
theorem q845 : (.code ⟨"SettingsDesk", "<init>", "()V"⟩ prog_1_method_1_code 2 none : Cond) ∈ sdB0 := sd_tb1 26 rfl rfl
theorem q846 : (.instanceMethod ⟨"SettingsDesk", "<init>", "()V"⟩ : Cond) ∈ sdB0 := sd_tb1 25 rfl rfl
theorem q847 : (.methodLink "SettingsDeskLaw" 85 ⟨"SettingsDesk", "<init>", "()V"⟩ : Cond) ∈ sdB0 := sd_tb1 24 rfl rfl
theorem q848 : (.classLink "SettingsDeskLaw" 86 "SettingsDeskModel" : Cond) ∈ sdB0 := sd_tb4 153 rfl rfl
theorem q849 : (.instantiable "SettingsDeskModel" 35 : Cond) ∈ sdB0 := sd_tb4 154 rfl rfl
theorem q850 : (.code ⟨"SettingsDeskModel", "<init>", "()V"⟩ prog_12_method_1_code 2 none : Cond) ∈ sdB0 := sd_tb4 157 rfl rfl
theorem q851 : (.instanceMethod ⟨"SettingsDeskModel", "<init>", "()V"⟩ : Cond) ∈ sdB0 := sd_tb4 156 rfl rfl
theorem q852 : (.methodLink "SettingsDeskLaw" 88 ⟨"SettingsDeskModel", "<init>", "()V"⟩ : Cond) ∈ sdB0 := sd_tb4 155 rfl rfl
theorem q853 : (.arrayClass .long : Cond) ∈ sdB0 := sd_tb5 225 rfl rfl
theorem cw_law_L_list : sd_cwSH Y_law Y_L_list y_L_list 89 2 := ⟨sd_goodS q696 q697 q698 q699, ⟨_, rfl⟩, ⟨rfl, rfl, rfl, rfl⟩, ⟨by decide, by decide, by decide +kernel⟩, ⟨by decide, by decide⟩⟩
theorem cw_law_O_list : sd_cwV Y_law Y_O_list y_O_list 94 0 "SettingsDeskModel" := ⟨sd_goodV q700 q702 q703 q459 q701, ⟨_, rfl⟩, ⟨rfl, rfl, rfl, rfl⟩, ⟨rfl, by decide, by decide, by decide +kernel⟩, ⟨by decide, by decide⟩⟩
theorem cw_law_O_thrown : sd_cwV Y_law Y_O_thrown y_O_thrown 95 0 "SettingsDeskModel" := ⟨sd_goodV q704 q706 q707 q459 q705, ⟨_, rfl⟩, ⟨rfl, rfl, rfl, rfl⟩, ⟨rfl, by decide, by decide, by decide +kernel⟩, ⟨by decide, by decide⟩⟩
theorem cw_law_L_leaf : sd_cwSH Y_law Y_L_leaf y_L_leaf 98 7 := ⟨sd_goodS q708 q709 q698 q710, ⟨_, rfl⟩, ⟨rfl, rfl, rfl, rfl⟩, ⟨by decide, by decide, by decide +kernel⟩, ⟨by decide, by decide⟩⟩
theorem cw_law_O_leaf : sd_cwV Y_law Y_O_leaf y_O_leaf 101 5 "SettingsDeskModel" := ⟨sd_goodV q711 q713 q714 q459 q712, ⟨_, rfl⟩, ⟨rfl, rfl, rfl, rfl⟩, ⟨rfl, by decide, by decide, by decide +kernel⟩, ⟨by decide, by decide⟩⟩
theorem cw_law_L_standard : sd_cwSH Y_law Y_L_standard y_L_standard 102 4 := ⟨sd_goodS q715 q716 q698 q717, ⟨_, rfl⟩, ⟨rfl, rfl, rfl, rfl⟩, ⟨by decide, by decide, by decide +kernel⟩, ⟨by decide, by decide⟩⟩
theorem cw_law_O_standard : sd_cwV Y_law Y_O_standard y_O_standard 105 3 "SettingsDeskModel" := ⟨sd_goodV q718 q720 q721 q459 q719, ⟨_, rfl⟩, ⟨rfl, rfl, rfl, rfl⟩, ⟨rfl, by decide, by decide, by decide +kernel⟩, ⟨by decide, by decide⟩⟩
theorem cw_law_L_rule : sd_cwSH Y_law Y_L_rule y_L_rule 106 7 := ⟨sd_goodS q722 q723 q698 q724, ⟨_, rfl⟩, ⟨rfl, rfl, rfl, rfl⟩, ⟨by decide, by decide, by decide +kernel⟩, ⟨by decide, by decide⟩⟩
theorem cw_law_O_rule : sd_cwV Y_law Y_O_rule y_O_rule 109 5 "SettingsDeskModel" := ⟨sd_goodV q725 q727 q728 q459 q726, ⟨_, rfl⟩, ⟨rfl, rfl, rfl, rfl⟩, ⟨rfl, by decide, by decide, by decide +kernel⟩, ⟨by decide, by decide⟩⟩
theorem cw_law_L_ready : sd_cwSH Y_law Y_L_ready y_L_ready 110 2 := ⟨sd_goodS q729 q730 q698 q731, ⟨_, rfl⟩, ⟨rfl, rfl, rfl, rfl⟩, ⟨by decide, by decide, by decide +kernel⟩, ⟨by decide, by decide⟩⟩
theorem cw_law_O_ready : sd_cwV Y_law Y_O_ready y_O_ready 112 0 "SettingsDeskModel" := ⟨sd_goodV q732 q734 q735 q459 q733, ⟨_, rfl⟩, ⟨rfl, rfl, rfl, rfl⟩, ⟨rfl, by decide, by decide, by decide +kernel⟩, ⟨by decide, by decide⟩⟩
theorem cw_law_L_begin : sd_cwSH Y_law Y_L_begin y_L_begin 113 3 := ⟨sd_goodS q736 q737 q698 q738, ⟨_, rfl⟩, ⟨rfl, rfl, rfl, rfl⟩, ⟨by decide, by decide, by decide +kernel⟩, ⟨by decide, by decide⟩⟩
theorem cw_law_O_begin : sd_cwV Y_law Y_O_begin y_O_begin 116 1 "SettingsDeskModel" := ⟨sd_goodV q739 q741 q742 q459 q740, ⟨_, rfl⟩, ⟨rfl, rfl, rfl, rfl⟩, ⟨rfl, by decide, by decide, by decide +kernel⟩, ⟨by decide, by decide⟩⟩
theorem cw_law_L_entry : sd_cwSH Y_law Y_L_entry y_L_entry 117 6 := ⟨sd_goodS q743 q744 q698 q745, ⟨_, rfl⟩, ⟨rfl, rfl, rfl, rfl⟩, ⟨by decide, by decide, by decide +kernel⟩, ⟨by decide, by decide⟩⟩
theorem cw_law_O_entry : sd_cwV Y_law Y_O_entry y_O_entry 120 4 "SettingsDeskModel" := ⟨sd_goodV q746 q748 q749 q459 q747, ⟨_, rfl⟩, ⟨rfl, rfl, rfl, rfl⟩, ⟨rfl, by decide, by decide, by decide +kernel⟩, ⟨by decide, by decide⟩⟩
theorem cw_law_L_set : sd_cwSH Y_law Y_L_set y_L_set 121 6 := ⟨sd_goodS q750 q751 q698 q752, ⟨_, rfl⟩, ⟨rfl, rfl, rfl, rfl⟩, ⟨by decide, by decide, by decide +kernel⟩, ⟨by decide, by decide⟩⟩
theorem cw_law_O_set : sd_cwV Y_law Y_O_set y_O_set 124 5 "SettingsDeskModel" := ⟨sd_goodV q753 q755 q756 q459 q754, ⟨_, rfl⟩, ⟨rfl, rfl, rfl, rfl⟩, ⟨rfl, by decide, by decide, by decide +kernel⟩, ⟨by decide, by decide⟩⟩
theorem cw_law_L_unset : sd_cwSH Y_law Y_L_unset y_L_unset 125 6 := ⟨sd_goodS q757 q758 q698 q759, ⟨_, rfl⟩, ⟨rfl, rfl, rfl, rfl⟩, ⟨by decide, by decide, by decide +kernel⟩, ⟨by decide, by decide⟩⟩
theorem cw_law_O_unset : sd_cwV Y_law Y_O_unset y_O_unset 128 4 "SettingsDeskModel" := ⟨sd_goodV q760 q762 q763 q459 q761, ⟨_, rfl⟩, ⟨rfl, rfl, rfl, rfl⟩, ⟨rfl, by decide, by decide, by decide +kernel⟩, ⟨by decide, by decide⟩⟩
theorem cw_law_L_get : sd_cwSH Y_law Y_L_get y_L_get 129 6 := ⟨sd_goodS q764 q765 q698 q766, ⟨_, rfl⟩, ⟨rfl, rfl, rfl, rfl⟩, ⟨by decide, by decide, by decide +kernel⟩, ⟨by decide, by decide⟩⟩
theorem cw_law_O_get : sd_cwV Y_law Y_O_get y_O_get 131 4 "SettingsDeskModel" := ⟨sd_goodV q767 q769 q770 q459 q768, ⟨_, rfl⟩, ⟨rfl, rfl, rfl, rfl⟩, ⟨rfl, by decide, by decide, by decide +kernel⟩, ⟨by decide, by decide⟩⟩
theorem cw_law_L_lock : sd_cwSH Y_law Y_L_lock y_L_lock 132 4 := ⟨sd_goodS q771 q772 q698 q773, ⟨_, rfl⟩, ⟨rfl, rfl, rfl, rfl⟩, ⟨by decide, by decide, by decide +kernel⟩, ⟨by decide, by decide⟩⟩
theorem cw_law_O_lock : sd_cwV Y_law Y_O_lock y_O_lock 135 2 "SettingsDeskModel" := ⟨sd_goodV q774 q776 q777 q459 q775, ⟨_, rfl⟩, ⟨rfl, rfl, rfl, rfl⟩, ⟨rfl, by decide, by decide, by decide +kernel⟩, ⟨by decide, by decide⟩⟩
theorem cw_law_L_commit : sd_cwSH Y_law Y_L_commit y_L_commit 136 4 := ⟨sd_goodS q778 q779 q698 q780, ⟨_, rfl⟩, ⟨rfl, rfl, rfl, rfl⟩, ⟨by decide, by decide, by decide +kernel⟩, ⟨by decide, by decide⟩⟩
theorem cw_law_O_commit : sd_cwV Y_law Y_O_commit y_O_commit 139 2 "SettingsDeskModel" := ⟨sd_goodV q781 q783 q784 q459 q782, ⟨_, rfl⟩, ⟨rfl, rfl, rfl, rfl⟩, ⟨rfl, by decide, by decide, by decide +kernel⟩, ⟨by decide, by decide⟩⟩
theorem cw_law_L_confirm : sd_cwSH Y_law Y_L_confirm y_L_confirm 140 2 := ⟨sd_goodS q785 q786 q698 q787, ⟨_, rfl⟩, ⟨rfl, rfl, rfl, rfl⟩, ⟨by decide, by decide, by decide +kernel⟩, ⟨by decide, by decide⟩⟩
theorem cw_law_O_confirm : sd_cwV Y_law Y_O_confirm y_O_confirm 142 0 "SettingsDeskModel" := ⟨sd_goodV q788 q790 q791 q459 q789, ⟨_, rfl⟩, ⟨rfl, rfl, rfl, rfl⟩, ⟨rfl, by decide, by decide, by decide +kernel⟩, ⟨by decide, by decide⟩⟩
theorem cw_law_L_tick : sd_cwSH Y_law Y_L_tick y_L_tick 143 2 := ⟨sd_goodS q792 q793 q698 q794, ⟨_, rfl⟩, ⟨rfl, rfl, rfl, rfl⟩, ⟨by decide, by decide, by decide +kernel⟩, ⟨by decide, by decide⟩⟩
theorem cw_law_O_tick : sd_cwV Y_law Y_O_tick y_O_tick 145 0 "SettingsDeskModel" := ⟨sd_goodV q795 q797 q798 q459 q796, ⟨_, rfl⟩, ⟨rfl, rfl, rfl, rfl⟩, ⟨rfl, by decide, by decide, by decide +kernel⟩, ⟨by decide, by decide⟩⟩
theorem cw_law_L_rollback : sd_cwSH Y_law Y_L_rollback y_L_rollback 146 4 := ⟨sd_goodS q799 q800 q698 q801, ⟨_, rfl⟩, ⟨rfl, rfl, rfl, rfl⟩, ⟨by decide, by decide, by decide +kernel⟩, ⟨by decide, by decide⟩⟩
theorem cw_law_O_rollback : sd_cwV Y_law Y_O_rollback y_O_rollback 148 2 "SettingsDeskModel" := ⟨sd_goodV q802 q804 q805 q459 q803, ⟨_, rfl⟩, ⟨rfl, rfl, rfl, rfl⟩, ⟨rfl, by decide, by decide, by decide +kernel⟩, ⟨by decide, by decide⟩⟩
theorem cw_law_L_diff : sd_cwSH Y_law Y_L_diff y_L_diff 149 5 := ⟨sd_goodS q806 q807 q698 q808, ⟨_, rfl⟩, ⟨rfl, rfl, rfl, rfl⟩, ⟨by decide, by decide, by decide +kernel⟩, ⟨by decide, by decide⟩⟩
theorem cw_law_O_diff : sd_cwV Y_law Y_O_diff y_O_diff 152 3 "SettingsDeskModel" := ⟨sd_goodV q809 q811 q812 q459 q810, ⟨_, rfl⟩, ⟨rfl, rfl, rfl, rfl⟩, ⟨rfl, by decide, by decide, by decide +kernel⟩, ⟨by decide, by decide⟩⟩
theorem cw_law_L_save : sd_cwSH Y_law Y_L_save y_L_save 153 2 := ⟨sd_goodS q813 q814 q698 q815, ⟨_, rfl⟩, ⟨rfl, rfl, rfl, rfl⟩, ⟨by decide, by decide, by decide +kernel⟩, ⟨by decide, by decide⟩⟩
theorem cw_law_O_save : sd_cwV Y_law Y_O_save y_O_save 155 0 "SettingsDeskModel" := ⟨sd_goodV q816 q818 q819 q459 q817, ⟨_, rfl⟩, ⟨rfl, rfl, rfl, rfl⟩, ⟨rfl, by decide, by decide, by decide +kernel⟩, ⟨by decide, by decide⟩⟩
theorem cw_law_L_cut : sd_cwSH Y_law Y_L_cut y_L_cut 156 3 := ⟨sd_goodS q820 q821 q698 q822, ⟨_, rfl⟩, ⟨rfl, rfl, rfl, rfl⟩, ⟨by decide, by decide, by decide +kernel⟩, ⟨by decide, by decide⟩⟩
theorem cw_law_O_cut : sd_cwV Y_law Y_O_cut y_O_cut 158 1 "SettingsDeskModel" := ⟨sd_goodV q823 q825 q826 q459 q824, ⟨_, rfl⟩, ⟨rfl, rfl, rfl, rfl⟩, ⟨rfl, by decide, by decide, by decide +kernel⟩, ⟨by decide, by decide⟩⟩
theorem cw_law_D_reboot : sd_cwV Y_law Y_D_reboot y_D_reboot 159 0 "SettingsDesk" := ⟨sd_goodV q827 q829 q830 q274 q828, ⟨_, rfl⟩, ⟨rfl, rfl, rfl, rfl⟩, ⟨rfl, by decide, by decide, by decide +kernel⟩, ⟨by decide, by decide⟩⟩
theorem cw_law_O_reboot : sd_cwV Y_law Y_O_reboot y_O_reboot 162 0 "SettingsDeskModel" := ⟨sd_goodV q831 q833 q834 q459 q832, ⟨_, rfl⟩, ⟨rfl, rfl, rfl, rfl⟩, ⟨rfl, by decide, by decide, by decide +kernel⟩, ⟨by decide, by decide⟩⟩
theorem cw_law_D_figure : sd_cwV Y_law Y_D_figure y_D_figure 163 1 "SettingsDesk" := ⟨sd_goodV q835 q837 q838 q274 q836, ⟨_, rfl⟩, ⟨rfl, rfl, rfl, rfl⟩, ⟨rfl, by decide, by decide, by decide +kernel⟩, ⟨by decide, by decide⟩⟩
theorem cw_law_O_figure : sd_cwV Y_law Y_O_figure y_O_figure 166 1 "SettingsDeskModel" := ⟨sd_goodV q839 q841 q842 q459 q840, ⟨_, rfl⟩, ⟨rfl, rfl, rfl, rfl⟩, ⟨rfl, by decide, by decide, by decide +kernel⟩, ⟨by decide, by decide⟩⟩
