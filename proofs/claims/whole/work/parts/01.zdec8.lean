theorem d_L_law_0 : decode code 0 = .ok (.new 7, 3) := by decide +kernel
theorem d_L_law_3 : decode code 3 = .ok (.dup, 1) := by decide +kernel
theorem d_L_law_4 : decode code 4 = .ok (.invokespecial 9, 3) := by decide +kernel
theorem d_L_law_7 : decode code 7 = .ok (.astore_n 1, 1) := by decide +kernel
theorem d_L_law_8 : decode code 8 = .ok (.new 10, 3) := by decide +kernel
theorem d_L_law_11 : decode code 11 = .ok (.dup, 1) := by decide +kernel
theorem d_L_law_12 : decode code 12 = .ok (.invokespecial 12, 3) := by decide +kernel
theorem d_L_law_15 : decode code 15 = .ok (.astore_n 2, 1) := by decide +kernel
theorem d_L_law_16 : decode code 16 = .ok (.iconst 0, 1) := by decide +kernel
theorem d_L_law_17 : decode code 17 = .ok (.istore_n 3, 1) := by decide +kernel
theorem d_L_law_18 : decode code 18 = .ok (.iload_n 3, 1) := by decide +kernel
theorem d_L_law_19 : decode code 19 = .ok (.aload_n 0, 1) := by decide +kernel
theorem d_L_law_20 : decode code 20 = .ok (.arraylength, 1) := by decide +kernel
theorem d_L_law_21 : decode code 21 = .ok (.bipush 6, 2) := by decide +kernel
theorem d_L_law_23 : decode code 23 = .ok (.isub, 1) := by decide +kernel
theorem d_L_law_24 : decode code 24 = .ok (.if_icmp .gt 1290, 3) := by decide +kernel
theorem d_L_law_27 : decode code 27 = .ok (.aload_n 0, 1) := by decide +kernel
theorem d_L_law_28 : decode code 28 = .ok (.iload_n 3, 1) := by decide +kernel
theorem d_L_law_29 : decode code 29 = .ok (.iaload, 1) := by decide +kernel
theorem d_L_law_30 : decode code 30 = .ok (.bipush 63, 2) := by decide +kernel
theorem d_L_law_32 : decode code 32 = .ok (.iand, 1) := by decide +kernel
theorem d_L_law_33 : decode code 33 = .ok (.tableswitch 1275 0 40 #[179, 242, 275, 308, 341, 354, 397, 430, 493, 516, 529, 542, 555, 568, 581, 594, 617, 640, 663, 696, 709, 722, 756, 790, 803, 836, 869, 912, 955, 988, 1011, 1024, 1047, 1070, 1093, 1127, 1160, 1193, 1216, 1239, 1262], 179) := by decide +kernel
theorem d_L_law_212 : decode code 212 = .ok (.aload_n 1, 1) := by decide +kernel
theorem d_L_law_213 : decode code 213 = .ok (.aload_n 0, 1) := by decide +kernel
theorem d_L_law_214 : decode code 214 = .ok (.iload_n 3, 1) := by decide +kernel
theorem d_L_law_215 : decode code 215 = .ok (.iconst 1, 1) := by decide +kernel
theorem d_L_law_216 : decode code 216 = .ok (.iadd, 1) := by decide +kernel
theorem d_L_law_217 : decode code 217 = .ok (.iaload, 1) := by decide +kernel
theorem d_L_law_218 : decode code 218 = .ok (.aload_n 0, 1) := by decide +kernel
theorem d_L_law_219 : decode code 219 = .ok (.iload_n 3, 1) := by decide +kernel
theorem d_L_law_220 : decode code 220 = .ok (.iconst 2, 1) := by decide +kernel
theorem d_L_law_221 : decode code 221 = .ok (.iadd, 1) := by decide +kernel
theorem d_L_law_222 : decode code 222 = .ok (.iaload, 1) := by decide +kernel
theorem d_L_law_223 : decode code 223 = .ok (.aload_n 0, 1) := by decide +kernel
theorem d_L_law_224 : decode code 224 = .ok (.iload_n 3, 1) := by decide +kernel
theorem d_L_law_225 : decode code 225 = .ok (.iconst 3, 1) := by decide +kernel
theorem d_L_law_226 : decode code 226 = .ok (.iadd, 1) := by decide +kernel
theorem d_L_law_227 : decode code 227 = .ok (.iaload, 1) := by decide +kernel
theorem d_L_law_228 : decode code 228 = .ok (.aload_n 0, 1) := by decide +kernel
theorem d_L_law_229 : decode code 229 = .ok (.iload_n 3, 1) := by decide +kernel
theorem d_L_law_230 : decode code 230 = .ok (.iconst 4, 1) := by decide +kernel
theorem d_L_law_231 : decode code 231 = .ok (.iadd, 1) := by decide +kernel
theorem d_L_law_232 : decode code 232 = .ok (.iaload, 1) := by decide +kernel
theorem d_L_law_233 : decode code 233 = .ok (.aload_n 0, 1) := by decide +kernel
theorem d_L_law_234 : decode code 234 = .ok (.iload_n 3, 1) := by decide +kernel
theorem d_L_law_235 : decode code 235 = .ok (.iconst 5, 1) := by decide +kernel
theorem d_L_law_236 : decode code 236 = .ok (.iadd, 1) := by decide +kernel
theorem d_L_law_237 : decode code 237 = .ok (.iaload, 1) := by decide +kernel
theorem d_L_law_238 : decode code 238 = .ok (.invokevirtual 13, 3) := by decide +kernel
theorem d_L_law_241 : decode code 241 = .ok (.aload_n 2, 1) := by decide +kernel
theorem d_L_law_242 : decode code 242 = .ok (.aload_n 0, 1) := by decide +kernel
theorem d_L_law_243 : decode code 243 = .ok (.iload_n 3, 1) := by decide +kernel
theorem d_L_law_244 : decode code 244 = .ok (.iconst 1, 1) := by decide +kernel
theorem d_L_law_245 : decode code 245 = .ok (.iadd, 1) := by decide +kernel
theorem d_L_law_246 : decode code 246 = .ok (.iaload, 1) := by decide +kernel
theorem d_L_law_247 : decode code 247 = .ok (.aload_n 0, 1) := by decide +kernel
theorem d_L_law_248 : decode code 248 = .ok (.iload_n 3, 1) := by decide +kernel
theorem d_L_law_249 : decode code 249 = .ok (.iconst 2, 1) := by decide +kernel
theorem d_L_law_250 : decode code 250 = .ok (.iadd, 1) := by decide +kernel
theorem d_L_law_251 : decode code 251 = .ok (.iaload, 1) := by decide +kernel
theorem d_L_law_252 : decode code 252 = .ok (.aload_n 0, 1) := by decide +kernel
theorem d_L_law_253 : decode code 253 = .ok (.iload_n 3, 1) := by decide +kernel
theorem d_L_law_254 : decode code 254 = .ok (.iconst 3, 1) := by decide +kernel
theorem d_L_law_255 : decode code 255 = .ok (.iadd, 1) := by decide +kernel
theorem d_L_law_256 : decode code 256 = .ok (.iaload, 1) := by decide +kernel
theorem d_L_law_257 : decode code 257 = .ok (.aload_n 0, 1) := by decide +kernel
theorem d_L_law_258 : decode code 258 = .ok (.iload_n 3, 1) := by decide +kernel
theorem d_L_law_259 : decode code 259 = .ok (.iconst 4, 1) := by decide +kernel
theorem d_L_law_260 : decode code 260 = .ok (.iadd, 1) := by decide +kernel
theorem d_L_law_261 : decode code 261 = .ok (.iaload, 1) := by decide +kernel
theorem d_L_law_262 : decode code 262 = .ok (.aload_n 0, 1) := by decide +kernel
theorem d_L_law_263 : decode code 263 = .ok (.iload_n 3, 1) := by decide +kernel
theorem d_L_law_264 : decode code 264 = .ok (.iconst 5, 1) := by decide +kernel
theorem d_L_law_265 : decode code 265 = .ok (.iadd, 1) := by decide +kernel
theorem d_L_law_266 : decode code 266 = .ok (.iaload, 1) := by decide +kernel
theorem d_L_law_267 : decode code 267 = .ok (.invokevirtual 17, 3) := by decide +kernel
theorem d_L_law_270 : decode code 270 = .ok (.if_icmp .eq 1038, 3) := by decide +kernel
theorem d_L_law_273 : decode code 273 = .ok (.iconst 0, 1) := by decide +kernel
theorem d_L_law_274 : decode code 274 = .ok (.ireturn, 1) := by decide +kernel
theorem d_L_law_275 : decode code 275 = .ok (.aload_n 1, 1) := by decide +kernel
theorem d_L_law_276 : decode code 276 = .ok (.aload_n 0, 1) := by decide +kernel
theorem d_L_law_277 : decode code 277 = .ok (.iload_n 3, 1) := by decide +kernel
theorem d_L_law_278 : decode code 278 = .ok (.iconst 1, 1) := by decide +kernel
theorem d_L_law_279 : decode code 279 = .ok (.iadd, 1) := by decide +kernel
theorem d_L_law_280 : decode code 280 = .ok (.iaload, 1) := by decide +kernel
theorem d_L_law_281 : decode code 281 = .ok (.aload_n 0, 1) := by decide +kernel
theorem d_L_law_282 : decode code 282 = .ok (.iload_n 3, 1) := by decide +kernel
theorem d_L_law_283 : decode code 283 = .ok (.iconst 2, 1) := by decide +kernel
theorem d_L_law_284 : decode code 284 = .ok (.iadd, 1) := by decide +kernel
theorem d_L_law_285 : decode code 285 = .ok (.iaload, 1) := by decide +kernel
theorem d_L_law_286 : decode code 286 = .ok (.invokevirtual 18, 3) := by decide +kernel
theorem d_L_law_289 : decode code 289 = .ok (.aload_n 2, 1) := by decide +kernel
theorem d_L_law_290 : decode code 290 = .ok (.aload_n 0, 1) := by decide +kernel
theorem d_L_law_291 : decode code 291 = .ok (.iload_n 3, 1) := by decide +kernel
theorem d_L_law_292 : decode code 292 = .ok (.iconst 1, 1) := by decide +kernel
theorem d_L_law_293 : decode code 293 = .ok (.iadd, 1) := by decide +kernel
theorem d_L_law_294 : decode code 294 = .ok (.iaload, 1) := by decide +kernel
theorem d_L_law_295 : decode code 295 = .ok (.aload_n 0, 1) := by decide +kernel
theorem d_L_law_296 : decode code 296 = .ok (.iload_n 3, 1) := by decide +kernel
theorem d_L_law_297 : decode code 297 = .ok (.iconst 2, 1) := by decide +kernel
theorem d_L_law_298 : decode code 298 = .ok (.iadd, 1) := by decide +kernel
theorem d_L_law_299 : decode code 299 = .ok (.iaload, 1) := by decide +kernel
theorem d_L_law_300 : decode code 300 = .ok (.invokevirtual 22, 3) := by decide +kernel
theorem d_L_law_303 : decode code 303 = .ok (.if_icmp .eq 1005, 3) := by decide +kernel
theorem d_L_law_306 : decode code 306 = .ok (.iconst 0, 1) := by decide +kernel
theorem d_L_law_307 : decode code 307 = .ok (.ireturn, 1) := by decide +kernel
theorem d_L_law_308 : decode code 308 = .ok (.aload_n 1, 1) := by decide +kernel
theorem d_L_law_309 : decode code 309 = .ok (.aload_n 0, 1) := by decide +kernel
theorem d_L_law_310 : decode code 310 = .ok (.iload_n 3, 1) := by decide +kernel
theorem d_L_law_311 : decode code 311 = .ok (.iconst 1, 1) := by decide +kernel
theorem d_L_law_312 : decode code 312 = .ok (.iadd, 1) := by decide +kernel
theorem d_L_law_313 : decode code 313 = .ok (.iaload, 1) := by decide +kernel
theorem d_L_law_314 : decode code 314 = .ok (.aload_n 0, 1) := by decide +kernel
theorem d_L_law_315 : decode code 315 = .ok (.iload_n 3, 1) := by decide +kernel
theorem d_L_law_316 : decode code 316 = .ok (.iconst 2, 1) := by decide +kernel
theorem d_L_law_317 : decode code 317 = .ok (.iadd, 1) := by decide +kernel
theorem d_L_law_318 : decode code 318 = .ok (.iaload, 1) := by decide +kernel
theorem d_L_law_319 : decode code 319 = .ok (.invokevirtual 23, 3) := by decide +kernel
theorem d_L_law_322 : decode code 322 = .ok (.aload_n 2, 1) := by decide +kernel
theorem d_L_law_323 : decode code 323 = .ok (.aload_n 0, 1) := by decide +kernel
theorem d_L_law_324 : decode code 324 = .ok (.iload_n 3, 1) := by decide +kernel
theorem d_L_law_325 : decode code 325 = .ok (.iconst 1, 1) := by decide +kernel
theorem d_L_law_326 : decode code 326 = .ok (.iadd, 1) := by decide +kernel
theorem d_L_law_327 : decode code 327 = .ok (.iaload, 1) := by decide +kernel
theorem d_L_law_328 : decode code 328 = .ok (.aload_n 0, 1) := by decide +kernel
theorem d_L_law_329 : decode code 329 = .ok (.iload_n 3, 1) := by decide +kernel
theorem d_L_law_330 : decode code 330 = .ok (.iconst 2, 1) := by decide +kernel
theorem d_L_law_331 : decode code 331 = .ok (.iadd, 1) := by decide +kernel
theorem d_L_law_332 : decode code 332 = .ok (.iaload, 1) := by decide +kernel
theorem d_L_law_333 : decode code 333 = .ok (.invokevirtual 26, 3) := by decide +kernel
theorem d_L_law_336 : decode code 336 = .ok (.if_icmp .eq 972, 3) := by decide +kernel
theorem d_L_law_339 : decode code 339 = .ok (.iconst 0, 1) := by decide +kernel
theorem d_L_law_340 : decode code 340 = .ok (.ireturn, 1) := by decide +kernel
theorem d_L_law_341 : decode code 341 = .ok (.aload_n 1, 1) := by decide +kernel
theorem d_L_law_342 : decode code 342 = .ok (.aload_n 0, 1) := by decide +kernel
theorem d_L_law_343 : decode code 343 = .ok (.iload_n 3, 1) := by decide +kernel
theorem d_L_law_344 : decode code 344 = .ok (.iconst 1, 1) := by decide +kernel
theorem d_L_law_345 : decode code 345 = .ok (.iadd, 1) := by decide +kernel
theorem d_L_law_346 : decode code 346 = .ok (.iaload, 1) := by decide +kernel
theorem d_L_law_347 : decode code 347 = .ok (.aload_n 0, 1) := by decide +kernel
theorem d_L_law_348 : decode code 348 = .ok (.iload_n 3, 1) := by decide +kernel
theorem d_L_law_349 : decode code 349 = .ok (.iconst 2, 1) := by decide +kernel
theorem d_L_law_350 : decode code 350 = .ok (.iadd, 1) := by decide +kernel
theorem d_L_law_351 : decode code 351 = .ok (.iaload, 1) := by decide +kernel
theorem d_L_law_352 : decode code 352 = .ok (.invokevirtual 27, 3) := by decide +kernel
theorem d_L_law_355 : decode code 355 = .ok (.aload_n 2, 1) := by decide +kernel
theorem d_L_law_356 : decode code 356 = .ok (.aload_n 0, 1) := by decide +kernel
theorem d_L_law_357 : decode code 357 = .ok (.iload_n 3, 1) := by decide +kernel
theorem d_L_law_358 : decode code 358 = .ok (.iconst 1, 1) := by decide +kernel
theorem d_L_law_359 : decode code 359 = .ok (.iadd, 1) := by decide +kernel
theorem d_L_law_360 : decode code 360 = .ok (.iaload, 1) := by decide +kernel
theorem d_L_law_361 : decode code 361 = .ok (.aload_n 0, 1) := by decide +kernel
theorem d_L_law_362 : decode code 362 = .ok (.iload_n 3, 1) := by decide +kernel
theorem d_L_law_363 : decode code 363 = .ok (.iconst 2, 1) := by decide +kernel
theorem d_L_law_364 : decode code 364 = .ok (.iadd, 1) := by decide +kernel
theorem d_L_law_365 : decode code 365 = .ok (.iaload, 1) := by decide +kernel
theorem d_L_law_366 : decode code 366 = .ok (.invokevirtual 30, 3) := by decide +kernel
theorem d_L_law_369 : decode code 369 = .ok (.if_icmp .eq 939, 3) := by decide +kernel
theorem d_L_law_372 : decode code 372 = .ok (.iconst 0, 1) := by decide +kernel
theorem d_L_law_373 : decode code 373 = .ok (.ireturn, 1) := by decide +kernel
theorem d_L_law_374 : decode code 374 = .ok (.aload_n 1, 1) := by decide +kernel
theorem d_L_law_375 : decode code 375 = .ok (.invokevirtual 31, 3) := by decide +kernel
theorem d_L_law_378 : decode code 378 = .ok (.aload_n 2, 1) := by decide +kernel
theorem d_L_law_379 : decode code 379 = .ok (.invokevirtual 35, 3) := by decide +kernel
theorem d_L_law_382 : decode code 382 = .ok (.if_icmp .eq 926, 3) := by decide +kernel
theorem d_L_law_385 : decode code 385 = .ok (.iconst 0, 1) := by decide +kernel
theorem d_L_law_386 : decode code 386 = .ok (.ireturn, 1) := by decide +kernel
theorem d_L_law_387 : decode code 387 = .ok (.aload_n 1, 1) := by decide +kernel
theorem d_L_law_388 : decode code 388 = .ok (.aload_n 0, 1) := by decide +kernel
theorem d_L_law_389 : decode code 389 = .ok (.iload_n 3, 1) := by decide +kernel
theorem d_L_law_390 : decode code 390 = .ok (.iconst 1, 1) := by decide +kernel
theorem d_L_law_391 : decode code 391 = .ok (.iadd, 1) := by decide +kernel
theorem d_L_law_392 : decode code 392 = .ok (.iaload, 1) := by decide +kernel
theorem d_L_law_393 : decode code 393 = .ok (.aload_n 0, 1) := by decide +kernel
theorem d_L_law_394 : decode code 394 = .ok (.iload_n 3, 1) := by decide +kernel
theorem d_L_law_395 : decode code 395 = .ok (.iconst 2, 1) := by decide +kernel
theorem d_L_law_396 : decode code 396 = .ok (.iadd, 1) := by decide +kernel
theorem d_L_law_397 : decode code 397 = .ok (.iaload, 1) := by decide +kernel
theorem d_L_law_398 : decode code 398 = .ok (.aload_n 0, 1) := by decide +kernel
theorem d_L_law_399 : decode code 399 = .ok (.iload_n 3, 1) := by decide +kernel
theorem d_L_law_400 : decode code 400 = .ok (.iconst 3, 1) := by decide +kernel
theorem d_L_law_401 : decode code 401 = .ok (.iadd, 1) := by decide +kernel
theorem d_L_law_402 : decode code 402 = .ok (.iaload, 1) := by decide +kernel
theorem d_L_law_403 : decode code 403 = .ok (.invokevirtual 36, 3) := by decide +kernel
theorem d_L_law_406 : decode code 406 = .ok (.aload_n 2, 1) := by decide +kernel
theorem d_L_law_407 : decode code 407 = .ok (.aload_n 0, 1) := by decide +kernel
theorem d_L_law_408 : decode code 408 = .ok (.iload_n 3, 1) := by decide +kernel
theorem d_L_law_409 : decode code 409 = .ok (.iconst 1, 1) := by decide +kernel
theorem d_L_law_410 : decode code 410 = .ok (.iadd, 1) := by decide +kernel
theorem d_L_law_411 : decode code 411 = .ok (.iaload, 1) := by decide +kernel
theorem d_L_law_412 : decode code 412 = .ok (.aload_n 0, 1) := by decide +kernel
theorem d_L_law_413 : decode code 413 = .ok (.iload_n 3, 1) := by decide +kernel
theorem d_L_law_414 : decode code 414 = .ok (.iconst 2, 1) := by decide +kernel
theorem d_L_law_415 : decode code 415 = .ok (.iadd, 1) := by decide +kernel
theorem d_L_law_416 : decode code 416 = .ok (.iaload, 1) := by decide +kernel
theorem d_L_law_417 : decode code 417 = .ok (.aload_n 0, 1) := by decide +kernel
theorem d_L_law_418 : decode code 418 = .ok (.iload_n 3, 1) := by decide +kernel
theorem d_L_law_419 : decode code 419 = .ok (.iconst 3, 1) := by decide +kernel
theorem d_L_law_420 : decode code 420 = .ok (.iadd, 1) := by decide +kernel
theorem d_L_law_421 : decode code 421 = .ok (.iaload, 1) := by decide +kernel
theorem d_L_law_422 : decode code 422 = .ok (.invokevirtual 40, 3) := by decide +kernel
theorem d_L_law_425 : decode code 425 = .ok (.if_icmp .eq 883, 3) := by decide +kernel
theorem d_L_law_428 : decode code 428 = .ok (.iconst 0, 1) := by decide +kernel
theorem d_L_law_429 : decode code 429 = .ok (.ireturn, 1) := by decide +kernel
theorem d_L_law_430 : decode code 430 = .ok (.aload_n 1, 1) := by decide +kernel
theorem d_L_law_431 : decode code 431 = .ok (.aload_n 0, 1) := by decide +kernel
theorem d_L_law_432 : decode code 432 = .ok (.iload_n 3, 1) := by decide +kernel
theorem d_L_law_433 : decode code 433 = .ok (.iconst 1, 1) := by decide +kernel
theorem d_L_law_434 : decode code 434 = .ok (.iadd, 1) := by decide +kernel
theorem d_L_law_435 : decode code 435 = .ok (.iaload, 1) := by decide +kernel
theorem d_L_law_436 : decode code 436 = .ok (.aload_n 0, 1) := by decide +kernel
theorem d_L_law_437 : decode code 437 = .ok (.iload_n 3, 1) := by decide +kernel
theorem d_L_law_438 : decode code 438 = .ok (.iconst 2, 1) := by decide +kernel
theorem d_L_law_439 : decode code 439 = .ok (.iadd, 1) := by decide +kernel
theorem d_L_law_440 : decode code 440 = .ok (.iaload, 1) := by decide +kernel
theorem d_L_law_441 : decode code 441 = .ok (.invokevirtual 41, 3) := by decide +kernel
theorem d_L_law_444 : decode code 444 = .ok (.aload_n 2, 1) := by decide +kernel
theorem d_L_law_445 : decode code 445 = .ok (.aload_n 0, 1) := by decide +kernel
theorem d_L_law_446 : decode code 446 = .ok (.iload_n 3, 1) := by decide +kernel
theorem d_L_law_447 : decode code 447 = .ok (.iconst 1, 1) := by decide +kernel
theorem d_L_law_448 : decode code 448 = .ok (.iadd, 1) := by decide +kernel
theorem d_L_law_449 : decode code 449 = .ok (.iaload, 1) := by decide +kernel
theorem d_L_law_450 : decode code 450 = .ok (.aload_n 0, 1) := by decide +kernel
theorem d_L_law_451 : decode code 451 = .ok (.iload_n 3, 1) := by decide +kernel
theorem d_L_law_452 : decode code 452 = .ok (.iconst 2, 1) := by decide +kernel
theorem d_L_law_453 : decode code 453 = .ok (.iadd, 1) := by decide +kernel
theorem d_L_law_454 : decode code 454 = .ok (.iaload, 1) := by decide +kernel
theorem d_L_law_455 : decode code 455 = .ok (.invokevirtual 44, 3) := by decide +kernel
theorem d_L_law_458 : decode code 458 = .ok (.if_icmp .eq 850, 3) := by decide +kernel
theorem d_L_law_461 : decode code 461 = .ok (.iconst 0, 1) := by decide +kernel
theorem d_L_law_462 : decode code 462 = .ok (.ireturn, 1) := by decide +kernel
theorem d_L_law_463 : decode code 463 = .ok (.aload_n 1, 1) := by decide +kernel
theorem d_L_law_464 : decode code 464 = .ok (.aload_n 0, 1) := by decide +kernel
theorem d_L_law_465 : decode code 465 = .ok (.iload_n 3, 1) := by decide +kernel
theorem d_L_law_466 : decode code 466 = .ok (.iconst 1, 1) := by decide +kernel
theorem d_L_law_467 : decode code 467 = .ok (.iadd, 1) := by decide +kernel
theorem d_L_law_468 : decode code 468 = .ok (.iaload, 1) := by decide +kernel
theorem d_L_law_469 : decode code 469 = .ok (.aload_n 0, 1) := by decide +kernel
theorem d_L_law_470 : decode code 470 = .ok (.iload_n 3, 1) := by decide +kernel
theorem d_L_law_471 : decode code 471 = .ok (.iconst 2, 1) := by decide +kernel
theorem d_L_law_472 : decode code 472 = .ok (.iadd, 1) := by decide +kernel
theorem d_L_law_473 : decode code 473 = .ok (.iaload, 1) := by decide +kernel
theorem d_L_law_474 : decode code 474 = .ok (.aload_n 0, 1) := by decide +kernel
theorem d_L_law_475 : decode code 475 = .ok (.iload_n 3, 1) := by decide +kernel
theorem d_L_law_476 : decode code 476 = .ok (.iconst 3, 1) := by decide +kernel
theorem d_L_law_477 : decode code 477 = .ok (.iadd, 1) := by decide +kernel
theorem d_L_law_478 : decode code 478 = .ok (.iaload, 1) := by decide +kernel
theorem d_L_law_479 : decode code 479 = .ok (.aload_n 0, 1) := by decide +kernel
theorem d_L_law_480 : decode code 480 = .ok (.iload_n 3, 1) := by decide +kernel
theorem d_L_law_481 : decode code 481 = .ok (.iconst 4, 1) := by decide +kernel
theorem d_L_law_482 : decode code 482 = .ok (.iadd, 1) := by decide +kernel
theorem d_L_law_483 : decode code 483 = .ok (.iaload, 1) := by decide +kernel
theorem d_L_law_484 : decode code 484 = .ok (.aload_n 0, 1) := by decide +kernel
theorem d_L_law_485 : decode code 485 = .ok (.iload_n 3, 1) := by decide +kernel
theorem d_L_law_486 : decode code 486 = .ok (.iconst 5, 1) := by decide +kernel
theorem d_L_law_487 : decode code 487 = .ok (.iadd, 1) := by decide +kernel
theorem d_L_law_488 : decode code 488 = .ok (.iaload, 1) := by decide +kernel
theorem d_L_law_489 : decode code 489 = .ok (.invokevirtual 45, 3) := by decide +kernel
theorem d_L_law_492 : decode code 492 = .ok (.aload_n 2, 1) := by decide +kernel
theorem d_L_law_493 : decode code 493 = .ok (.aload_n 0, 1) := by decide +kernel
theorem d_L_law_494 : decode code 494 = .ok (.iload_n 3, 1) := by decide +kernel
theorem d_L_law_495 : decode code 495 = .ok (.iconst 1, 1) := by decide +kernel
theorem d_L_law_496 : decode code 496 = .ok (.iadd, 1) := by decide +kernel
theorem d_L_law_497 : decode code 497 = .ok (.iaload, 1) := by decide +kernel
theorem d_L_law_498 : decode code 498 = .ok (.aload_n 0, 1) := by decide +kernel
theorem d_L_law_499 : decode code 499 = .ok (.iload_n 3, 1) := by decide +kernel
theorem d_L_law_500 : decode code 500 = .ok (.iconst 2, 1) := by decide +kernel
theorem d_L_law_501 : decode code 501 = .ok (.iadd, 1) := by decide +kernel
theorem d_L_law_502 : decode code 502 = .ok (.iaload, 1) := by decide +kernel
theorem d_L_law_503 : decode code 503 = .ok (.aload_n 0, 1) := by decide +kernel
theorem d_L_law_504 : decode code 504 = .ok (.iload_n 3, 1) := by decide +kernel
theorem d_L_law_505 : decode code 505 = .ok (.iconst 3, 1) := by decide +kernel
theorem d_L_law_506 : decode code 506 = .ok (.iadd, 1) := by decide +kernel
theorem d_L_law_507 : decode code 507 = .ok (.iaload, 1) := by decide +kernel
theorem d_L_law_508 : decode code 508 = .ok (.aload_n 0, 1) := by decide +kernel
theorem d_L_law_509 : decode code 509 = .ok (.iload_n 3, 1) := by decide +kernel
theorem d_L_law_510 : decode code 510 = .ok (.iconst 4, 1) := by decide +kernel
theorem d_L_law_511 : decode code 511 = .ok (.iadd, 1) := by decide +kernel
theorem d_L_law_512 : decode code 512 = .ok (.iaload, 1) := by decide +kernel
theorem d_L_law_513 : decode code 513 = .ok (.aload_n 0, 1) := by decide +kernel
theorem d_L_law_514 : decode code 514 = .ok (.iload_n 3, 1) := by decide +kernel
theorem d_L_law_515 : decode code 515 = .ok (.iconst 5, 1) := by decide +kernel
theorem d_L_law_516 : decode code 516 = .ok (.iadd, 1) := by decide +kernel
theorem d_L_law_517 : decode code 517 = .ok (.iaload, 1) := by decide +kernel
theorem d_L_law_518 : decode code 518 = .ok (.invokevirtual 48, 3) := by decide +kernel
theorem d_L_law_521 : decode code 521 = .ok (.if_icmp .eq 787, 3) := by decide +kernel
theorem d_L_law_524 : decode code 524 = .ok (.iconst 0, 1) := by decide +kernel
theorem d_L_law_525 : decode code 525 = .ok (.ireturn, 1) := by decide +kernel
theorem d_L_law_526 : decode code 526 = .ok (.aload_n 1, 1) := by decide +kernel
theorem d_L_law_527 : decode code 527 = .ok (.aload_n 0, 1) := by decide +kernel
theorem d_L_law_528 : decode code 528 = .ok (.iload_n 3, 1) := by decide +kernel
theorem d_L_law_529 : decode code 529 = .ok (.iconst 1, 1) := by decide +kernel
theorem d_L_law_530 : decode code 530 = .ok (.iadd, 1) := by decide +kernel
theorem d_L_law_531 : decode code 531 = .ok (.iaload, 1) := by decide +kernel
theorem d_L_law_532 : decode code 532 = .ok (.invokevirtual 49, 3) := by decide +kernel
theorem d_L_law_535 : decode code 535 = .ok (.aload_n 2, 1) := by decide +kernel
theorem d_L_law_536 : decode code 536 = .ok (.aload_n 0, 1) := by decide +kernel
theorem d_L_law_537 : decode code 537 = .ok (.iload_n 3, 1) := by decide +kernel
theorem d_L_law_538 : decode code 538 = .ok (.iconst 1, 1) := by decide +kernel
theorem d_L_law_539 : decode code 539 = .ok (.iadd, 1) := by decide +kernel
theorem d_L_law_540 : decode code 540 = .ok (.iaload, 1) := by decide +kernel
theorem d_L_law_541 : decode code 541 = .ok (.invokevirtual 53, 3) := by decide +kernel
theorem d_L_law_544 : decode code 544 = .ok (.if_icmp .eq 764, 3) := by decide +kernel
theorem d_L_law_547 : decode code 547 = .ok (.iconst 0, 1) := by decide +kernel
theorem d_L_law_548 : decode code 548 = .ok (.ireturn, 1) := by decide +kernel
theorem d_L_law_549 : decode code 549 = .ok (.aload_n 1, 1) := by decide +kernel
theorem d_L_law_550 : decode code 550 = .ok (.invokevirtual 54, 3) := by decide +kernel
theorem d_L_law_553 : decode code 553 = .ok (.aload_n 2, 1) := by decide +kernel
theorem d_L_law_554 : decode code 554 = .ok (.invokevirtual 57, 3) := by decide +kernel
theorem d_L_law_557 : decode code 557 = .ok (.if_icmp .eq 751, 3) := by decide +kernel
theorem d_L_law_560 : decode code 560 = .ok (.iconst 0, 1) := by decide +kernel
theorem d_L_law_561 : decode code 561 = .ok (.ireturn, 1) := by decide +kernel
theorem d_L_law_562 : decode code 562 = .ok (.aload_n 1, 1) := by decide +kernel
theorem d_L_law_563 : decode code 563 = .ok (.invokevirtual 58, 3) := by decide +kernel
theorem d_L_law_566 : decode code 566 = .ok (.aload_n 2, 1) := by decide +kernel
theorem d_L_law_567 : decode code 567 = .ok (.invokevirtual 61, 3) := by decide +kernel
theorem d_L_law_570 : decode code 570 = .ok (.if_icmp .eq 738, 3) := by decide +kernel
theorem d_L_law_573 : decode code 573 = .ok (.iconst 0, 1) := by decide +kernel
theorem d_L_law_574 : decode code 574 = .ok (.ireturn, 1) := by decide +kernel
theorem d_L_law_575 : decode code 575 = .ok (.aload_n 1, 1) := by decide +kernel
theorem d_L_law_576 : decode code 576 = .ok (.invokevirtual 62, 3) := by decide +kernel
theorem d_L_law_579 : decode code 579 = .ok (.aload_n 2, 1) := by decide +kernel
theorem d_L_law_580 : decode code 580 = .ok (.invokevirtual 65, 3) := by decide +kernel
theorem d_L_law_583 : decode code 583 = .ok (.if_icmp .eq 725, 3) := by decide +kernel
theorem d_L_law_586 : decode code 586 = .ok (.iconst 0, 1) := by decide +kernel
theorem d_L_law_587 : decode code 587 = .ok (.ireturn, 1) := by decide +kernel
theorem d_L_law_588 : decode code 588 = .ok (.aload_n 1, 1) := by decide +kernel
theorem d_L_law_589 : decode code 589 = .ok (.invokevirtual 66, 3) := by decide +kernel
theorem d_L_law_592 : decode code 592 = .ok (.aload_n 2, 1) := by decide +kernel
theorem d_L_law_593 : decode code 593 = .ok (.invokevirtual 69, 3) := by decide +kernel
theorem d_L_law_596 : decode code 596 = .ok (.if_icmp .eq 712, 3) := by decide +kernel
theorem d_L_law_599 : decode code 599 = .ok (.iconst 0, 1) := by decide +kernel
theorem d_L_law_600 : decode code 600 = .ok (.ireturn, 1) := by decide +kernel
theorem d_L_law_601 : decode code 601 = .ok (.aload_n 1, 1) := by decide +kernel
theorem d_L_law_602 : decode code 602 = .ok (.invokevirtual 70, 3) := by decide +kernel
theorem d_L_law_605 : decode code 605 = .ok (.aload_n 2, 1) := by decide +kernel
theorem d_L_law_606 : decode code 606 = .ok (.invokevirtual 73, 3) := by decide +kernel
theorem d_L_law_609 : decode code 609 = .ok (.if_icmp .eq 699, 3) := by decide +kernel
theorem d_L_law_612 : decode code 612 = .ok (.iconst 0, 1) := by decide +kernel
theorem d_L_law_613 : decode code 613 = .ok (.ireturn, 1) := by decide +kernel
theorem d_L_law_614 : decode code 614 = .ok (.aload_n 1, 1) := by decide +kernel
theorem d_L_law_615 : decode code 615 = .ok (.invokevirtual 74, 3) := by decide +kernel
theorem d_L_law_618 : decode code 618 = .ok (.aload_n 2, 1) := by decide +kernel
theorem d_L_law_619 : decode code 619 = .ok (.invokevirtual 77, 3) := by decide +kernel
theorem d_L_law_622 : decode code 622 = .ok (.if_icmp .eq 686, 3) := by decide +kernel
theorem d_L_law_625 : decode code 625 = .ok (.iconst 0, 1) := by decide +kernel
theorem d_L_law_626 : decode code 626 = .ok (.ireturn, 1) := by decide +kernel
theorem d_L_law_627 : decode code 627 = .ok (.aload_n 1, 1) := by decide +kernel
theorem d_L_law_628 : decode code 628 = .ok (.aload_n 0, 1) := by decide +kernel
theorem d_L_law_629 : decode code 629 = .ok (.iload_n 3, 1) := by decide +kernel
theorem d_L_law_630 : decode code 630 = .ok (.iconst 1, 1) := by decide +kernel
theorem d_L_law_631 : decode code 631 = .ok (.iadd, 1) := by decide +kernel
theorem d_L_law_632 : decode code 632 = .ok (.iaload, 1) := by decide +kernel
theorem d_L_law_633 : decode code 633 = .ok (.invokevirtual 78, 3) := by decide +kernel
theorem d_L_law_636 : decode code 636 = .ok (.aload_n 2, 1) := by decide +kernel
theorem d_L_law_637 : decode code 637 = .ok (.aload_n 0, 1) := by decide +kernel
theorem d_L_law_638 : decode code 638 = .ok (.iload_n 3, 1) := by decide +kernel
theorem d_L_law_639 : decode code 639 = .ok (.iconst 1, 1) := by decide +kernel
theorem d_L_law_640 : decode code 640 = .ok (.iadd, 1) := by decide +kernel
theorem d_L_law_641 : decode code 641 = .ok (.iaload, 1) := by decide +kernel
theorem d_L_law_642 : decode code 642 = .ok (.invokevirtual 81, 3) := by decide +kernel
theorem d_L_law_645 : decode code 645 = .ok (.if_icmp .eq 663, 3) := by decide +kernel
theorem d_L_law_648 : decode code 648 = .ok (.iconst 0, 1) := by decide +kernel
theorem d_L_law_649 : decode code 649 = .ok (.ireturn, 1) := by decide +kernel
theorem d_L_law_650 : decode code 650 = .ok (.aload_n 1, 1) := by decide +kernel
theorem d_L_law_651 : decode code 651 = .ok (.aload_n 0, 1) := by decide +kernel
theorem d_L_law_652 : decode code 652 = .ok (.iload_n 3, 1) := by decide +kernel
theorem d_L_law_653 : decode code 653 = .ok (.iconst 1, 1) := by decide +kernel
theorem d_L_law_654 : decode code 654 = .ok (.iadd, 1) := by decide +kernel
theorem d_L_law_655 : decode code 655 = .ok (.iaload, 1) := by decide +kernel
theorem d_L_law_656 : decode code 656 = .ok (.invokevirtual 82, 3) := by decide +kernel
theorem d_L_law_659 : decode code 659 = .ok (.aload_n 2, 1) := by decide +kernel
theorem d_L_law_660 : decode code 660 = .ok (.aload_n 0, 1) := by decide +kernel
theorem d_L_law_661 : decode code 661 = .ok (.iload_n 3, 1) := by decide +kernel
theorem d_L_law_662 : decode code 662 = .ok (.iconst 1, 1) := by decide +kernel
theorem d_L_law_663 : decode code 663 = .ok (.iadd, 1) := by decide +kernel
theorem d_L_law_664 : decode code 664 = .ok (.iaload, 1) := by decide +kernel
theorem d_L_law_665 : decode code 665 = .ok (.invokevirtual 85, 3) := by decide +kernel
theorem d_L_law_668 : decode code 668 = .ok (.if_icmp .eq 640, 3) := by decide +kernel
theorem d_L_law_671 : decode code 671 = .ok (.iconst 0, 1) := by decide +kernel
theorem d_L_law_672 : decode code 672 = .ok (.ireturn, 1) := by decide +kernel
theorem d_L_law_673 : decode code 673 = .ok (.aload_n 1, 1) := by decide +kernel
theorem d_L_law_674 : decode code 674 = .ok (.aload_n 0, 1) := by decide +kernel
theorem d_L_law_675 : decode code 675 = .ok (.iload_n 3, 1) := by decide +kernel
theorem d_L_law_676 : decode code 676 = .ok (.iconst 1, 1) := by decide +kernel
theorem d_L_law_677 : decode code 677 = .ok (.iadd, 1) := by decide +kernel
theorem d_L_law_678 : decode code 678 = .ok (.iaload, 1) := by decide +kernel
theorem d_L_law_679 : decode code 679 = .ok (.invokevirtual 86, 3) := by decide +kernel
theorem d_L_law_682 : decode code 682 = .ok (.aload_n 2, 1) := by decide +kernel
theorem d_L_law_683 : decode code 683 = .ok (.aload_n 0, 1) := by decide +kernel
theorem d_L_law_684 : decode code 684 = .ok (.iload_n 3, 1) := by decide +kernel
theorem d_L_law_685 : decode code 685 = .ok (.iconst 1, 1) := by decide +kernel
theorem d_L_law_686 : decode code 686 = .ok (.iadd, 1) := by decide +kernel
theorem d_L_law_687 : decode code 687 = .ok (.iaload, 1) := by decide +kernel
theorem d_L_law_688 : decode code 688 = .ok (.invokevirtual 89, 3) := by decide +kernel
theorem d_L_law_691 : decode code 691 = .ok (.if_icmp .eq 617, 3) := by decide +kernel
theorem d_L_law_694 : decode code 694 = .ok (.iconst 0, 1) := by decide +kernel
theorem d_L_law_695 : decode code 695 = .ok (.ireturn, 1) := by decide +kernel
theorem d_L_law_696 : decode code 696 = .ok (.aload_n 1, 1) := by decide +kernel
theorem d_L_law_697 : decode code 697 = .ok (.aload_n 0, 1) := by decide +kernel
theorem d_L_law_698 : decode code 698 = .ok (.iload_n 3, 1) := by decide +kernel
theorem d_L_law_699 : decode code 699 = .ok (.iconst 1, 1) := by decide +kernel
theorem d_L_law_700 : decode code 700 = .ok (.iadd, 1) := by decide +kernel
theorem d_L_law_701 : decode code 701 = .ok (.iaload, 1) := by decide +kernel
theorem d_L_law_702 : decode code 702 = .ok (.aload_n 0, 1) := by decide +kernel
theorem d_L_law_703 : decode code 703 = .ok (.iload_n 3, 1) := by decide +kernel
theorem d_L_law_704 : decode code 704 = .ok (.iconst 2, 1) := by decide +kernel
theorem d_L_law_705 : decode code 705 = .ok (.iadd, 1) := by decide +kernel
theorem d_L_law_706 : decode code 706 = .ok (.iaload, 1) := by decide +kernel
theorem d_L_law_707 : decode code 707 = .ok (.invokevirtual 90, 3) := by decide +kernel
theorem d_L_law_710 : decode code 710 = .ok (.aload_n 2, 1) := by decide +kernel
theorem d_L_law_711 : decode code 711 = .ok (.aload_n 0, 1) := by decide +kernel
theorem d_L_law_712 : decode code 712 = .ok (.iload_n 3, 1) := by decide +kernel
theorem d_L_law_713 : decode code 713 = .ok (.iconst 1, 1) := by decide +kernel
theorem d_L_law_714 : decode code 714 = .ok (.iadd, 1) := by decide +kernel
theorem d_L_law_715 : decode code 715 = .ok (.iaload, 1) := by decide +kernel
theorem d_L_law_716 : decode code 716 = .ok (.aload_n 0, 1) := by decide +kernel
theorem d_L_law_717 : decode code 717 = .ok (.iload_n 3, 1) := by decide +kernel
theorem d_L_law_718 : decode code 718 = .ok (.iconst 2, 1) := by decide +kernel
theorem d_L_law_719 : decode code 719 = .ok (.iadd, 1) := by decide +kernel
theorem d_L_law_720 : decode code 720 = .ok (.iaload, 1) := by decide +kernel
theorem d_L_law_721 : decode code 721 = .ok (.invokevirtual 93, 3) := by decide +kernel
theorem d_L_law_724 : decode code 724 = .ok (.if_icmp .eq 584, 3) := by decide +kernel
theorem d_L_law_727 : decode code 727 = .ok (.iconst 0, 1) := by decide +kernel
theorem d_L_law_728 : decode code 728 = .ok (.ireturn, 1) := by decide +kernel
theorem d_L_law_729 : decode code 729 = .ok (.aload_n 1, 1) := by decide +kernel
theorem d_L_law_730 : decode code 730 = .ok (.invokevirtual 94, 3) := by decide +kernel
theorem d_L_law_733 : decode code 733 = .ok (.aload_n 2, 1) := by decide +kernel
theorem d_L_law_734 : decode code 734 = .ok (.invokevirtual 97, 3) := by decide +kernel
theorem d_L_law_737 : decode code 737 = .ok (.if_icmp .eq 571, 3) := by decide +kernel
theorem d_L_law_740 : decode code 740 = .ok (.iconst 0, 1) := by decide +kernel
theorem d_L_law_741 : decode code 741 = .ok (.ireturn, 1) := by decide +kernel
theorem d_L_law_742 : decode code 742 = .ok (.aload_n 1, 1) := by decide +kernel
theorem d_L_law_743 : decode code 743 = .ok (.invokevirtual 98, 3) := by decide +kernel
theorem d_L_law_746 : decode code 746 = .ok (.aload_n 2, 1) := by decide +kernel
theorem d_L_law_747 : decode code 747 = .ok (.invokevirtual 101, 3) := by decide +kernel
theorem d_L_law_750 : decode code 750 = .ok (.if_icmp .eq 558, 3) := by decide +kernel
theorem d_L_law_753 : decode code 753 = .ok (.iconst 0, 1) := by decide +kernel
theorem d_L_law_754 : decode code 754 = .ok (.ireturn, 1) := by decide +kernel
theorem d_L_law_755 : decode code 755 = .ok (.aload_n 1, 1) := by decide +kernel
theorem d_L_law_756 : decode code 756 = .ok (.aload_n 0, 1) := by decide +kernel
theorem d_L_law_757 : decode code 757 = .ok (.iload_n 3, 1) := by decide +kernel
theorem d_L_law_758 : decode code 758 = .ok (.iconst 1, 1) := by decide +kernel
theorem d_L_law_759 : decode code 759 = .ok (.iadd, 1) := by decide +kernel
theorem d_L_law_760 : decode code 760 = .ok (.iaload, 1) := by decide +kernel
theorem d_L_law_761 : decode code 761 = .ok (.aload_n 0, 1) := by decide +kernel
theorem d_L_law_762 : decode code 762 = .ok (.iload_n 3, 1) := by decide +kernel
theorem d_L_law_763 : decode code 763 = .ok (.iconst 2, 1) := by decide +kernel
theorem d_L_law_764 : decode code 764 = .ok (.iadd, 1) := by decide +kernel
theorem d_L_law_765 : decode code 765 = .ok (.iaload, 1) := by decide +kernel
theorem d_L_law_766 : decode code 766 = .ok (.invokevirtual 102, 3) := by decide +kernel
theorem d_L_law_769 : decode code 769 = .ok (.aload_n 2, 1) := by decide +kernel
theorem d_L_law_770 : decode code 770 = .ok (.aload_n 0, 1) := by decide +kernel
theorem d_L_law_771 : decode code 771 = .ok (.iload_n 3, 1) := by decide +kernel
theorem d_L_law_772 : decode code 772 = .ok (.iconst 1, 1) := by decide +kernel
theorem d_L_law_773 : decode code 773 = .ok (.iadd, 1) := by decide +kernel
theorem d_L_law_774 : decode code 774 = .ok (.iaload, 1) := by decide +kernel
theorem d_L_law_775 : decode code 775 = .ok (.aload_n 0, 1) := by decide +kernel
theorem d_L_law_776 : decode code 776 = .ok (.iload_n 3, 1) := by decide +kernel
theorem d_L_law_777 : decode code 777 = .ok (.iconst 2, 1) := by decide +kernel
theorem d_L_law_778 : decode code 778 = .ok (.iadd, 1) := by decide +kernel
theorem d_L_law_779 : decode code 779 = .ok (.iaload, 1) := by decide +kernel
theorem d_L_law_780 : decode code 780 = .ok (.invokevirtual 106, 3) := by decide +kernel
theorem d_L_law_783 : decode code 783 = .ok (.lcmp, 1) := by decide +kernel
theorem d_L_law_784 : decode code 784 = .ok (.ifCond .eq 524, 3) := by decide +kernel
theorem d_L_law_787 : decode code 787 = .ok (.iconst 0, 1) := by decide +kernel
theorem d_L_law_788 : decode code 788 = .ok (.ireturn, 1) := by decide +kernel
theorem d_L_law_789 : decode code 789 = .ok (.aload_n 1, 1) := by decide +kernel
theorem d_L_law_790 : decode code 790 = .ok (.aload_n 0, 1) := by decide +kernel
theorem d_L_law_791 : decode code 791 = .ok (.iload_n 3, 1) := by decide +kernel
theorem d_L_law_792 : decode code 792 = .ok (.iconst 1, 1) := by decide +kernel
theorem d_L_law_793 : decode code 793 = .ok (.iadd, 1) := by decide +kernel
theorem d_L_law_794 : decode code 794 = .ok (.iaload, 1) := by decide +kernel
theorem d_L_law_795 : decode code 795 = .ok (.aload_n 0, 1) := by decide +kernel
theorem d_L_law_796 : decode code 796 = .ok (.iload_n 3, 1) := by decide +kernel
theorem d_L_law_797 : decode code 797 = .ok (.iconst 2, 1) := by decide +kernel
theorem d_L_law_798 : decode code 798 = .ok (.iadd, 1) := by decide +kernel
theorem d_L_law_799 : decode code 799 = .ok (.iaload, 1) := by decide +kernel
theorem d_L_law_800 : decode code 800 = .ok (.invokevirtual 107, 3) := by decide +kernel
theorem d_L_law_803 : decode code 803 = .ok (.aload_n 2, 1) := by decide +kernel
theorem d_L_law_804 : decode code 804 = .ok (.aload_n 0, 1) := by decide +kernel
theorem d_L_law_805 : decode code 805 = .ok (.iload_n 3, 1) := by decide +kernel
theorem d_L_law_806 : decode code 806 = .ok (.iconst 1, 1) := by decide +kernel
theorem d_L_law_807 : decode code 807 = .ok (.iadd, 1) := by decide +kernel
theorem d_L_law_808 : decode code 808 = .ok (.iaload, 1) := by decide +kernel
theorem d_L_law_809 : decode code 809 = .ok (.aload_n 0, 1) := by decide +kernel
theorem d_L_law_810 : decode code 810 = .ok (.iload_n 3, 1) := by decide +kernel
theorem d_L_law_811 : decode code 811 = .ok (.iconst 2, 1) := by decide +kernel
theorem d_L_law_812 : decode code 812 = .ok (.iadd, 1) := by decide +kernel
theorem d_L_law_813 : decode code 813 = .ok (.iaload, 1) := by decide +kernel
theorem d_L_law_814 : decode code 814 = .ok (.invokevirtual 110, 3) := by decide +kernel
theorem d_L_law_817 : decode code 817 = .ok (.lcmp, 1) := by decide +kernel
theorem d_L_law_818 : decode code 818 = .ok (.ifCond .eq 490, 3) := by decide +kernel
theorem d_L_law_821 : decode code 821 = .ok (.iconst 0, 1) := by decide +kernel
theorem d_L_law_822 : decode code 822 = .ok (.ireturn, 1) := by decide +kernel
theorem d_L_law_823 : decode code 823 = .ok (.aload_n 1, 1) := by decide +kernel
theorem d_L_law_824 : decode code 824 = .ok (.invokevirtual 111, 3) := by decide +kernel
theorem d_L_law_827 : decode code 827 = .ok (.aload_n 2, 1) := by decide +kernel
theorem d_L_law_828 : decode code 828 = .ok (.invokevirtual 114, 3) := by decide +kernel
theorem d_L_law_831 : decode code 831 = .ok (.if_icmp .eq 477, 3) := by decide +kernel
theorem d_L_law_834 : decode code 834 = .ok (.iconst 0, 1) := by decide +kernel
theorem d_L_law_835 : decode code 835 = .ok (.ireturn, 1) := by decide +kernel
theorem d_L_law_836 : decode code 836 = .ok (.aload_n 1, 1) := by decide +kernel
theorem d_L_law_837 : decode code 837 = .ok (.aload_n 0, 1) := by decide +kernel
theorem d_L_law_838 : decode code 838 = .ok (.iload_n 3, 1) := by decide +kernel
theorem d_L_law_839 : decode code 839 = .ok (.iconst 1, 1) := by decide +kernel
theorem d_L_law_840 : decode code 840 = .ok (.iadd, 1) := by decide +kernel
theorem d_L_law_841 : decode code 841 = .ok (.iaload, 1) := by decide +kernel
theorem d_L_law_842 : decode code 842 = .ok (.aload_n 0, 1) := by decide +kernel
theorem d_L_law_843 : decode code 843 = .ok (.iload_n 3, 1) := by decide +kernel
theorem d_L_law_844 : decode code 844 = .ok (.iconst 2, 1) := by decide +kernel
theorem d_L_law_845 : decode code 845 = .ok (.iadd, 1) := by decide +kernel
theorem d_L_law_846 : decode code 846 = .ok (.iaload, 1) := by decide +kernel
theorem d_L_law_847 : decode code 847 = .ok (.invokevirtual 115, 3) := by decide +kernel
theorem d_L_law_850 : decode code 850 = .ok (.aload_n 2, 1) := by decide +kernel
theorem d_L_law_851 : decode code 851 = .ok (.aload_n 0, 1) := by decide +kernel
theorem d_L_law_852 : decode code 852 = .ok (.iload_n 3, 1) := by decide +kernel
theorem d_L_law_853 : decode code 853 = .ok (.iconst 1, 1) := by decide +kernel
theorem d_L_law_854 : decode code 854 = .ok (.iadd, 1) := by decide +kernel
theorem d_L_law_855 : decode code 855 = .ok (.iaload, 1) := by decide +kernel
theorem d_L_law_856 : decode code 856 = .ok (.aload_n 0, 1) := by decide +kernel
theorem d_L_law_857 : decode code 857 = .ok (.iload_n 3, 1) := by decide +kernel
theorem d_L_law_858 : decode code 858 = .ok (.iconst 2, 1) := by decide +kernel
theorem d_L_law_859 : decode code 859 = .ok (.iadd, 1) := by decide +kernel
theorem d_L_law_860 : decode code 860 = .ok (.iaload, 1) := by decide +kernel
theorem d_L_law_861 : decode code 861 = .ok (.invokevirtual 118, 3) := by decide +kernel
theorem d_L_law_864 : decode code 864 = .ok (.if_icmp .eq 444, 3) := by decide +kernel
theorem d_L_law_867 : decode code 867 = .ok (.iconst 0, 1) := by decide +kernel
theorem d_L_law_868 : decode code 868 = .ok (.ireturn, 1) := by decide +kernel
theorem d_L_law_869 : decode code 869 = .ok (.aload_n 1, 1) := by decide +kernel
theorem d_L_law_870 : decode code 870 = .ok (.aload_n 0, 1) := by decide +kernel
theorem d_L_law_871 : decode code 871 = .ok (.iload_n 3, 1) := by decide +kernel
theorem d_L_law_872 : decode code 872 = .ok (.iconst 1, 1) := by decide +kernel
theorem d_L_law_873 : decode code 873 = .ok (.iadd, 1) := by decide +kernel
theorem d_L_law_874 : decode code 874 = .ok (.iaload, 1) := by decide +kernel
theorem d_L_law_875 : decode code 875 = .ok (.aload_n 0, 1) := by decide +kernel
theorem d_L_law_876 : decode code 876 = .ok (.iload_n 3, 1) := by decide +kernel
theorem d_L_law_877 : decode code 877 = .ok (.iconst 2, 1) := by decide +kernel
theorem d_L_law_878 : decode code 878 = .ok (.iadd, 1) := by decide +kernel
theorem d_L_law_879 : decode code 879 = .ok (.iaload, 1) := by decide +kernel
theorem d_L_law_880 : decode code 880 = .ok (.invokevirtual 119, 3) := by decide +kernel
theorem d_L_law_883 : decode code 883 = .ok (.aload_n 2, 1) := by decide +kernel
theorem d_L_law_884 : decode code 884 = .ok (.aload_n 0, 1) := by decide +kernel
theorem d_L_law_885 : decode code 885 = .ok (.iload_n 3, 1) := by decide +kernel
theorem d_L_law_886 : decode code 886 = .ok (.iconst 1, 1) := by decide +kernel
theorem d_L_law_887 : decode code 887 = .ok (.iadd, 1) := by decide +kernel
theorem d_L_law_888 : decode code 888 = .ok (.iaload, 1) := by decide +kernel
theorem d_L_law_889 : decode code 889 = .ok (.aload_n 0, 1) := by decide +kernel
theorem d_L_law_890 : decode code 890 = .ok (.iload_n 3, 1) := by decide +kernel
theorem d_L_law_891 : decode code 891 = .ok (.iconst 2, 1) := by decide +kernel
theorem d_L_law_892 : decode code 892 = .ok (.iadd, 1) := by decide +kernel
theorem d_L_law_893 : decode code 893 = .ok (.iaload, 1) := by decide +kernel
theorem d_L_law_894 : decode code 894 = .ok (.invokevirtual 122, 3) := by decide +kernel
theorem d_L_law_897 : decode code 897 = .ok (.if_icmp .eq 411, 3) := by decide +kernel
theorem d_L_law_900 : decode code 900 = .ok (.iconst 0, 1) := by decide +kernel
theorem d_L_law_901 : decode code 901 = .ok (.ireturn, 1) := by decide +kernel
theorem d_L_law_902 : decode code 902 = .ok (.aload_n 1, 1) := by decide +kernel
theorem d_L_law_903 : decode code 903 = .ok (.aload_n 0, 1) := by decide +kernel
theorem d_L_law_904 : decode code 904 = .ok (.iload_n 3, 1) := by decide +kernel
theorem d_L_law_905 : decode code 905 = .ok (.iconst 1, 1) := by decide +kernel
theorem d_L_law_906 : decode code 906 = .ok (.iadd, 1) := by decide +kernel
theorem d_L_law_907 : decode code 907 = .ok (.iaload, 1) := by decide +kernel
theorem d_L_law_908 : decode code 908 = .ok (.aload_n 0, 1) := by decide +kernel
theorem d_L_law_909 : decode code 909 = .ok (.iload_n 3, 1) := by decide +kernel
theorem d_L_law_910 : decode code 910 = .ok (.iconst 2, 1) := by decide +kernel
theorem d_L_law_911 : decode code 911 = .ok (.iadd, 1) := by decide +kernel
theorem d_L_law_912 : decode code 912 = .ok (.iaload, 1) := by decide +kernel
theorem d_L_law_913 : decode code 913 = .ok (.aload_n 0, 1) := by decide +kernel
theorem d_L_law_914 : decode code 914 = .ok (.iload_n 3, 1) := by decide +kernel
theorem d_L_law_915 : decode code 915 = .ok (.iconst 3, 1) := by decide +kernel
theorem d_L_law_916 : decode code 916 = .ok (.iadd, 1) := by decide +kernel
theorem d_L_law_917 : decode code 917 = .ok (.iaload, 1) := by decide +kernel
theorem d_L_law_918 : decode code 918 = .ok (.invokevirtual 123, 3) := by decide +kernel
theorem d_L_law_921 : decode code 921 = .ok (.aload_n 2, 1) := by decide +kernel
theorem d_L_law_922 : decode code 922 = .ok (.aload_n 0, 1) := by decide +kernel
theorem d_L_law_923 : decode code 923 = .ok (.iload_n 3, 1) := by decide +kernel
theorem d_L_law_924 : decode code 924 = .ok (.iconst 1, 1) := by decide +kernel
theorem d_L_law_925 : decode code 925 = .ok (.iadd, 1) := by decide +kernel
theorem d_L_law_926 : decode code 926 = .ok (.iaload, 1) := by decide +kernel
theorem d_L_law_927 : decode code 927 = .ok (.aload_n 0, 1) := by decide +kernel
theorem d_L_law_928 : decode code 928 = .ok (.iload_n 3, 1) := by decide +kernel
theorem d_L_law_929 : decode code 929 = .ok (.iconst 2, 1) := by decide +kernel
theorem d_L_law_930 : decode code 930 = .ok (.iadd, 1) := by decide +kernel
theorem d_L_law_931 : decode code 931 = .ok (.iaload, 1) := by decide +kernel
theorem d_L_law_932 : decode code 932 = .ok (.aload_n 0, 1) := by decide +kernel
theorem d_L_law_933 : decode code 933 = .ok (.iload_n 3, 1) := by decide +kernel
theorem d_L_law_934 : decode code 934 = .ok (.iconst 3, 1) := by decide +kernel
theorem d_L_law_935 : decode code 935 = .ok (.iadd, 1) := by decide +kernel
theorem d_L_law_936 : decode code 936 = .ok (.iaload, 1) := by decide +kernel
theorem d_L_law_937 : decode code 937 = .ok (.invokevirtual 126, 3) := by decide +kernel
theorem d_L_law_940 : decode code 940 = .ok (.if_icmp .eq 368, 3) := by decide +kernel
theorem d_L_law_943 : decode code 943 = .ok (.iconst 0, 1) := by decide +kernel
theorem d_L_law_944 : decode code 944 = .ok (.ireturn, 1) := by decide +kernel
theorem d_L_law_945 : decode code 945 = .ok (.aload_n 1, 1) := by decide +kernel
theorem d_L_law_946 : decode code 946 = .ok (.aload_n 0, 1) := by decide +kernel
theorem d_L_law_947 : decode code 947 = .ok (.iload_n 3, 1) := by decide +kernel
theorem d_L_law_948 : decode code 948 = .ok (.iconst 1, 1) := by decide +kernel
theorem d_L_law_949 : decode code 949 = .ok (.iadd, 1) := by decide +kernel
theorem d_L_law_950 : decode code 950 = .ok (.iaload, 1) := by decide +kernel
theorem d_L_law_951 : decode code 951 = .ok (.aload_n 0, 1) := by decide +kernel
theorem d_L_law_952 : decode code 952 = .ok (.iload_n 3, 1) := by decide +kernel
theorem d_L_law_953 : decode code 953 = .ok (.iconst 2, 1) := by decide +kernel
theorem d_L_law_954 : decode code 954 = .ok (.iadd, 1) := by decide +kernel
theorem d_L_law_955 : decode code 955 = .ok (.iaload, 1) := by decide +kernel
theorem d_L_law_956 : decode code 956 = .ok (.aload_n 0, 1) := by decide +kernel
theorem d_L_law_957 : decode code 957 = .ok (.iload_n 3, 1) := by decide +kernel
theorem d_L_law_958 : decode code 958 = .ok (.iconst 3, 1) := by decide +kernel
theorem d_L_law_959 : decode code 959 = .ok (.iadd, 1) := by decide +kernel
theorem d_L_law_960 : decode code 960 = .ok (.iaload, 1) := by decide +kernel
theorem d_L_law_961 : decode code 961 = .ok (.invokevirtual 127, 3) := by decide +kernel
theorem d_L_law_964 : decode code 964 = .ok (.aload_n 2, 1) := by decide +kernel
theorem d_L_law_965 : decode code 965 = .ok (.aload_n 0, 1) := by decide +kernel
theorem d_L_law_966 : decode code 966 = .ok (.iload_n 3, 1) := by decide +kernel
theorem d_L_law_967 : decode code 967 = .ok (.iconst 1, 1) := by decide +kernel
theorem d_L_law_968 : decode code 968 = .ok (.iadd, 1) := by decide +kernel
theorem d_L_law_969 : decode code 969 = .ok (.iaload, 1) := by decide +kernel
theorem d_L_law_970 : decode code 970 = .ok (.aload_n 0, 1) := by decide +kernel
theorem d_L_law_971 : decode code 971 = .ok (.iload_n 3, 1) := by decide +kernel
theorem d_L_law_972 : decode code 972 = .ok (.iconst 2, 1) := by decide +kernel
theorem d_L_law_973 : decode code 973 = .ok (.iadd, 1) := by decide +kernel
theorem d_L_law_974 : decode code 974 = .ok (.iaload, 1) := by decide +kernel
theorem d_L_law_975 : decode code 975 = .ok (.aload_n 0, 1) := by decide +kernel
theorem d_L_law_976 : decode code 976 = .ok (.iload_n 3, 1) := by decide +kernel
theorem d_L_law_977 : decode code 977 = .ok (.iconst 3, 1) := by decide +kernel
theorem d_L_law_978 : decode code 978 = .ok (.iadd, 1) := by decide +kernel
theorem d_L_law_979 : decode code 979 = .ok (.iaload, 1) := by decide +kernel
theorem d_L_law_980 : decode code 980 = .ok (.invokevirtual 130, 3) := by decide +kernel
theorem d_L_law_983 : decode code 983 = .ok (.if_icmp .eq 325, 3) := by decide +kernel
theorem d_L_law_986 : decode code 986 = .ok (.iconst 0, 1) := by decide +kernel
theorem d_L_law_987 : decode code 987 = .ok (.ireturn, 1) := by decide +kernel
theorem d_L_law_988 : decode code 988 = .ok (.aload_n 1, 1) := by decide +kernel
theorem d_L_law_989 : decode code 989 = .ok (.aload_n 0, 1) := by decide +kernel
theorem d_L_law_990 : decode code 990 = .ok (.iload_n 3, 1) := by decide +kernel
theorem d_L_law_991 : decode code 991 = .ok (.iconst 1, 1) := by decide +kernel
theorem d_L_law_992 : decode code 992 = .ok (.iadd, 1) := by decide +kernel
theorem d_L_law_993 : decode code 993 = .ok (.iaload, 1) := by decide +kernel
theorem d_L_law_994 : decode code 994 = .ok (.aload_n 0, 1) := by decide +kernel
theorem d_L_law_995 : decode code 995 = .ok (.iload_n 3, 1) := by decide +kernel
theorem d_L_law_996 : decode code 996 = .ok (.iconst 2, 1) := by decide +kernel
theorem d_L_law_997 : decode code 997 = .ok (.iadd, 1) := by decide +kernel
theorem d_L_law_998 : decode code 998 = .ok (.iaload, 1) := by decide +kernel
theorem d_L_law_999 : decode code 999 = .ok (.invokevirtual 131, 3) := by decide +kernel
theorem d_L_law_1002 : decode code 1002 = .ok (.aload_n 2, 1) := by decide +kernel
theorem d_L_law_1003 : decode code 1003 = .ok (.aload_n 0, 1) := by decide +kernel
theorem d_L_law_1004 : decode code 1004 = .ok (.iload_n 3, 1) := by decide +kernel
theorem d_L_law_1005 : decode code 1005 = .ok (.iconst 1, 1) := by decide +kernel
theorem d_L_law_1006 : decode code 1006 = .ok (.iadd, 1) := by decide +kernel
theorem d_L_law_1007 : decode code 1007 = .ok (.iaload, 1) := by decide +kernel
theorem d_L_law_1008 : decode code 1008 = .ok (.aload_n 0, 1) := by decide +kernel
theorem d_L_law_1009 : decode code 1009 = .ok (.iload_n 3, 1) := by decide +kernel
theorem d_L_law_1010 : decode code 1010 = .ok (.iconst 2, 1) := by decide +kernel
theorem d_L_law_1011 : decode code 1011 = .ok (.iadd, 1) := by decide +kernel
theorem d_L_law_1012 : decode code 1012 = .ok (.iaload, 1) := by decide +kernel
theorem d_L_law_1013 : decode code 1013 = .ok (.invokevirtual 134, 3) := by decide +kernel
theorem d_L_law_1016 : decode code 1016 = .ok (.if_icmp .eq 292, 3) := by decide +kernel
theorem d_L_law_1019 : decode code 1019 = .ok (.iconst 0, 1) := by decide +kernel
theorem d_L_law_1020 : decode code 1020 = .ok (.ireturn, 1) := by decide +kernel
theorem d_L_law_1021 : decode code 1021 = .ok (.aload_n 1, 1) := by decide +kernel
theorem d_L_law_1022 : decode code 1022 = .ok (.aload_n 0, 1) := by decide +kernel
theorem d_L_law_1023 : decode code 1023 = .ok (.iload_n 3, 1) := by decide +kernel
theorem d_L_law_1024 : decode code 1024 = .ok (.iconst 1, 1) := by decide +kernel
theorem d_L_law_1025 : decode code 1025 = .ok (.iadd, 1) := by decide +kernel
theorem d_L_law_1026 : decode code 1026 = .ok (.iaload, 1) := by decide +kernel
theorem d_L_law_1027 : decode code 1027 = .ok (.invokevirtual 135, 3) := by decide +kernel
theorem d_L_law_1030 : decode code 1030 = .ok (.aload_n 2, 1) := by decide +kernel
theorem d_L_law_1031 : decode code 1031 = .ok (.aload_n 0, 1) := by decide +kernel
theorem d_L_law_1032 : decode code 1032 = .ok (.iload_n 3, 1) := by decide +kernel
theorem d_L_law_1033 : decode code 1033 = .ok (.iconst 1, 1) := by decide +kernel
theorem d_L_law_1034 : decode code 1034 = .ok (.iadd, 1) := by decide +kernel
theorem d_L_law_1035 : decode code 1035 = .ok (.iaload, 1) := by decide +kernel
theorem d_L_law_1036 : decode code 1036 = .ok (.invokevirtual 138, 3) := by decide +kernel
theorem d_L_law_1039 : decode code 1039 = .ok (.if_icmp .eq 269, 3) := by decide +kernel
theorem d_L_law_1042 : decode code 1042 = .ok (.iconst 0, 1) := by decide +kernel
theorem d_L_law_1043 : decode code 1043 = .ok (.ireturn, 1) := by decide +kernel
theorem d_L_law_1044 : decode code 1044 = .ok (.aload_n 1, 1) := by decide +kernel
theorem d_L_law_1045 : decode code 1045 = .ok (.invokevirtual 139, 3) := by decide +kernel
theorem d_L_law_1048 : decode code 1048 = .ok (.aload_n 2, 1) := by decide +kernel
theorem d_L_law_1049 : decode code 1049 = .ok (.invokevirtual 142, 3) := by decide +kernel
theorem d_L_law_1052 : decode code 1052 = .ok (.if_icmp .eq 256, 3) := by decide +kernel
theorem d_L_law_1055 : decode code 1055 = .ok (.iconst 0, 1) := by decide +kernel
theorem d_L_law_1056 : decode code 1056 = .ok (.ireturn, 1) := by decide +kernel
theorem d_L_law_1057 : decode code 1057 = .ok (.aload_n 1, 1) := by decide +kernel
theorem d_L_law_1058 : decode code 1058 = .ok (.aload_n 0, 1) := by decide +kernel
theorem d_L_law_1059 : decode code 1059 = .ok (.iload_n 3, 1) := by decide +kernel
theorem d_L_law_1060 : decode code 1060 = .ok (.iconst 1, 1) := by decide +kernel
theorem d_L_law_1061 : decode code 1061 = .ok (.iadd, 1) := by decide +kernel
theorem d_L_law_1062 : decode code 1062 = .ok (.iaload, 1) := by decide +kernel
theorem d_L_law_1063 : decode code 1063 = .ok (.invokevirtual 143, 3) := by decide +kernel
theorem d_L_law_1066 : decode code 1066 = .ok (.aload_n 2, 1) := by decide +kernel
theorem d_L_law_1067 : decode code 1067 = .ok (.aload_n 0, 1) := by decide +kernel
theorem d_L_law_1068 : decode code 1068 = .ok (.iload_n 3, 1) := by decide +kernel
theorem d_L_law_1069 : decode code 1069 = .ok (.iconst 1, 1) := by decide +kernel
theorem d_L_law_1070 : decode code 1070 = .ok (.iadd, 1) := by decide +kernel
theorem d_L_law_1071 : decode code 1071 = .ok (.iaload, 1) := by decide +kernel
theorem d_L_law_1072 : decode code 1072 = .ok (.invokevirtual 146, 3) := by decide +kernel
theorem d_L_law_1075 : decode code 1075 = .ok (.if_icmp .eq 233, 3) := by decide +kernel
theorem d_L_law_1078 : decode code 1078 = .ok (.iconst 0, 1) := by decide +kernel
theorem d_L_law_1079 : decode code 1079 = .ok (.ireturn, 1) := by decide +kernel
theorem d_L_law_1080 : decode code 1080 = .ok (.aload_n 1, 1) := by decide +kernel
theorem d_L_law_1081 : decode code 1081 = .ok (.aload_n 0, 1) := by decide +kernel
theorem d_L_law_1082 : decode code 1082 = .ok (.iload_n 3, 1) := by decide +kernel
theorem d_L_law_1083 : decode code 1083 = .ok (.iconst 1, 1) := by decide +kernel
theorem d_L_law_1084 : decode code 1084 = .ok (.iadd, 1) := by decide +kernel
theorem d_L_law_1085 : decode code 1085 = .ok (.iaload, 1) := by decide +kernel
theorem d_L_law_1086 : decode code 1086 = .ok (.invokevirtual 147, 3) := by decide +kernel
theorem d_L_law_1089 : decode code 1089 = .ok (.aload_n 2, 1) := by decide +kernel
theorem d_L_law_1090 : decode code 1090 = .ok (.aload_n 0, 1) := by decide +kernel
theorem d_L_law_1091 : decode code 1091 = .ok (.iload_n 3, 1) := by decide +kernel
theorem d_L_law_1092 : decode code 1092 = .ok (.iconst 1, 1) := by decide +kernel
theorem d_L_law_1093 : decode code 1093 = .ok (.iadd, 1) := by decide +kernel
theorem d_L_law_1094 : decode code 1094 = .ok (.iaload, 1) := by decide +kernel
theorem d_L_law_1095 : decode code 1095 = .ok (.invokevirtual 150, 3) := by decide +kernel
theorem d_L_law_1098 : decode code 1098 = .ok (.if_icmp .eq 210, 3) := by decide +kernel
theorem d_L_law_1101 : decode code 1101 = .ok (.iconst 0, 1) := by decide +kernel
theorem d_L_law_1102 : decode code 1102 = .ok (.ireturn, 1) := by decide +kernel
theorem d_L_law_1103 : decode code 1103 = .ok (.aload_n 1, 1) := by decide +kernel
theorem d_L_law_1104 : decode code 1104 = .ok (.aload_n 0, 1) := by decide +kernel
theorem d_L_law_1105 : decode code 1105 = .ok (.iload_n 3, 1) := by decide +kernel
theorem d_L_law_1106 : decode code 1106 = .ok (.iconst 1, 1) := by decide +kernel
theorem d_L_law_1107 : decode code 1107 = .ok (.iadd, 1) := by decide +kernel
theorem d_L_law_1108 : decode code 1108 = .ok (.iaload, 1) := by decide +kernel
theorem d_L_law_1109 : decode code 1109 = .ok (.invokevirtual 151, 3) := by decide +kernel
theorem d_L_law_1112 : decode code 1112 = .ok (.aload_n 2, 1) := by decide +kernel
theorem d_L_law_1113 : decode code 1113 = .ok (.aload_n 0, 1) := by decide +kernel
theorem d_L_law_1114 : decode code 1114 = .ok (.iload_n 3, 1) := by decide +kernel
theorem d_L_law_1115 : decode code 1115 = .ok (.iconst 1, 1) := by decide +kernel
theorem d_L_law_1116 : decode code 1116 = .ok (.iadd, 1) := by decide +kernel
theorem d_L_law_1117 : decode code 1117 = .ok (.iaload, 1) := by decide +kernel
theorem d_L_law_1118 : decode code 1118 = .ok (.invokevirtual 154, 3) := by decide +kernel
theorem d_L_law_1121 : decode code 1121 = .ok (.if_icmp .eq 187, 3) := by decide +kernel
theorem d_L_law_1124 : decode code 1124 = .ok (.iconst 0, 1) := by decide +kernel
theorem d_L_law_1125 : decode code 1125 = .ok (.ireturn, 1) := by decide +kernel
theorem d_L_law_1126 : decode code 1126 = .ok (.aload_n 1, 1) := by decide +kernel
theorem d_L_law_1127 : decode code 1127 = .ok (.aload_n 0, 1) := by decide +kernel
theorem d_L_law_1128 : decode code 1128 = .ok (.iload_n 3, 1) := by decide +kernel
theorem d_L_law_1129 : decode code 1129 = .ok (.iconst 1, 1) := by decide +kernel
theorem d_L_law_1130 : decode code 1130 = .ok (.iadd, 1) := by decide +kernel
theorem d_L_law_1131 : decode code 1131 = .ok (.iaload, 1) := by decide +kernel
theorem d_L_law_1132 : decode code 1132 = .ok (.aload_n 0, 1) := by decide +kernel
theorem d_L_law_1133 : decode code 1133 = .ok (.iload_n 3, 1) := by decide +kernel
theorem d_L_law_1134 : decode code 1134 = .ok (.iconst 2, 1) := by decide +kernel
theorem d_L_law_1135 : decode code 1135 = .ok (.iadd, 1) := by decide +kernel
theorem d_L_law_1136 : decode code 1136 = .ok (.iaload, 1) := by decide +kernel
theorem d_L_law_1137 : decode code 1137 = .ok (.invokevirtual 155, 3) := by decide +kernel
theorem d_L_law_1140 : decode code 1140 = .ok (.aload_n 2, 1) := by decide +kernel
theorem d_L_law_1141 : decode code 1141 = .ok (.aload_n 0, 1) := by decide +kernel
theorem d_L_law_1142 : decode code 1142 = .ok (.iload_n 3, 1) := by decide +kernel
theorem d_L_law_1143 : decode code 1143 = .ok (.iconst 1, 1) := by decide +kernel
theorem d_L_law_1144 : decode code 1144 = .ok (.iadd, 1) := by decide +kernel
theorem d_L_law_1145 : decode code 1145 = .ok (.iaload, 1) := by decide +kernel
theorem d_L_law_1146 : decode code 1146 = .ok (.aload_n 0, 1) := by decide +kernel
theorem d_L_law_1147 : decode code 1147 = .ok (.iload_n 3, 1) := by decide +kernel
theorem d_L_law_1148 : decode code 1148 = .ok (.iconst 2, 1) := by decide +kernel
theorem d_L_law_1149 : decode code 1149 = .ok (.iadd, 1) := by decide +kernel
theorem d_L_law_1150 : decode code 1150 = .ok (.iaload, 1) := by decide +kernel
theorem d_L_law_1151 : decode code 1151 = .ok (.invokevirtual 158, 3) := by decide +kernel
theorem d_L_law_1154 : decode code 1154 = .ok (.lcmp, 1) := by decide +kernel
theorem d_L_law_1155 : decode code 1155 = .ok (.ifCond .eq 153, 3) := by decide +kernel
theorem d_L_law_1158 : decode code 1158 = .ok (.iconst 0, 1) := by decide +kernel
theorem d_L_law_1159 : decode code 1159 = .ok (.ireturn, 1) := by decide +kernel
theorem d_L_law_1160 : decode code 1160 = .ok (.aload_n 1, 1) := by decide +kernel
theorem d_L_law_1161 : decode code 1161 = .ok (.aload_n 0, 1) := by decide +kernel
theorem d_L_law_1162 : decode code 1162 = .ok (.iload_n 3, 1) := by decide +kernel
theorem d_L_law_1163 : decode code 1163 = .ok (.iconst 1, 1) := by decide +kernel
theorem d_L_law_1164 : decode code 1164 = .ok (.iadd, 1) := by decide +kernel
theorem d_L_law_1165 : decode code 1165 = .ok (.iaload, 1) := by decide +kernel
theorem d_L_law_1166 : decode code 1166 = .ok (.aload_n 0, 1) := by decide +kernel
theorem d_L_law_1167 : decode code 1167 = .ok (.iload_n 3, 1) := by decide +kernel
theorem d_L_law_1168 : decode code 1168 = .ok (.iconst 2, 1) := by decide +kernel
theorem d_L_law_1169 : decode code 1169 = .ok (.iadd, 1) := by decide +kernel
theorem d_L_law_1170 : decode code 1170 = .ok (.iaload, 1) := by decide +kernel
theorem d_L_law_1171 : decode code 1171 = .ok (.invokevirtual 159, 3) := by decide +kernel
theorem d_L_law_1174 : decode code 1174 = .ok (.aload_n 2, 1) := by decide +kernel
theorem d_L_law_1175 : decode code 1175 = .ok (.aload_n 0, 1) := by decide +kernel
theorem d_L_law_1176 : decode code 1176 = .ok (.iload_n 3, 1) := by decide +kernel
theorem d_L_law_1177 : decode code 1177 = .ok (.iconst 1, 1) := by decide +kernel
theorem d_L_law_1178 : decode code 1178 = .ok (.iadd, 1) := by decide +kernel
theorem d_L_law_1179 : decode code 1179 = .ok (.iaload, 1) := by decide +kernel
theorem d_L_law_1180 : decode code 1180 = .ok (.aload_n 0, 1) := by decide +kernel
theorem d_L_law_1181 : decode code 1181 = .ok (.iload_n 3, 1) := by decide +kernel
theorem d_L_law_1182 : decode code 1182 = .ok (.iconst 2, 1) := by decide +kernel
theorem d_L_law_1183 : decode code 1183 = .ok (.iadd, 1) := by decide +kernel
theorem d_L_law_1184 : decode code 1184 = .ok (.iaload, 1) := by decide +kernel
theorem d_L_law_1185 : decode code 1185 = .ok (.invokevirtual 162, 3) := by decide +kernel
theorem d_L_law_1188 : decode code 1188 = .ok (.if_icmp .eq 120, 3) := by decide +kernel
theorem d_L_law_1191 : decode code 1191 = .ok (.iconst 0, 1) := by decide +kernel
theorem d_L_law_1192 : decode code 1192 = .ok (.ireturn, 1) := by decide +kernel
theorem d_L_law_1193 : decode code 1193 = .ok (.aload_n 1, 1) := by decide +kernel
theorem d_L_law_1194 : decode code 1194 = .ok (.aload_n 0, 1) := by decide +kernel
theorem d_L_law_1195 : decode code 1195 = .ok (.iload_n 3, 1) := by decide +kernel
theorem d_L_law_1196 : decode code 1196 = .ok (.iconst 1, 1) := by decide +kernel
theorem d_L_law_1197 : decode code 1197 = .ok (.iadd, 1) := by decide +kernel
theorem d_L_law_1198 : decode code 1198 = .ok (.iaload, 1) := by decide +kernel
theorem d_L_law_1199 : decode code 1199 = .ok (.aload_n 0, 1) := by decide +kernel
theorem d_L_law_1200 : decode code 1200 = .ok (.iload_n 3, 1) := by decide +kernel
theorem d_L_law_1201 : decode code 1201 = .ok (.iconst 2, 1) := by decide +kernel
theorem d_L_law_1202 : decode code 1202 = .ok (.iadd, 1) := by decide +kernel
theorem d_L_law_1203 : decode code 1203 = .ok (.iaload, 1) := by decide +kernel
theorem d_L_law_1204 : decode code 1204 = .ok (.invokevirtual 163, 3) := by decide +kernel
theorem d_L_law_1207 : decode code 1207 = .ok (.aload_n 2, 1) := by decide +kernel
theorem d_L_law_1208 : decode code 1208 = .ok (.aload_n 0, 1) := by decide +kernel
theorem d_L_law_1209 : decode code 1209 = .ok (.iload_n 3, 1) := by decide +kernel
theorem d_L_law_1210 : decode code 1210 = .ok (.iconst 1, 1) := by decide +kernel
theorem d_L_law_1211 : decode code 1211 = .ok (.iadd, 1) := by decide +kernel
theorem d_L_law_1212 : decode code 1212 = .ok (.iaload, 1) := by decide +kernel
theorem d_L_law_1213 : decode code 1213 = .ok (.aload_n 0, 1) := by decide +kernel
theorem d_L_law_1214 : decode code 1214 = .ok (.iload_n 3, 1) := by decide +kernel
theorem d_L_law_1215 : decode code 1215 = .ok (.iconst 2, 1) := by decide +kernel
theorem d_L_law_1216 : decode code 1216 = .ok (.iadd, 1) := by decide +kernel
theorem d_L_law_1217 : decode code 1217 = .ok (.iaload, 1) := by decide +kernel
theorem d_L_law_1218 : decode code 1218 = .ok (.invokevirtual 166, 3) := by decide +kernel
theorem d_L_law_1221 : decode code 1221 = .ok (.if_icmp .eq 87, 3) := by decide +kernel
theorem d_L_law_1224 : decode code 1224 = .ok (.iconst 0, 1) := by decide +kernel
theorem d_L_law_1225 : decode code 1225 = .ok (.ireturn, 1) := by decide +kernel
theorem d_L_law_1226 : decode code 1226 = .ok (.aload_n 1, 1) := by decide +kernel
theorem d_L_law_1227 : decode code 1227 = .ok (.aload_n 0, 1) := by decide +kernel
theorem d_L_law_1228 : decode code 1228 = .ok (.iload_n 3, 1) := by decide +kernel
theorem d_L_law_1229 : decode code 1229 = .ok (.iconst 1, 1) := by decide +kernel
theorem d_L_law_1230 : decode code 1230 = .ok (.iadd, 1) := by decide +kernel
theorem d_L_law_1231 : decode code 1231 = .ok (.iaload, 1) := by decide +kernel
theorem d_L_law_1232 : decode code 1232 = .ok (.invokevirtual 167, 3) := by decide +kernel
theorem d_L_law_1235 : decode code 1235 = .ok (.aload_n 2, 1) := by decide +kernel
theorem d_L_law_1236 : decode code 1236 = .ok (.aload_n 0, 1) := by decide +kernel
theorem d_L_law_1237 : decode code 1237 = .ok (.iload_n 3, 1) := by decide +kernel
theorem d_L_law_1238 : decode code 1238 = .ok (.iconst 1, 1) := by decide +kernel
theorem d_L_law_1239 : decode code 1239 = .ok (.iadd, 1) := by decide +kernel
theorem d_L_law_1240 : decode code 1240 = .ok (.iaload, 1) := by decide +kernel
theorem d_L_law_1241 : decode code 1241 = .ok (.invokevirtual 170, 3) := by decide +kernel
theorem d_L_law_1244 : decode code 1244 = .ok (.if_icmp .eq 64, 3) := by decide +kernel
theorem d_L_law_1247 : decode code 1247 = .ok (.iconst 0, 1) := by decide +kernel
theorem d_L_law_1248 : decode code 1248 = .ok (.ireturn, 1) := by decide +kernel
theorem d_L_law_1249 : decode code 1249 = .ok (.aload_n 1, 1) := by decide +kernel
theorem d_L_law_1250 : decode code 1250 = .ok (.aload_n 0, 1) := by decide +kernel
theorem d_L_law_1251 : decode code 1251 = .ok (.iload_n 3, 1) := by decide +kernel
theorem d_L_law_1252 : decode code 1252 = .ok (.iconst 1, 1) := by decide +kernel
theorem d_L_law_1253 : decode code 1253 = .ok (.iadd, 1) := by decide +kernel
theorem d_L_law_1254 : decode code 1254 = .ok (.iaload, 1) := by decide +kernel
theorem d_L_law_1255 : decode code 1255 = .ok (.invokevirtual 171, 3) := by decide +kernel
theorem d_L_law_1258 : decode code 1258 = .ok (.aload_n 2, 1) := by decide +kernel
theorem d_L_law_1259 : decode code 1259 = .ok (.aload_n 0, 1) := by decide +kernel
theorem d_L_law_1260 : decode code 1260 = .ok (.iload_n 3, 1) := by decide +kernel
theorem d_L_law_1261 : decode code 1261 = .ok (.iconst 1, 1) := by decide +kernel
theorem d_L_law_1262 : decode code 1262 = .ok (.iadd, 1) := by decide +kernel
theorem d_L_law_1263 : decode code 1263 = .ok (.iaload, 1) := by decide +kernel
theorem d_L_law_1264 : decode code 1264 = .ok (.invokevirtual 174, 3) := by decide +kernel
theorem d_L_law_1267 : decode code 1267 = .ok (.if_icmp .eq 41, 3) := by decide +kernel
theorem d_L_law_1270 : decode code 1270 = .ok (.iconst 0, 1) := by decide +kernel
theorem d_L_law_1271 : decode code 1271 = .ok (.ireturn, 1) := by decide +kernel
theorem d_L_law_1272 : decode code 1272 = .ok (.aload_n 1, 1) := by decide +kernel
theorem d_L_law_1273 : decode code 1273 = .ok (.aload_n 0, 1) := by decide +kernel
theorem d_L_law_1274 : decode code 1274 = .ok (.iload_n 3, 1) := by decide +kernel
theorem d_L_law_1275 : decode code 1275 = .ok (.iconst 1, 1) := by decide +kernel
theorem d_L_law_1276 : decode code 1276 = .ok (.iadd, 1) := by decide +kernel
theorem d_L_law_1277 : decode code 1277 = .ok (.iaload, 1) := by decide +kernel
theorem d_L_law_1278 : decode code 1278 = .ok (.invokevirtual 175, 3) := by decide +kernel
theorem d_L_law_1281 : decode code 1281 = .ok (.aload_n 2, 1) := by decide +kernel
theorem d_L_law_1282 : decode code 1282 = .ok (.aload_n 0, 1) := by decide +kernel
theorem d_L_law_1283 : decode code 1283 = .ok (.iload_n 3, 1) := by decide +kernel
theorem d_L_law_1284 : decode code 1284 = .ok (.iconst 1, 1) := by decide +kernel
theorem d_L_law_1285 : decode code 1285 = .ok (.iadd, 1) := by decide +kernel
theorem d_L_law_1286 : decode code 1286 = .ok (.iaload, 1) := by decide +kernel
theorem d_L_law_1287 : decode code 1287 = .ok (.invokevirtual 178, 3) := by decide +kernel
theorem d_L_law_1290 : decode code 1290 = .ok (.if_icmp .eq 18, 3) := by decide +kernel
theorem d_L_law_1293 : decode code 1293 = .ok (.iconst 0, 1) := by decide +kernel
theorem d_L_law_1294 : decode code 1294 = .ok (.ireturn, 1) := by decide +kernel
theorem d_L_law_1295 : decode code 1295 = .ok (.aload_n 1, 1) := by decide +kernel
theorem d_L_law_1296 : decode code 1296 = .ok (.invokevirtual 179, 3) := by decide +kernel
theorem d_L_law_1299 : decode code 1299 = .ok (.aload_n 2, 1) := by decide +kernel
theorem d_L_law_1300 : decode code 1300 = .ok (.invokevirtual 182, 3) := by decide +kernel
theorem d_L_law_1303 : decode code 1303 = .ok (.if_icmp .eq 5, 3) := by decide +kernel
theorem d_L_law_1306 : decode code 1306 = .ok (.iconst 0, 1) := by decide +kernel
theorem d_L_law_1307 : decode code 1307 = .ok (.ireturn, 1) := by decide +kernel
theorem d_L_law_1308 : decode code 1308 = .ok (.iinc 3 6, 3) := by decide +kernel
theorem d_L_law_1311 : decode code 1311 = .ok (.goto (-1293), 3) := by decide +kernel
theorem d_L_law_1314 : decode code 1314 = .ok (.iconst 1, 1) := by decide +kernel
theorem d_L_law_1315 : decode code 1315 = .ok (.ireturn, 1) := by decide +kernel
