theorem dLw_0 : decode code 0 = .ok (.new 7, 3) := by decide +kernel
theorem dLw_3 : decode code 3 = .ok (.dup, 1) := by decide +kernel
theorem dLw_4 : decode code 4 = .ok (.invokespecial 9, 3) := by decide +kernel
theorem dLw_7 : decode code 7 = .ok (.astore_n 1, 1) := by decide +kernel
theorem dLw_8 : decode code 8 = .ok (.new 10, 3) := by decide +kernel
theorem dLw_11 : decode code 11 = .ok (.dup, 1) := by decide +kernel
theorem dLw_12 : decode code 12 = .ok (.invokespecial 12, 3) := by decide +kernel
theorem dLw_15 : decode code 15 = .ok (.astore_n 2, 1) := by decide +kernel
theorem dLw_16 : decode code 16 = .ok (.iconst 0, 1) := by decide +kernel
theorem dLw_17 : decode code 17 = .ok (.istore_n 3, 1) := by decide +kernel
theorem dLw_18 : decode code 18 = .ok (.iload_n 3, 1) := by decide +kernel
theorem dLw_19 : decode code 19 = .ok (.aload_n 0, 1) := by decide +kernel
theorem dLw_20 : decode code 20 = .ok (.arraylength, 1) := by decide +kernel
theorem dLw_21 : decode code 21 = .ok (.bipush 6, 2) := by decide +kernel
theorem dLw_23 : decode code 23 = .ok (.isub, 1) := by decide +kernel
theorem dLw_24 : decode code 24 = .ok (.if_icmp .gt 1680, 3) := by decide +kernel
theorem dLw_27 : decode code 27 = .ok (.aload_n 0, 1) := by decide +kernel
theorem dLw_28 : decode code 28 = .ok (.iload_n 3, 1) := by decide +kernel
theorem dLw_29 : decode code 29 = .ok (.iaload, 1) := by decide +kernel
theorem dLw_30 : decode code 30 = .ok (.bipush 63, 2) := by decide +kernel
theorem dLw_32 : decode code 32 = .ok (.iand, 1) := by decide +kernel
theorem dLw_33 : decode code 33 = .ok (.tableswitch 1665 0 40 #[179, 242, 265, 288, 311, 344, 387, 430, 473, 506, 565, 588, 637, 670, 693, 726, 759, 812, 845, 904, 937, 980, 1003, 1027, 1061, 1084, 1127, 1160, 1193, 1236, 1269, 1292, 1325, 1358, 1418, 1471, 1540, 1583, 1606, 1619, 1642], 179) := by decide +kernel
theorem dLw_212 : decode code 212 = .ok (.aload_n 1, 1) := by decide +kernel
theorem dLw_213 : decode code 213 = .ok (.aload_n 0, 1) := by decide +kernel
theorem dLw_214 : decode code 214 = .ok (.iload_n 3, 1) := by decide +kernel
theorem dLw_215 : decode code 215 = .ok (.iconst 1, 1) := by decide +kernel
theorem dLw_216 : decode code 216 = .ok (.iadd, 1) := by decide +kernel
theorem dLw_217 : decode code 217 = .ok (.iaload, 1) := by decide +kernel
theorem dLw_218 : decode code 218 = .ok (.aload_n 0, 1) := by decide +kernel
theorem dLw_219 : decode code 219 = .ok (.iload_n 3, 1) := by decide +kernel
theorem dLw_220 : decode code 220 = .ok (.iconst 2, 1) := by decide +kernel
theorem dLw_221 : decode code 221 = .ok (.iadd, 1) := by decide +kernel
theorem dLw_222 : decode code 222 = .ok (.iaload, 1) := by decide +kernel
theorem dLw_223 : decode code 223 = .ok (.aload_n 0, 1) := by decide +kernel
theorem dLw_224 : decode code 224 = .ok (.iload_n 3, 1) := by decide +kernel
theorem dLw_225 : decode code 225 = .ok (.iconst 3, 1) := by decide +kernel
theorem dLw_226 : decode code 226 = .ok (.iadd, 1) := by decide +kernel
theorem dLw_227 : decode code 227 = .ok (.iaload, 1) := by decide +kernel
theorem dLw_228 : decode code 228 = .ok (.aload_n 0, 1) := by decide +kernel
theorem dLw_229 : decode code 229 = .ok (.iload_n 3, 1) := by decide +kernel
theorem dLw_230 : decode code 230 = .ok (.iconst 4, 1) := by decide +kernel
theorem dLw_231 : decode code 231 = .ok (.iadd, 1) := by decide +kernel
theorem dLw_232 : decode code 232 = .ok (.iaload, 1) := by decide +kernel
theorem dLw_233 : decode code 233 = .ok (.aload_n 0, 1) := by decide +kernel
theorem dLw_234 : decode code 234 = .ok (.iload_n 3, 1) := by decide +kernel
theorem dLw_235 : decode code 235 = .ok (.iconst 5, 1) := by decide +kernel
theorem dLw_236 : decode code 236 = .ok (.iadd, 1) := by decide +kernel
theorem dLw_237 : decode code 237 = .ok (.iaload, 1) := by decide +kernel
theorem dLw_238 : decode code 238 = .ok (.invokevirtual 13, 3) := by decide +kernel
theorem dLw_241 : decode code 241 = .ok (.aload_n 2, 1) := by decide +kernel
theorem dLw_242 : decode code 242 = .ok (.aload_n 0, 1) := by decide +kernel
theorem dLw_243 : decode code 243 = .ok (.iload_n 3, 1) := by decide +kernel
theorem dLw_244 : decode code 244 = .ok (.iconst 1, 1) := by decide +kernel
theorem dLw_245 : decode code 245 = .ok (.iadd, 1) := by decide +kernel
theorem dLw_246 : decode code 246 = .ok (.iaload, 1) := by decide +kernel
theorem dLw_247 : decode code 247 = .ok (.aload_n 0, 1) := by decide +kernel
theorem dLw_248 : decode code 248 = .ok (.iload_n 3, 1) := by decide +kernel
theorem dLw_249 : decode code 249 = .ok (.iconst 2, 1) := by decide +kernel
theorem dLw_250 : decode code 250 = .ok (.iadd, 1) := by decide +kernel
theorem dLw_251 : decode code 251 = .ok (.iaload, 1) := by decide +kernel
theorem dLw_252 : decode code 252 = .ok (.aload_n 0, 1) := by decide +kernel
theorem dLw_253 : decode code 253 = .ok (.iload_n 3, 1) := by decide +kernel
theorem dLw_254 : decode code 254 = .ok (.iconst 3, 1) := by decide +kernel
theorem dLw_255 : decode code 255 = .ok (.iadd, 1) := by decide +kernel
theorem dLw_256 : decode code 256 = .ok (.iaload, 1) := by decide +kernel
theorem dLw_257 : decode code 257 = .ok (.aload_n 0, 1) := by decide +kernel
theorem dLw_258 : decode code 258 = .ok (.iload_n 3, 1) := by decide +kernel
theorem dLw_259 : decode code 259 = .ok (.iconst 4, 1) := by decide +kernel
theorem dLw_260 : decode code 260 = .ok (.iadd, 1) := by decide +kernel
theorem dLw_261 : decode code 261 = .ok (.iaload, 1) := by decide +kernel
theorem dLw_262 : decode code 262 = .ok (.aload_n 0, 1) := by decide +kernel
theorem dLw_263 : decode code 263 = .ok (.iload_n 3, 1) := by decide +kernel
theorem dLw_264 : decode code 264 = .ok (.iconst 5, 1) := by decide +kernel
theorem dLw_265 : decode code 265 = .ok (.iadd, 1) := by decide +kernel
theorem dLw_266 : decode code 266 = .ok (.iaload, 1) := by decide +kernel
theorem dLw_267 : decode code 267 = .ok (.invokevirtual 17, 3) := by decide +kernel
theorem dLw_270 : decode code 270 = .ok (.if_icmp .eq 1428, 3) := by decide +kernel
theorem dLw_273 : decode code 273 = .ok (.iconst 0, 1) := by decide +kernel
theorem dLw_274 : decode code 274 = .ok (.ireturn, 1) := by decide +kernel
theorem dLw_275 : decode code 275 = .ok (.aload_n 1, 1) := by decide +kernel
theorem dLw_276 : decode code 276 = .ok (.aload_n 0, 1) := by decide +kernel
theorem dLw_277 : decode code 277 = .ok (.iload_n 3, 1) := by decide +kernel
theorem dLw_278 : decode code 278 = .ok (.iconst 1, 1) := by decide +kernel
theorem dLw_279 : decode code 279 = .ok (.iadd, 1) := by decide +kernel
theorem dLw_280 : decode code 280 = .ok (.iaload, 1) := by decide +kernel
theorem dLw_281 : decode code 281 = .ok (.invokevirtual 18, 3) := by decide +kernel
theorem dLw_284 : decode code 284 = .ok (.aload_n 2, 1) := by decide +kernel
theorem dLw_285 : decode code 285 = .ok (.aload_n 0, 1) := by decide +kernel
theorem dLw_286 : decode code 286 = .ok (.iload_n 3, 1) := by decide +kernel
theorem dLw_287 : decode code 287 = .ok (.iconst 1, 1) := by decide +kernel
theorem dLw_288 : decode code 288 = .ok (.iadd, 1) := by decide +kernel
theorem dLw_289 : decode code 289 = .ok (.iaload, 1) := by decide +kernel
theorem dLw_290 : decode code 290 = .ok (.invokevirtual 22, 3) := by decide +kernel
theorem dLw_293 : decode code 293 = .ok (.if_icmp .eq 1405, 3) := by decide +kernel
theorem dLw_296 : decode code 296 = .ok (.iconst 0, 1) := by decide +kernel
theorem dLw_297 : decode code 297 = .ok (.ireturn, 1) := by decide +kernel
theorem dLw_298 : decode code 298 = .ok (.aload_n 1, 1) := by decide +kernel
theorem dLw_299 : decode code 299 = .ok (.aload_n 0, 1) := by decide +kernel
theorem dLw_300 : decode code 300 = .ok (.iload_n 3, 1) := by decide +kernel
theorem dLw_301 : decode code 301 = .ok (.iconst 1, 1) := by decide +kernel
theorem dLw_302 : decode code 302 = .ok (.iadd, 1) := by decide +kernel
theorem dLw_303 : decode code 303 = .ok (.iaload, 1) := by decide +kernel
theorem dLw_304 : decode code 304 = .ok (.invokevirtual 23, 3) := by decide +kernel
theorem dLw_307 : decode code 307 = .ok (.aload_n 2, 1) := by decide +kernel
theorem dLw_308 : decode code 308 = .ok (.aload_n 0, 1) := by decide +kernel
theorem dLw_309 : decode code 309 = .ok (.iload_n 3, 1) := by decide +kernel
theorem dLw_310 : decode code 310 = .ok (.iconst 1, 1) := by decide +kernel
theorem dLw_311 : decode code 311 = .ok (.iadd, 1) := by decide +kernel
theorem dLw_312 : decode code 312 = .ok (.iaload, 1) := by decide +kernel
theorem dLw_313 : decode code 313 = .ok (.invokevirtual 26, 3) := by decide +kernel
theorem dLw_316 : decode code 316 = .ok (.if_icmp .eq 1382, 3) := by decide +kernel
theorem dLw_319 : decode code 319 = .ok (.iconst 0, 1) := by decide +kernel
theorem dLw_320 : decode code 320 = .ok (.ireturn, 1) := by decide +kernel
theorem dLw_321 : decode code 321 = .ok (.aload_n 1, 1) := by decide +kernel
theorem dLw_322 : decode code 322 = .ok (.aload_n 0, 1) := by decide +kernel
theorem dLw_323 : decode code 323 = .ok (.iload_n 3, 1) := by decide +kernel
theorem dLw_324 : decode code 324 = .ok (.iconst 1, 1) := by decide +kernel
theorem dLw_325 : decode code 325 = .ok (.iadd, 1) := by decide +kernel
theorem dLw_326 : decode code 326 = .ok (.iaload, 1) := by decide +kernel
theorem dLw_327 : decode code 327 = .ok (.invokevirtual 27, 3) := by decide +kernel
theorem dLw_330 : decode code 330 = .ok (.aload_n 2, 1) := by decide +kernel
theorem dLw_331 : decode code 331 = .ok (.aload_n 0, 1) := by decide +kernel
theorem dLw_332 : decode code 332 = .ok (.iload_n 3, 1) := by decide +kernel
theorem dLw_333 : decode code 333 = .ok (.iconst 1, 1) := by decide +kernel
theorem dLw_334 : decode code 334 = .ok (.iadd, 1) := by decide +kernel
theorem dLw_335 : decode code 335 = .ok (.iaload, 1) := by decide +kernel
theorem dLw_336 : decode code 336 = .ok (.invokevirtual 30, 3) := by decide +kernel
theorem dLw_339 : decode code 339 = .ok (.if_icmp .eq 1359, 3) := by decide +kernel
theorem dLw_342 : decode code 342 = .ok (.iconst 0, 1) := by decide +kernel
theorem dLw_343 : decode code 343 = .ok (.ireturn, 1) := by decide +kernel
theorem dLw_344 : decode code 344 = .ok (.aload_n 1, 1) := by decide +kernel
theorem dLw_345 : decode code 345 = .ok (.aload_n 0, 1) := by decide +kernel
theorem dLw_346 : decode code 346 = .ok (.iload_n 3, 1) := by decide +kernel
theorem dLw_347 : decode code 347 = .ok (.iconst 1, 1) := by decide +kernel
theorem dLw_348 : decode code 348 = .ok (.iadd, 1) := by decide +kernel
theorem dLw_349 : decode code 349 = .ok (.iaload, 1) := by decide +kernel
theorem dLw_350 : decode code 350 = .ok (.aload_n 0, 1) := by decide +kernel
theorem dLw_351 : decode code 351 = .ok (.iload_n 3, 1) := by decide +kernel
theorem dLw_352 : decode code 352 = .ok (.iconst 2, 1) := by decide +kernel
theorem dLw_353 : decode code 353 = .ok (.iadd, 1) := by decide +kernel
theorem dLw_354 : decode code 354 = .ok (.iaload, 1) := by decide +kernel
theorem dLw_355 : decode code 355 = .ok (.invokevirtual 31, 3) := by decide +kernel
theorem dLw_358 : decode code 358 = .ok (.aload_n 2, 1) := by decide +kernel
theorem dLw_359 : decode code 359 = .ok (.aload_n 0, 1) := by decide +kernel
theorem dLw_360 : decode code 360 = .ok (.iload_n 3, 1) := by decide +kernel
theorem dLw_361 : decode code 361 = .ok (.iconst 1, 1) := by decide +kernel
theorem dLw_362 : decode code 362 = .ok (.iadd, 1) := by decide +kernel
theorem dLw_363 : decode code 363 = .ok (.iaload, 1) := by decide +kernel
theorem dLw_364 : decode code 364 = .ok (.aload_n 0, 1) := by decide +kernel
theorem dLw_365 : decode code 365 = .ok (.iload_n 3, 1) := by decide +kernel
theorem dLw_366 : decode code 366 = .ok (.iconst 2, 1) := by decide +kernel
theorem dLw_367 : decode code 367 = .ok (.iadd, 1) := by decide +kernel
theorem dLw_368 : decode code 368 = .ok (.iaload, 1) := by decide +kernel
theorem dLw_369 : decode code 369 = .ok (.invokevirtual 35, 3) := by decide +kernel
theorem dLw_372 : decode code 372 = .ok (.if_icmp .eq 1326, 3) := by decide +kernel
theorem dLw_375 : decode code 375 = .ok (.iconst 0, 1) := by decide +kernel
theorem dLw_376 : decode code 376 = .ok (.ireturn, 1) := by decide +kernel
theorem dLw_377 : decode code 377 = .ok (.aload_n 1, 1) := by decide +kernel
theorem dLw_378 : decode code 378 = .ok (.aload_n 0, 1) := by decide +kernel
theorem dLw_379 : decode code 379 = .ok (.iload_n 3, 1) := by decide +kernel
theorem dLw_380 : decode code 380 = .ok (.iconst 1, 1) := by decide +kernel
theorem dLw_381 : decode code 381 = .ok (.iadd, 1) := by decide +kernel
theorem dLw_382 : decode code 382 = .ok (.iaload, 1) := by decide +kernel
theorem dLw_383 : decode code 383 = .ok (.aload_n 0, 1) := by decide +kernel
theorem dLw_384 : decode code 384 = .ok (.iload_n 3, 1) := by decide +kernel
theorem dLw_385 : decode code 385 = .ok (.iconst 2, 1) := by decide +kernel
theorem dLw_386 : decode code 386 = .ok (.iadd, 1) := by decide +kernel
theorem dLw_387 : decode code 387 = .ok (.iaload, 1) := by decide +kernel
theorem dLw_388 : decode code 388 = .ok (.aload_n 0, 1) := by decide +kernel
theorem dLw_389 : decode code 389 = .ok (.iload_n 3, 1) := by decide +kernel
theorem dLw_390 : decode code 390 = .ok (.iconst 3, 1) := by decide +kernel
theorem dLw_391 : decode code 391 = .ok (.iadd, 1) := by decide +kernel
theorem dLw_392 : decode code 392 = .ok (.iaload, 1) := by decide +kernel
theorem dLw_393 : decode code 393 = .ok (.invokevirtual 36, 3) := by decide +kernel
theorem dLw_396 : decode code 396 = .ok (.aload_n 2, 1) := by decide +kernel
theorem dLw_397 : decode code 397 = .ok (.aload_n 0, 1) := by decide +kernel
theorem dLw_398 : decode code 398 = .ok (.iload_n 3, 1) := by decide +kernel
theorem dLw_399 : decode code 399 = .ok (.iconst 1, 1) := by decide +kernel
theorem dLw_400 : decode code 400 = .ok (.iadd, 1) := by decide +kernel
theorem dLw_401 : decode code 401 = .ok (.iaload, 1) := by decide +kernel
theorem dLw_402 : decode code 402 = .ok (.aload_n 0, 1) := by decide +kernel
theorem dLw_403 : decode code 403 = .ok (.iload_n 3, 1) := by decide +kernel
theorem dLw_404 : decode code 404 = .ok (.iconst 2, 1) := by decide +kernel
theorem dLw_405 : decode code 405 = .ok (.iadd, 1) := by decide +kernel
theorem dLw_406 : decode code 406 = .ok (.iaload, 1) := by decide +kernel
theorem dLw_407 : decode code 407 = .ok (.aload_n 0, 1) := by decide +kernel
theorem dLw_408 : decode code 408 = .ok (.iload_n 3, 1) := by decide +kernel
theorem dLw_409 : decode code 409 = .ok (.iconst 3, 1) := by decide +kernel
theorem dLw_410 : decode code 410 = .ok (.iadd, 1) := by decide +kernel
theorem dLw_411 : decode code 411 = .ok (.iaload, 1) := by decide +kernel
theorem dLw_412 : decode code 412 = .ok (.invokevirtual 40, 3) := by decide +kernel
theorem dLw_415 : decode code 415 = .ok (.if_icmp .eq 1283, 3) := by decide +kernel
theorem dLw_418 : decode code 418 = .ok (.iconst 0, 1) := by decide +kernel
theorem dLw_419 : decode code 419 = .ok (.ireturn, 1) := by decide +kernel
theorem dLw_420 : decode code 420 = .ok (.aload_n 1, 1) := by decide +kernel
theorem dLw_421 : decode code 421 = .ok (.aload_n 0, 1) := by decide +kernel
theorem dLw_422 : decode code 422 = .ok (.iload_n 3, 1) := by decide +kernel
theorem dLw_423 : decode code 423 = .ok (.iconst 1, 1) := by decide +kernel
theorem dLw_424 : decode code 424 = .ok (.iadd, 1) := by decide +kernel
theorem dLw_425 : decode code 425 = .ok (.iaload, 1) := by decide +kernel
theorem dLw_426 : decode code 426 = .ok (.aload_n 0, 1) := by decide +kernel
theorem dLw_427 : decode code 427 = .ok (.iload_n 3, 1) := by decide +kernel
theorem dLw_428 : decode code 428 = .ok (.iconst 2, 1) := by decide +kernel
theorem dLw_429 : decode code 429 = .ok (.iadd, 1) := by decide +kernel
theorem dLw_430 : decode code 430 = .ok (.iaload, 1) := by decide +kernel
theorem dLw_431 : decode code 431 = .ok (.aload_n 0, 1) := by decide +kernel
theorem dLw_432 : decode code 432 = .ok (.iload_n 3, 1) := by decide +kernel
theorem dLw_433 : decode code 433 = .ok (.iconst 3, 1) := by decide +kernel
theorem dLw_434 : decode code 434 = .ok (.iadd, 1) := by decide +kernel
theorem dLw_435 : decode code 435 = .ok (.iaload, 1) := by decide +kernel
theorem dLw_436 : decode code 436 = .ok (.invokevirtual 41, 3) := by decide +kernel
theorem dLw_439 : decode code 439 = .ok (.aload_n 2, 1) := by decide +kernel
theorem dLw_440 : decode code 440 = .ok (.aload_n 0, 1) := by decide +kernel
theorem dLw_441 : decode code 441 = .ok (.iload_n 3, 1) := by decide +kernel
theorem dLw_442 : decode code 442 = .ok (.iconst 1, 1) := by decide +kernel
theorem dLw_443 : decode code 443 = .ok (.iadd, 1) := by decide +kernel
theorem dLw_444 : decode code 444 = .ok (.iaload, 1) := by decide +kernel
theorem dLw_445 : decode code 445 = .ok (.aload_n 0, 1) := by decide +kernel
theorem dLw_446 : decode code 446 = .ok (.iload_n 3, 1) := by decide +kernel
theorem dLw_447 : decode code 447 = .ok (.iconst 2, 1) := by decide +kernel
theorem dLw_448 : decode code 448 = .ok (.iadd, 1) := by decide +kernel
theorem dLw_449 : decode code 449 = .ok (.iaload, 1) := by decide +kernel
theorem dLw_450 : decode code 450 = .ok (.aload_n 0, 1) := by decide +kernel
theorem dLw_451 : decode code 451 = .ok (.iload_n 3, 1) := by decide +kernel
theorem dLw_452 : decode code 452 = .ok (.iconst 3, 1) := by decide +kernel
theorem dLw_453 : decode code 453 = .ok (.iadd, 1) := by decide +kernel
theorem dLw_454 : decode code 454 = .ok (.iaload, 1) := by decide +kernel
theorem dLw_455 : decode code 455 = .ok (.invokevirtual 45, 3) := by decide +kernel
theorem dLw_458 : decode code 458 = .ok (.if_icmp .eq 1240, 3) := by decide +kernel
theorem dLw_461 : decode code 461 = .ok (.iconst 0, 1) := by decide +kernel
theorem dLw_462 : decode code 462 = .ok (.ireturn, 1) := by decide +kernel
theorem dLw_463 : decode code 463 = .ok (.aload_n 1, 1) := by decide +kernel
theorem dLw_464 : decode code 464 = .ok (.aload_n 0, 1) := by decide +kernel
theorem dLw_465 : decode code 465 = .ok (.iload_n 3, 1) := by decide +kernel
theorem dLw_466 : decode code 466 = .ok (.iconst 1, 1) := by decide +kernel
theorem dLw_467 : decode code 467 = .ok (.iadd, 1) := by decide +kernel
theorem dLw_468 : decode code 468 = .ok (.iaload, 1) := by decide +kernel
theorem dLw_469 : decode code 469 = .ok (.aload_n 0, 1) := by decide +kernel
theorem dLw_470 : decode code 470 = .ok (.iload_n 3, 1) := by decide +kernel
theorem dLw_471 : decode code 471 = .ok (.iconst 2, 1) := by decide +kernel
theorem dLw_472 : decode code 472 = .ok (.iadd, 1) := by decide +kernel
theorem dLw_473 : decode code 473 = .ok (.iaload, 1) := by decide +kernel
theorem dLw_474 : decode code 474 = .ok (.aload_n 0, 1) := by decide +kernel
theorem dLw_475 : decode code 475 = .ok (.iload_n 3, 1) := by decide +kernel
theorem dLw_476 : decode code 476 = .ok (.iconst 3, 1) := by decide +kernel
theorem dLw_477 : decode code 477 = .ok (.iadd, 1) := by decide +kernel
theorem dLw_478 : decode code 478 = .ok (.iaload, 1) := by decide +kernel
theorem dLw_479 : decode code 479 = .ok (.invokevirtual 46, 3) := by decide +kernel
theorem dLw_482 : decode code 482 = .ok (.aload_n 2, 1) := by decide +kernel
theorem dLw_483 : decode code 483 = .ok (.aload_n 0, 1) := by decide +kernel
