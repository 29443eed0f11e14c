theorem dL_law_0 : decode code 0 = .ok (.new 7, 3) := by decide +kernel
theorem dL_law_3 : decode code 3 = .ok (.dup, 1) := by decide +kernel
theorem dL_law_4 : decode code 4 = .ok (.invokespecial 9, 3) := by decide +kernel
theorem dL_law_7 : decode code 7 = .ok (.astore_n 1, 1) := by decide +kernel
theorem dL_law_8 : decode code 8 = .ok (.new 10, 3) := by decide +kernel
theorem dL_law_11 : decode code 11 = .ok (.dup, 1) := by decide +kernel
theorem dL_law_12 : decode code 12 = .ok (.invokespecial 12, 3) := by decide +kernel
theorem dL_law_15 : decode code 15 = .ok (.astore_n 2, 1) := by decide +kernel
theorem dL_law_16 : decode code 16 = .ok (.iconst 0, 1) := by decide +kernel
theorem dL_law_17 : decode code 17 = .ok (.istore_n 3, 1) := by decide +kernel
theorem dL_law_18 : decode code 18 = .ok (.iload_n 3, 1) := by decide +kernel
theorem dL_law_19 : decode code 19 = .ok (.aload_n 0, 1) := by decide +kernel
theorem dL_law_20 : decode code 20 = .ok (.arraylength, 1) := by decide +kernel
theorem dL_law_21 : decode code 21 = .ok (.iconst 5, 1) := by decide +kernel
theorem dL_law_22 : decode code 22 = .ok (.isub, 1) := by decide +kernel
theorem dL_law_23 : decode code 23 = .ok (.if_icmp .gt 1584, 3) := by decide +kernel
theorem dL_law_26 : decode code 26 = .ok (.aload_n 0, 1) := by decide +kernel
theorem dL_law_27 : decode code 27 = .ok (.iload_n 3, 1) := by decide +kernel
theorem dL_law_28 : decode code 28 = .ok (.iaload, 1) := by decide +kernel
theorem dL_law_29 : decode code 29 = .ok (.bipush 63, 2) := by decide +kernel
theorem dL_law_31 : decode code 31 = .ok (.iand, 1) := by decide +kernel
theorem dL_law_32 : decode code 32 = .ok (.tableswitch 1569 0 42 #[188, 251, 264, 297, 320, 353, 386, 419, 452, 495, 538, 571, 594, 617, 630, 653, 676, 709, 732, 755, 768, 801, 834, 867, 900, 943, 986, 1030, 1064, 1097, 1130, 1173, 1196, 1249, 1292, 1335, 1378, 1421, 1454, 1497, 1520, 1543, 1556], 188) := by decide +kernel
theorem dL_law_220 : decode code 220 = .ok (.aload_n 1, 1) := by decide +kernel
theorem dL_law_221 : decode code 221 = .ok (.aload_n 0, 1) := by decide +kernel
theorem dL_law_222 : decode code 222 = .ok (.iload_n 3, 1) := by decide +kernel
theorem dL_law_223 : decode code 223 = .ok (.iconst 1, 1) := by decide +kernel
theorem dL_law_224 : decode code 224 = .ok (.iadd, 1) := by decide +kernel
theorem dL_law_225 : decode code 225 = .ok (.iaload, 1) := by decide +kernel
theorem dL_law_226 : decode code 226 = .ok (.i2l, 1) := by decide +kernel
theorem dL_law_227 : decode code 227 = .ok (.bipush 32, 2) := by decide +kernel
theorem dL_law_229 : decode code 229 = .ok (.lshl, 1) := by decide +kernel
theorem dL_law_230 : decode code 230 = .ok (.aload_n 0, 1) := by decide +kernel
theorem dL_law_231 : decode code 231 = .ok (.iload_n 3, 1) := by decide +kernel
theorem dL_law_232 : decode code 232 = .ok (.iconst 2, 1) := by decide +kernel
theorem dL_law_233 : decode code 233 = .ok (.iadd, 1) := by decide +kernel
theorem dL_law_234 : decode code 234 = .ok (.iaload, 1) := by decide +kernel
theorem dL_law_235 : decode code 235 = .ok (.i2l, 1) := by decide +kernel
theorem dL_law_236 : decode code 236 = .ok (.ldc2_w 13, 3) := by decide +kernel
theorem dL_law_239 : decode code 239 = .ok (.land, 1) := by decide +kernel
theorem dL_law_240 : decode code 240 = .ok (.lor, 1) := by decide +kernel
theorem dL_law_241 : decode code 241 = .ok (.aload_n 0, 1) := by decide +kernel
theorem dL_law_242 : decode code 242 = .ok (.iload_n 3, 1) := by decide +kernel
theorem dL_law_243 : decode code 243 = .ok (.iconst 3, 1) := by decide +kernel
theorem dL_law_244 : decode code 244 = .ok (.iadd, 1) := by decide +kernel
theorem dL_law_245 : decode code 245 = .ok (.iaload, 1) := by decide +kernel
theorem dL_law_246 : decode code 246 = .ok (.invokevirtual 15, 3) := by decide +kernel
theorem dL_law_249 : decode code 249 = .ok (.aload_n 2, 1) := by decide +kernel
theorem dL_law_250 : decode code 250 = .ok (.aload_n 0, 1) := by decide +kernel
theorem dL_law_251 : decode code 251 = .ok (.iload_n 3, 1) := by decide +kernel
theorem dL_law_252 : decode code 252 = .ok (.iconst 1, 1) := by decide +kernel
theorem dL_law_253 : decode code 253 = .ok (.iadd, 1) := by decide +kernel
theorem dL_law_254 : decode code 254 = .ok (.iaload, 1) := by decide +kernel
theorem dL_law_255 : decode code 255 = .ok (.i2l, 1) := by decide +kernel
theorem dL_law_256 : decode code 256 = .ok (.bipush 32, 2) := by decide +kernel
theorem dL_law_258 : decode code 258 = .ok (.lshl, 1) := by decide +kernel
theorem dL_law_259 : decode code 259 = .ok (.aload_n 0, 1) := by decide +kernel
theorem dL_law_260 : decode code 260 = .ok (.iload_n 3, 1) := by decide +kernel
theorem dL_law_261 : decode code 261 = .ok (.iconst 2, 1) := by decide +kernel
theorem dL_law_262 : decode code 262 = .ok (.iadd, 1) := by decide +kernel
theorem dL_law_263 : decode code 263 = .ok (.iaload, 1) := by decide +kernel
theorem dL_law_264 : decode code 264 = .ok (.i2l, 1) := by decide +kernel
theorem dL_law_265 : decode code 265 = .ok (.ldc2_w 13, 3) := by decide +kernel
theorem dL_law_268 : decode code 268 = .ok (.land, 1) := by decide +kernel
theorem dL_law_269 : decode code 269 = .ok (.lor, 1) := by decide +kernel
theorem dL_law_270 : decode code 270 = .ok (.aload_n 0, 1) := by decide +kernel
theorem dL_law_271 : decode code 271 = .ok (.iload_n 3, 1) := by decide +kernel
theorem dL_law_272 : decode code 272 = .ok (.iconst 3, 1) := by decide +kernel
theorem dL_law_273 : decode code 273 = .ok (.iadd, 1) := by decide +kernel
theorem dL_law_274 : decode code 274 = .ok (.iaload, 1) := by decide +kernel
theorem dL_law_275 : decode code 275 = .ok (.invokevirtual 19, 3) := by decide +kernel
theorem dL_law_278 : decode code 278 = .ok (.if_icmp .eq 1323, 3) := by decide +kernel
theorem dL_law_281 : decode code 281 = .ok (.iconst 0, 1) := by decide +kernel
theorem dL_law_282 : decode code 282 = .ok (.ireturn, 1) := by decide +kernel
theorem dL_law_283 : decode code 283 = .ok (.aload_n 1, 1) := by decide +kernel
theorem dL_law_284 : decode code 284 = .ok (.invokevirtual 20, 3) := by decide +kernel
theorem dL_law_287 : decode code 287 = .ok (.aload_n 2, 1) := by decide +kernel
theorem dL_law_288 : decode code 288 = .ok (.invokevirtual 24, 3) := by decide +kernel
theorem dL_law_291 : decode code 291 = .ok (.if_icmp .eq 1310, 3) := by decide +kernel
theorem dL_law_294 : decode code 294 = .ok (.iconst 0, 1) := by decide +kernel
theorem dL_law_295 : decode code 295 = .ok (.ireturn, 1) := by decide +kernel
theorem dL_law_296 : decode code 296 = .ok (.aload_n 1, 1) := by decide +kernel
theorem dL_law_297 : decode code 297 = .ok (.aload_n 0, 1) := by decide +kernel
theorem dL_law_298 : decode code 298 = .ok (.iload_n 3, 1) := by decide +kernel
theorem dL_law_299 : decode code 299 = .ok (.iconst 1, 1) := by decide +kernel
theorem dL_law_300 : decode code 300 = .ok (.iadd, 1) := by decide +kernel
theorem dL_law_301 : decode code 301 = .ok (.iaload, 1) := by decide +kernel
theorem dL_law_302 : decode code 302 = .ok (.aload_n 0, 1) := by decide +kernel
theorem dL_law_303 : decode code 303 = .ok (.iload_n 3, 1) := by decide +kernel
theorem dL_law_304 : decode code 304 = .ok (.iconst 2, 1) := by decide +kernel
theorem dL_law_305 : decode code 305 = .ok (.iadd, 1) := by decide +kernel
theorem dL_law_306 : decode code 306 = .ok (.iaload, 1) := by decide +kernel
theorem dL_law_307 : decode code 307 = .ok (.invokevirtual 25, 3) := by decide +kernel
theorem dL_law_310 : decode code 310 = .ok (.aload_n 2, 1) := by decide +kernel
theorem dL_law_311 : decode code 311 = .ok (.aload_n 0, 1) := by decide +kernel
theorem dL_law_312 : decode code 312 = .ok (.iload_n 3, 1) := by decide +kernel
theorem dL_law_313 : decode code 313 = .ok (.iconst 1, 1) := by decide +kernel
theorem dL_law_314 : decode code 314 = .ok (.iadd, 1) := by decide +kernel
theorem dL_law_315 : decode code 315 = .ok (.iaload, 1) := by decide +kernel
theorem dL_law_316 : decode code 316 = .ok (.aload_n 0, 1) := by decide +kernel
theorem dL_law_317 : decode code 317 = .ok (.iload_n 3, 1) := by decide +kernel
theorem dL_law_318 : decode code 318 = .ok (.iconst 2, 1) := by decide +kernel
theorem dL_law_319 : decode code 319 = .ok (.iadd, 1) := by decide +kernel
theorem dL_law_320 : decode code 320 = .ok (.iaload, 1) := by decide +kernel
theorem dL_law_321 : decode code 321 = .ok (.invokevirtual 29, 3) := by decide +kernel
theorem dL_law_324 : decode code 324 = .ok (.if_icmp .eq 1277, 3) := by decide +kernel
theorem dL_law_327 : decode code 327 = .ok (.iconst 0, 1) := by decide +kernel
theorem dL_law_328 : decode code 328 = .ok (.ireturn, 1) := by decide +kernel
theorem dL_law_329 : decode code 329 = .ok (.aload_n 1, 1) := by decide +kernel
theorem dL_law_330 : decode code 330 = .ok (.aload_n 0, 1) := by decide +kernel
theorem dL_law_331 : decode code 331 = .ok (.iload_n 3, 1) := by decide +kernel
theorem dL_law_332 : decode code 332 = .ok (.iconst 1, 1) := by decide +kernel
theorem dL_law_333 : decode code 333 = .ok (.iadd, 1) := by decide +kernel
theorem dL_law_334 : decode code 334 = .ok (.iaload, 1) := by decide +kernel
theorem dL_law_335 : decode code 335 = .ok (.invokevirtual 30, 3) := by decide +kernel
theorem dL_law_338 : decode code 338 = .ok (.aload_n 2, 1) := by decide +kernel
theorem dL_law_339 : decode code 339 = .ok (.aload_n 0, 1) := by decide +kernel
theorem dL_law_340 : decode code 340 = .ok (.iload_n 3, 1) := by decide +kernel
theorem dL_law_341 : decode code 341 = .ok (.iconst 1, 1) := by decide +kernel
theorem dL_law_342 : decode code 342 = .ok (.iadd, 1) := by decide +kernel
theorem dL_law_343 : decode code 343 = .ok (.iaload, 1) := by decide +kernel
theorem dL_law_344 : decode code 344 = .ok (.invokevirtual 34, 3) := by decide +kernel
theorem dL_law_347 : decode code 347 = .ok (.if_icmp .eq 1254, 3) := by decide +kernel
theorem dL_law_350 : decode code 350 = .ok (.iconst 0, 1) := by decide +kernel
theorem dL_law_351 : decode code 351 = .ok (.ireturn, 1) := by decide +kernel
theorem dL_law_352 : decode code 352 = .ok (.aload_n 1, 1) := by decide +kernel
theorem dL_law_353 : decode code 353 = .ok (.aload_n 0, 1) := by decide +kernel
theorem dL_law_354 : decode code 354 = .ok (.iload_n 3, 1) := by decide +kernel
theorem dL_law_355 : decode code 355 = .ok (.iconst 1, 1) := by decide +kernel
theorem dL_law_356 : decode code 356 = .ok (.iadd, 1) := by decide +kernel
theorem dL_law_357 : decode code 357 = .ok (.iaload, 1) := by decide +kernel
theorem dL_law_358 : decode code 358 = .ok (.aload_n 0, 1) := by decide +kernel
theorem dL_law_359 : decode code 359 = .ok (.iload_n 3, 1) := by decide +kernel
theorem dL_law_360 : decode code 360 = .ok (.iconst 2, 1) := by decide +kernel
theorem dL_law_361 : decode code 361 = .ok (.iadd, 1) := by decide +kernel
theorem dL_law_362 : decode code 362 = .ok (.iaload, 1) := by decide +kernel
theorem dL_law_363 : decode code 363 = .ok (.invokevirtual 35, 3) := by decide +kernel
theorem dL_law_366 : decode code 366 = .ok (.aload_n 2, 1) := by decide +kernel
theorem dL_law_367 : decode code 367 = .ok (.aload_n 0, 1) := by decide +kernel
theorem dL_law_368 : decode code 368 = .ok (.iload_n 3, 1) := by decide +kernel
theorem dL_law_369 : decode code 369 = .ok (.iconst 1, 1) := by decide +kernel
theorem dL_law_370 : decode code 370 = .ok (.iadd, 1) := by decide +kernel
theorem dL_law_371 : decode code 371 = .ok (.iaload, 1) := by decide +kernel
theorem dL_law_372 : decode code 372 = .ok (.aload_n 0, 1) := by decide +kernel
theorem dL_law_373 : decode code 373 = .ok (.iload_n 3, 1) := by decide +kernel
theorem dL_law_374 : decode code 374 = .ok (.iconst 2, 1) := by decide +kernel
theorem dL_law_375 : decode code 375 = .ok (.iadd, 1) := by decide +kernel
theorem dL_law_376 : decode code 376 = .ok (.iaload, 1) := by decide +kernel
theorem dL_law_377 : decode code 377 = .ok (.invokevirtual 38, 3) := by decide +kernel
theorem dL_law_380 : decode code 380 = .ok (.if_icmp .eq 1221, 3) := by decide +kernel
theorem dL_law_383 : decode code 383 = .ok (.iconst 0, 1) := by decide +kernel
theorem dL_law_384 : decode code 384 = .ok (.ireturn, 1) := by decide +kernel
theorem dL_law_385 : decode code 385 = .ok (.aload_n 1, 1) := by decide +kernel
theorem dL_law_386 : decode code 386 = .ok (.aload_n 0, 1) := by decide +kernel
theorem dL_law_387 : decode code 387 = .ok (.iload_n 3, 1) := by decide +kernel
theorem dL_law_388 : decode code 388 = .ok (.iconst 1, 1) := by decide +kernel
theorem dL_law_389 : decode code 389 = .ok (.iadd, 1) := by decide +kernel
theorem dL_law_390 : decode code 390 = .ok (.iaload, 1) := by decide +kernel
theorem dL_law_391 : decode code 391 = .ok (.aload_n 0, 1) := by decide +kernel
theorem dL_law_392 : decode code 392 = .ok (.iload_n 3, 1) := by decide +kernel
theorem dL_law_393 : decode code 393 = .ok (.iconst 2, 1) := by decide +kernel
theorem dL_law_394 : decode code 394 = .ok (.iadd, 1) := by decide +kernel
theorem dL_law_395 : decode code 395 = .ok (.iaload, 1) := by decide +kernel
theorem dL_law_396 : decode code 396 = .ok (.invokevirtual 39, 3) := by decide +kernel
theorem dL_law_399 : decode code 399 = .ok (.aload_n 2, 1) := by decide +kernel
theorem dL_law_400 : decode code 400 = .ok (.aload_n 0, 1) := by decide +kernel
theorem dL_law_401 : decode code 401 = .ok (.iload_n 3, 1) := by decide +kernel
theorem dL_law_402 : decode code 402 = .ok (.iconst 1, 1) := by decide +kernel
theorem dL_law_403 : decode code 403 = .ok (.iadd, 1) := by decide +kernel
theorem dL_law_404 : decode code 404 = .ok (.iaload, 1) := by decide +kernel
theorem dL_law_405 : decode code 405 = .ok (.aload_n 0, 1) := by decide +kernel
theorem dL_law_406 : decode code 406 = .ok (.iload_n 3, 1) := by decide +kernel
theorem dL_law_407 : decode code 407 = .ok (.iconst 2, 1) := by decide +kernel
theorem dL_law_408 : decode code 408 = .ok (.iadd, 1) := by decide +kernel
theorem dL_law_409 : decode code 409 = .ok (.iaload, 1) := by decide +kernel
theorem dL_law_410 : decode code 410 = .ok (.invokevirtual 42, 3) := by decide +kernel
theorem dL_law_413 : decode code 413 = .ok (.if_icmp .eq 1188, 3) := by decide +kernel
theorem dL_law_416 : decode code 416 = .ok (.iconst 0, 1) := by decide +kernel
theorem dL_law_417 : decode code 417 = .ok (.ireturn, 1) := by decide +kernel
theorem dL_law_418 : decode code 418 = .ok (.aload_n 1, 1) := by decide +kernel
theorem dL_law_419 : decode code 419 = .ok (.aload_n 0, 1) := by decide +kernel
theorem dL_law_420 : decode code 420 = .ok (.iload_n 3, 1) := by decide +kernel
theorem dL_law_421 : decode code 421 = .ok (.iconst 1, 1) := by decide +kernel
theorem dL_law_422 : decode code 422 = .ok (.iadd, 1) := by decide +kernel
theorem dL_law_423 : decode code 423 = .ok (.iaload, 1) := by decide +kernel
theorem dL_law_424 : decode code 424 = .ok (.aload_n 0, 1) := by decide +kernel
theorem dL_law_425 : decode code 425 = .ok (.iload_n 3, 1) := by decide +kernel
theorem dL_law_426 : decode code 426 = .ok (.iconst 2, 1) := by decide +kernel
theorem dL_law_427 : decode code 427 = .ok (.iadd, 1) := by decide +kernel
theorem dL_law_428 : decode code 428 = .ok (.iaload, 1) := by decide +kernel
theorem dL_law_429 : decode code 429 = .ok (.invokevirtual 43, 3) := by decide +kernel
theorem dL_law_432 : decode code 432 = .ok (.aload_n 2, 1) := by decide +kernel
theorem dL_law_433 : decode code 433 = .ok (.aload_n 0, 1) := by decide +kernel
theorem dL_law_434 : decode code 434 = .ok (.iload_n 3, 1) := by decide +kernel
theorem dL_law_435 : decode code 435 = .ok (.iconst 1, 1) := by decide +kernel
theorem dL_law_436 : decode code 436 = .ok (.iadd, 1) := by decide +kernel
theorem dL_law_437 : decode code 437 = .ok (.iaload, 1) := by decide +kernel
theorem dL_law_438 : decode code 438 = .ok (.aload_n 0, 1) := by decide +kernel
theorem dL_law_439 : decode code 439 = .ok (.iload_n 3, 1) := by decide +kernel
theorem dL_law_440 : decode code 440 = .ok (.iconst 2, 1) := by decide +kernel
theorem dL_law_441 : decode code 441 = .ok (.iadd, 1) := by decide +kernel
theorem dL_law_442 : decode code 442 = .ok (.iaload, 1) := by decide +kernel
theorem dL_law_443 : decode code 443 = .ok (.invokevirtual 46, 3) := by decide +kernel
theorem dL_law_446 : decode code 446 = .ok (.if_icmp .eq 1155, 3) := by decide +kernel
theorem dL_law_449 : decode code 449 = .ok (.iconst 0, 1) := by decide +kernel
theorem dL_law_450 : decode code 450 = .ok (.ireturn, 1) := by decide +kernel
theorem dL_law_451 : decode code 451 = .ok (.aload_n 1, 1) := by decide +kernel
theorem dL_law_452 : decode code 452 = .ok (.aload_n 0, 1) := by decide +kernel
theorem dL_law_453 : decode code 453 = .ok (.iload_n 3, 1) := by decide +kernel
theorem dL_law_454 : decode code 454 = .ok (.iconst 1, 1) := by decide +kernel
theorem dL_law_455 : decode code 455 = .ok (.iadd, 1) := by decide +kernel
theorem dL_law_456 : decode code 456 = .ok (.iaload, 1) := by decide +kernel
theorem dL_law_457 : decode code 457 = .ok (.aload_n 0, 1) := by decide +kernel
theorem dL_law_458 : decode code 458 = .ok (.iload_n 3, 1) := by decide +kernel
theorem dL_law_459 : decode code 459 = .ok (.iconst 2, 1) := by decide +kernel
theorem dL_law_460 : decode code 460 = .ok (.iadd, 1) := by decide +kernel
theorem dL_law_461 : decode code 461 = .ok (.iaload, 1) := by decide +kernel
theorem dL_law_462 : decode code 462 = .ok (.invokevirtual 47, 3) := by decide +kernel
theorem dL_law_465 : decode code 465 = .ok (.aload_n 2, 1) := by decide +kernel
theorem dL_law_466 : decode code 466 = .ok (.aload_n 0, 1) := by decide +kernel
theorem dL_law_467 : decode code 467 = .ok (.iload_n 3, 1) := by decide +kernel
theorem dL_law_468 : decode code 468 = .ok (.iconst 1, 1) := by decide +kernel
theorem dL_law_469 : decode code 469 = .ok (.iadd, 1) := by decide +kernel
theorem dL_law_470 : decode code 470 = .ok (.iaload, 1) := by decide +kernel
theorem dL_law_471 : decode code 471 = .ok (.aload_n 0, 1) := by decide +kernel
theorem dL_law_472 : decode code 472 = .ok (.iload_n 3, 1) := by decide +kernel
theorem dL_law_473 : decode code 473 = .ok (.iconst 2, 1) := by decide +kernel
theorem dL_law_474 : decode code 474 = .ok (.iadd, 1) := by decide +kernel
theorem dL_law_475 : decode code 475 = .ok (.iaload, 1) := by decide +kernel
theorem dL_law_476 : decode code 476 = .ok (.invokevirtual 50, 3) := by decide +kernel
theorem dL_law_479 : decode code 479 = .ok (.if_icmp .eq 1122, 3) := by decide +kernel
theorem dL_law_482 : decode code 482 = .ok (.iconst 0, 1) := by decide +kernel
theorem dL_law_483 : decode code 483 = .ok (.ireturn, 1) := by decide +kernel
theorem dL_law_484 : decode code 484 = .ok (.aload_n 1, 1) := by decide +kernel
theorem dL_law_485 : decode code 485 = .ok (.aload_n 0, 1) := by decide +kernel
theorem dL_law_486 : decode code 486 = .ok (.iload_n 3, 1) := by decide +kernel
theorem dL_law_487 : decode code 487 = .ok (.iconst 1, 1) := by decide +kernel
theorem dL_law_488 : decode code 488 = .ok (.iadd, 1) := by decide +kernel
theorem dL_law_489 : decode code 489 = .ok (.iaload, 1) := by decide +kernel
theorem dL_law_490 : decode code 490 = .ok (.aload_n 0, 1) := by decide +kernel
theorem dL_law_491 : decode code 491 = .ok (.iload_n 3, 1) := by decide +kernel
theorem dL_law_492 : decode code 492 = .ok (.iconst 2, 1) := by decide +kernel
theorem dL_law_493 : decode code 493 = .ok (.iadd, 1) := by decide +kernel
theorem dL_law_494 : decode code 494 = .ok (.iaload, 1) := by decide +kernel
theorem dL_law_495 : decode code 495 = .ok (.aload_n 0, 1) := by decide +kernel
theorem dL_law_496 : decode code 496 = .ok (.iload_n 3, 1) := by decide +kernel
theorem dL_law_497 : decode code 497 = .ok (.iconst 3, 1) := by decide +kernel
theorem dL_law_498 : decode code 498 = .ok (.iadd, 1) := by decide +kernel
theorem dL_law_499 : decode code 499 = .ok (.iaload, 1) := by decide +kernel
theorem dL_law_500 : decode code 500 = .ok (.invokevirtual 51, 3) := by decide +kernel
theorem dL_law_503 : decode code 503 = .ok (.aload_n 2, 1) := by decide +kernel
theorem dL_law_504 : decode code 504 = .ok (.aload_n 0, 1) := by decide +kernel
theorem dL_law_505 : decode code 505 = .ok (.iload_n 3, 1) := by decide +kernel
theorem dL_law_506 : decode code 506 = .ok (.iconst 1, 1) := by decide +kernel
theorem dL_law_507 : decode code 507 = .ok (.iadd, 1) := by decide +kernel
theorem dL_law_508 : decode code 508 = .ok (.iaload, 1) := by decide +kernel
theorem dL_law_509 : decode code 509 = .ok (.aload_n 0, 1) := by decide +kernel
theorem dL_law_510 : decode code 510 = .ok (.iload_n 3, 1) := by decide +kernel
theorem dL_law_511 : decode code 511 = .ok (.iconst 2, 1) := by decide +kernel
theorem dL_law_512 : decode code 512 = .ok (.iadd, 1) := by decide +kernel
theorem dL_law_513 : decode code 513 = .ok (.iaload, 1) := by decide +kernel
theorem dL_law_514 : decode code 514 = .ok (.aload_n 0, 1) := by decide +kernel
theorem dL_law_515 : decode code 515 = .ok (.iload_n 3, 1) := by decide +kernel
theorem dL_law_516 : decode code 516 = .ok (.iconst 3, 1) := by decide +kernel
theorem dL_law_517 : decode code 517 = .ok (.iadd, 1) := by decide +kernel
theorem dL_law_518 : decode code 518 = .ok (.iaload, 1) := by decide +kernel
theorem dL_law_519 : decode code 519 = .ok (.invokevirtual 55, 3) := by decide +kernel
theorem dL_law_522 : decode code 522 = .ok (.if_icmp .eq 1079, 3) := by decide +kernel
theorem dL_law_525 : decode code 525 = .ok (.iconst 0, 1) := by decide +kernel
theorem dL_law_526 : decode code 526 = .ok (.ireturn, 1) := by decide +kernel
theorem dL_law_527 : decode code 527 = .ok (.aload_n 1, 1) := by decide +kernel
theorem dL_law_528 : decode code 528 = .ok (.aload_n 0, 1) := by decide +kernel
theorem dL_law_529 : decode code 529 = .ok (.iload_n 3, 1) := by decide +kernel
theorem dL_law_530 : decode code 530 = .ok (.iconst 1, 1) := by decide +kernel
theorem dL_law_531 : decode code 531 = .ok (.iadd, 1) := by decide +kernel
theorem dL_law_532 : decode code 532 = .ok (.iaload, 1) := by decide +kernel
theorem dL_law_533 : decode code 533 = .ok (.aload_n 0, 1) := by decide +kernel
theorem dL_law_534 : decode code 534 = .ok (.iload_n 3, 1) := by decide +kernel
theorem dL_law_535 : decode code 535 = .ok (.iconst 2, 1) := by decide +kernel
theorem dL_law_536 : decode code 536 = .ok (.iadd, 1) := by decide +kernel
theorem dL_law_537 : decode code 537 = .ok (.iaload, 1) := by decide +kernel
theorem dL_law_538 : decode code 538 = .ok (.aload_n 0, 1) := by decide +kernel
theorem dL_law_539 : decode code 539 = .ok (.iload_n 3, 1) := by decide +kernel
theorem dL_law_540 : decode code 540 = .ok (.iconst 3, 1) := by decide +kernel
theorem dL_law_541 : decode code 541 = .ok (.iadd, 1) := by decide +kernel
theorem dL_law_542 : decode code 542 = .ok (.iaload, 1) := by decide +kernel
theorem dL_law_543 : decode code 543 = .ok (.invokevirtual 56, 3) := by decide +kernel
theorem dL_law_546 : decode code 546 = .ok (.aload_n 2, 1) := by decide +kernel
theorem dL_law_547 : decode code 547 = .ok (.aload_n 0, 1) := by decide +kernel
theorem dL_law_548 : decode code 548 = .ok (.iload_n 3, 1) := by decide +kernel
theorem dL_law_549 : decode code 549 = .ok (.iconst 1, 1) := by decide +kernel
theorem dL_law_550 : decode code 550 = .ok (.iadd, 1) := by decide +kernel
theorem dL_law_551 : decode code 551 = .ok (.iaload, 1) := by decide +kernel
theorem dL_law_552 : decode code 552 = .ok (.aload_n 0, 1) := by decide +kernel
theorem dL_law_553 : decode code 553 = .ok (.iload_n 3, 1) := by decide +kernel
theorem dL_law_554 : decode code 554 = .ok (.iconst 2, 1) := by decide +kernel
theorem dL_law_555 : decode code 555 = .ok (.iadd, 1) := by decide +kernel
theorem dL_law_556 : decode code 556 = .ok (.iaload, 1) := by decide +kernel
theorem dL_law_557 : decode code 557 = .ok (.aload_n 0, 1) := by decide +kernel
theorem dL_law_558 : decode code 558 = .ok (.iload_n 3, 1) := by decide +kernel
theorem dL_law_559 : decode code 559 = .ok (.iconst 3, 1) := by decide +kernel
theorem dL_law_560 : decode code 560 = .ok (.iadd, 1) := by decide +kernel
theorem dL_law_561 : decode code 561 = .ok (.iaload, 1) := by decide +kernel
theorem dL_law_562 : decode code 562 = .ok (.invokevirtual 59, 3) := by decide +kernel
theorem dL_law_565 : decode code 565 = .ok (.if_icmp .eq 1036, 3) := by decide +kernel
theorem dL_law_568 : decode code 568 = .ok (.iconst 0, 1) := by decide +kernel
theorem dL_law_569 : decode code 569 = .ok (.ireturn, 1) := by decide +kernel
theorem dL_law_570 : decode code 570 = .ok (.aload_n 1, 1) := by decide +kernel
theorem dL_law_571 : decode code 571 = .ok (.aload_n 0, 1) := by decide +kernel
theorem dL_law_572 : decode code 572 = .ok (.iload_n 3, 1) := by decide +kernel
theorem dL_law_573 : decode code 573 = .ok (.iconst 1, 1) := by decide +kernel
theorem dL_law_574 : decode code 574 = .ok (.iadd, 1) := by decide +kernel
theorem dL_law_575 : decode code 575 = .ok (.iaload, 1) := by decide +kernel
theorem dL_law_576 : decode code 576 = .ok (.aload_n 0, 1) := by decide +kernel
theorem dL_law_577 : decode code 577 = .ok (.iload_n 3, 1) := by decide +kernel
theorem dL_law_578 : decode code 578 = .ok (.iconst 2, 1) := by decide +kernel
theorem dL_law_579 : decode code 579 = .ok (.iadd, 1) := by decide +kernel
theorem dL_law_580 : decode code 580 = .ok (.iaload, 1) := by decide +kernel
theorem dL_law_581 : decode code 581 = .ok (.invokevirtual 60, 3) := by decide +kernel
theorem dL_law_584 : decode code 584 = .ok (.aload_n 2, 1) := by decide +kernel
theorem dL_law_585 : decode code 585 = .ok (.aload_n 0, 1) := by decide +kernel
theorem dL_law_586 : decode code 586 = .ok (.iload_n 3, 1) := by decide +kernel
theorem dL_law_587 : decode code 587 = .ok (.iconst 1, 1) := by decide +kernel
theorem dL_law_588 : decode code 588 = .ok (.iadd, 1) := by decide +kernel
theorem dL_law_589 : decode code 589 = .ok (.iaload, 1) := by decide +kernel
theorem dL_law_590 : decode code 590 = .ok (.aload_n 0, 1) := by decide +kernel
theorem dL_law_591 : decode code 591 = .ok (.iload_n 3, 1) := by decide +kernel
theorem dL_law_592 : decode code 592 = .ok (.iconst 2, 1) := by decide +kernel
theorem dL_law_593 : decode code 593 = .ok (.iadd, 1) := by decide +kernel
theorem dL_law_594 : decode code 594 = .ok (.iaload, 1) := by decide +kernel
theorem dL_law_595 : decode code 595 = .ok (.invokevirtual 63, 3) := by decide +kernel
theorem dL_law_598 : decode code 598 = .ok (.if_icmp .eq 1003, 3) := by decide +kernel
theorem dL_law_601 : decode code 601 = .ok (.iconst 0, 1) := by decide +kernel
theorem dL_law_602 : decode code 602 = .ok (.ireturn, 1) := by decide +kernel
theorem dL_law_603 : decode code 603 = .ok (.aload_n 1, 1) := by decide +kernel
theorem dL_law_604 : decode code 604 = .ok (.aload_n 0, 1) := by decide +kernel
theorem dL_law_605 : decode code 605 = .ok (.iload_n 3, 1) := by decide +kernel
theorem dL_law_606 : decode code 606 = .ok (.iconst 1, 1) := by decide +kernel
theorem dL_law_607 : decode code 607 = .ok (.iadd, 1) := by decide +kernel
theorem dL_law_608 : decode code 608 = .ok (.iaload, 1) := by decide +kernel
theorem dL_law_609 : decode code 609 = .ok (.invokevirtual 64, 3) := by decide +kernel
theorem dL_law_612 : decode code 612 = .ok (.aload_n 2, 1) := by decide +kernel
theorem dL_law_613 : decode code 613 = .ok (.aload_n 0, 1) := by decide +kernel
theorem dL_law_614 : decode code 614 = .ok (.iload_n 3, 1) := by decide +kernel
theorem dL_law_615 : decode code 615 = .ok (.iconst 1, 1) := by decide +kernel
theorem dL_law_616 : decode code 616 = .ok (.iadd, 1) := by decide +kernel
theorem dL_law_617 : decode code 617 = .ok (.iaload, 1) := by decide +kernel
theorem dL_law_618 : decode code 618 = .ok (.invokevirtual 67, 3) := by decide +kernel
theorem dL_law_621 : decode code 621 = .ok (.if_icmp .eq 980, 3) := by decide +kernel
theorem dL_law_624 : decode code 624 = .ok (.iconst 0, 1) := by decide +kernel
theorem dL_law_625 : decode code 625 = .ok (.ireturn, 1) := by decide +kernel
theorem dL_law_626 : decode code 626 = .ok (.aload_n 1, 1) := by decide +kernel
theorem dL_law_627 : decode code 627 = .ok (.aload_n 0, 1) := by decide +kernel
theorem dL_law_628 : decode code 628 = .ok (.iload_n 3, 1) := by decide +kernel
theorem dL_law_629 : decode code 629 = .ok (.iconst 1, 1) := by decide +kernel
theorem dL_law_630 : decode code 630 = .ok (.iadd, 1) := by decide +kernel
theorem dL_law_631 : decode code 631 = .ok (.iaload, 1) := by decide +kernel
theorem dL_law_632 : decode code 632 = .ok (.invokevirtual 68, 3) := by decide +kernel
theorem dL_law_635 : decode code 635 = .ok (.aload_n 2, 1) := by decide +kernel
theorem dL_law_636 : decode code 636 = .ok (.aload_n 0, 1) := by decide +kernel
theorem dL_law_637 : decode code 637 = .ok (.iload_n 3, 1) := by decide +kernel
theorem dL_law_638 : decode code 638 = .ok (.iconst 1, 1) := by decide +kernel
theorem dL_law_639 : decode code 639 = .ok (.iadd, 1) := by decide +kernel
theorem dL_law_640 : decode code 640 = .ok (.iaload, 1) := by decide +kernel
theorem dL_law_641 : decode code 641 = .ok (.invokevirtual 71, 3) := by decide +kernel
theorem dL_law_644 : decode code 644 = .ok (.if_icmp .eq 957, 3) := by decide +kernel
theorem dL_law_647 : decode code 647 = .ok (.iconst 0, 1) := by decide +kernel
theorem dL_law_648 : decode code 648 = .ok (.ireturn, 1) := by decide +kernel
theorem dL_law_649 : decode code 649 = .ok (.aload_n 1, 1) := by decide +kernel
theorem dL_law_650 : decode code 650 = .ok (.invokevirtual 72, 3) := by decide +kernel
theorem dL_law_653 : decode code 653 = .ok (.aload_n 2, 1) := by decide +kernel
theorem dL_law_654 : decode code 654 = .ok (.invokevirtual 75, 3) := by decide +kernel
theorem dL_law_657 : decode code 657 = .ok (.if_icmp .eq 944, 3) := by decide +kernel
theorem dL_law_660 : decode code 660 = .ok (.iconst 0, 1) := by decide +kernel
theorem dL_law_661 : decode code 661 = .ok (.ireturn, 1) := by decide +kernel
theorem dL_law_662 : decode code 662 = .ok (.aload_n 1, 1) := by decide +kernel
theorem dL_law_663 : decode code 663 = .ok (.aload_n 0, 1) := by decide +kernel
theorem dL_law_664 : decode code 664 = .ok (.iload_n 3, 1) := by decide +kernel
theorem dL_law_665 : decode code 665 = .ok (.iconst 1, 1) := by decide +kernel
theorem dL_law_666 : decode code 666 = .ok (.iadd, 1) := by decide +kernel
theorem dL_law_667 : decode code 667 = .ok (.iaload, 1) := by decide +kernel
theorem dL_law_668 : decode code 668 = .ok (.invokevirtual 76, 3) := by decide +kernel
theorem dL_law_671 : decode code 671 = .ok (.aload_n 2, 1) := by decide +kernel
theorem dL_law_672 : decode code 672 = .ok (.aload_n 0, 1) := by decide +kernel
theorem dL_law_673 : decode code 673 = .ok (.iload_n 3, 1) := by decide +kernel
theorem dL_law_674 : decode code 674 = .ok (.iconst 1, 1) := by decide +kernel
theorem dL_law_675 : decode code 675 = .ok (.iadd, 1) := by decide +kernel
theorem dL_law_676 : decode code 676 = .ok (.iaload, 1) := by decide +kernel
theorem dL_law_677 : decode code 677 = .ok (.invokevirtual 79, 3) := by decide +kernel
theorem dL_law_680 : decode code 680 = .ok (.if_icmp .eq 921, 3) := by decide +kernel
theorem dL_law_683 : decode code 683 = .ok (.iconst 0, 1) := by decide +kernel
theorem dL_law_684 : decode code 684 = .ok (.ireturn, 1) := by decide +kernel
theorem dL_law_685 : decode code 685 = .ok (.aload_n 1, 1) := by decide +kernel
theorem dL_law_686 : decode code 686 = .ok (.aload_n 0, 1) := by decide +kernel
theorem dL_law_687 : decode code 687 = .ok (.iload_n 3, 1) := by decide +kernel
theorem dL_law_688 : decode code 688 = .ok (.iconst 1, 1) := by decide +kernel
theorem dL_law_689 : decode code 689 = .ok (.iadd, 1) := by decide +kernel
theorem dL_law_690 : decode code 690 = .ok (.iaload, 1) := by decide +kernel
theorem dL_law_691 : decode code 691 = .ok (.invokevirtual 80, 3) := by decide +kernel
theorem dL_law_694 : decode code 694 = .ok (.aload_n 2, 1) := by decide +kernel
theorem dL_law_695 : decode code 695 = .ok (.aload_n 0, 1) := by decide +kernel
theorem dL_law_696 : decode code 696 = .ok (.iload_n 3, 1) := by decide +kernel
theorem dL_law_697 : decode code 697 = .ok (.iconst 1, 1) := by decide +kernel
theorem dL_law_698 : decode code 698 = .ok (.iadd, 1) := by decide +kernel
theorem dL_law_699 : decode code 699 = .ok (.iaload, 1) := by decide +kernel
theorem dL_law_700 : decode code 700 = .ok (.invokevirtual 83, 3) := by decide +kernel
theorem dL_law_703 : decode code 703 = .ok (.if_icmp .eq 898, 3) := by decide +kernel
theorem dL_law_706 : decode code 706 = .ok (.iconst 0, 1) := by decide +kernel
theorem dL_law_707 : decode code 707 = .ok (.ireturn, 1) := by decide +kernel
theorem dL_law_708 : decode code 708 = .ok (.aload_n 1, 1) := by decide +kernel
theorem dL_law_709 : decode code 709 = .ok (.aload_n 0, 1) := by decide +kernel
theorem dL_law_710 : decode code 710 = .ok (.iload_n 3, 1) := by decide +kernel
theorem dL_law_711 : decode code 711 = .ok (.iconst 1, 1) := by decide +kernel
theorem dL_law_712 : decode code 712 = .ok (.iadd, 1) := by decide +kernel
theorem dL_law_713 : decode code 713 = .ok (.iaload, 1) := by decide +kernel
theorem dL_law_714 : decode code 714 = .ok (.aload_n 0, 1) := by decide +kernel
theorem dL_law_715 : decode code 715 = .ok (.iload_n 3, 1) := by decide +kernel
theorem dL_law_716 : decode code 716 = .ok (.iconst 2, 1) := by decide +kernel
theorem dL_law_717 : decode code 717 = .ok (.iadd, 1) := by decide +kernel
theorem dL_law_718 : decode code 718 = .ok (.iaload, 1) := by decide +kernel
theorem dL_law_719 : decode code 719 = .ok (.invokevirtual 84, 3) := by decide +kernel
theorem dL_law_722 : decode code 722 = .ok (.aload_n 2, 1) := by decide +kernel
theorem dL_law_723 : decode code 723 = .ok (.aload_n 0, 1) := by decide +kernel
theorem dL_law_724 : decode code 724 = .ok (.iload_n 3, 1) := by decide +kernel
theorem dL_law_725 : decode code 725 = .ok (.iconst 1, 1) := by decide +kernel
theorem dL_law_726 : decode code 726 = .ok (.iadd, 1) := by decide +kernel
theorem dL_law_727 : decode code 727 = .ok (.iaload, 1) := by decide +kernel
theorem dL_law_728 : decode code 728 = .ok (.aload_n 0, 1) := by decide +kernel
theorem dL_law_729 : decode code 729 = .ok (.iload_n 3, 1) := by decide +kernel
theorem dL_law_730 : decode code 730 = .ok (.iconst 2, 1) := by decide +kernel
theorem dL_law_731 : decode code 731 = .ok (.iadd, 1) := by decide +kernel
theorem dL_law_732 : decode code 732 = .ok (.iaload, 1) := by decide +kernel
theorem dL_law_733 : decode code 733 = .ok (.invokevirtual 87, 3) := by decide +kernel
theorem dL_law_736 : decode code 736 = .ok (.if_icmp .eq 865, 3) := by decide +kernel
theorem dL_law_739 : decode code 739 = .ok (.iconst 0, 1) := by decide +kernel
theorem dL_law_740 : decode code 740 = .ok (.ireturn, 1) := by decide +kernel
theorem dL_law_741 : decode code 741 = .ok (.aload_n 1, 1) := by decide +kernel
theorem dL_law_742 : decode code 742 = .ok (.aload_n 0, 1) := by decide +kernel
theorem dL_law_743 : decode code 743 = .ok (.iload_n 3, 1) := by decide +kernel
theorem dL_law_744 : decode code 744 = .ok (.iconst 1, 1) := by decide +kernel
theorem dL_law_745 : decode code 745 = .ok (.iadd, 1) := by decide +kernel
theorem dL_law_746 : decode code 746 = .ok (.iaload, 1) := by decide +kernel
theorem dL_law_747 : decode code 747 = .ok (.invokevirtual 88, 3) := by decide +kernel
theorem dL_law_750 : decode code 750 = .ok (.aload_n 2, 1) := by decide +kernel
theorem dL_law_751 : decode code 751 = .ok (.aload_n 0, 1) := by decide +kernel
theorem dL_law_752 : decode code 752 = .ok (.iload_n 3, 1) := by decide +kernel
theorem dL_law_753 : decode code 753 = .ok (.iconst 1, 1) := by decide +kernel
theorem dL_law_754 : decode code 754 = .ok (.iadd, 1) := by decide +kernel
theorem dL_law_755 : decode code 755 = .ok (.iaload, 1) := by decide +kernel
theorem dL_law_756 : decode code 756 = .ok (.invokevirtual 91, 3) := by decide +kernel
theorem dL_law_759 : decode code 759 = .ok (.if_icmp .eq 842, 3) := by decide +kernel
theorem dL_law_762 : decode code 762 = .ok (.iconst 0, 1) := by decide +kernel
theorem dL_law_763 : decode code 763 = .ok (.ireturn, 1) := by decide +kernel
theorem dL_law_764 : decode code 764 = .ok (.aload_n 1, 1) := by decide +kernel
theorem dL_law_765 : decode code 765 = .ok (.aload_n 0, 1) := by decide +kernel
theorem dL_law_766 : decode code 766 = .ok (.iload_n 3, 1) := by decide +kernel
theorem dL_law_767 : decode code 767 = .ok (.iconst 1, 1) := by decide +kernel
theorem dL_law_768 : decode code 768 = .ok (.iadd, 1) := by decide +kernel
theorem dL_law_769 : decode code 769 = .ok (.iaload, 1) := by decide +kernel
theorem dL_law_770 : decode code 770 = .ok (.invokevirtual 92, 3) := by decide +kernel
theorem dL_law_773 : decode code 773 = .ok (.aload_n 2, 1) := by decide +kernel
theorem dL_law_774 : decode code 774 = .ok (.aload_n 0, 1) := by decide +kernel
theorem dL_law_775 : decode code 775 = .ok (.iload_n 3, 1) := by decide +kernel
theorem dL_law_776 : decode code 776 = .ok (.iconst 1, 1) := by decide +kernel
theorem dL_law_777 : decode code 777 = .ok (.iadd, 1) := by decide +kernel
theorem dL_law_778 : decode code 778 = .ok (.iaload, 1) := by decide +kernel
theorem dL_law_779 : decode code 779 = .ok (.invokevirtual 95, 3) := by decide +kernel
theorem dL_law_782 : decode code 782 = .ok (.if_icmp .eq 819, 3) := by decide +kernel
theorem dL_law_785 : decode code 785 = .ok (.iconst 0, 1) := by decide +kernel
theorem dL_law_786 : decode code 786 = .ok (.ireturn, 1) := by decide +kernel
theorem dL_law_787 : decode code 787 = .ok (.aload_n 1, 1) := by decide +kernel
theorem dL_law_788 : decode code 788 = .ok (.invokevirtual 96, 3) := by decide +kernel
theorem dL_law_791 : decode code 791 = .ok (.aload_n 2, 1) := by decide +kernel
theorem dL_law_792 : decode code 792 = .ok (.invokevirtual 99, 3) := by decide +kernel
theorem dL_law_795 : decode code 795 = .ok (.if_icmp .eq 806, 3) := by decide +kernel
theorem dL_law_798 : decode code 798 = .ok (.iconst 0, 1) := by decide +kernel
theorem dL_law_799 : decode code 799 = .ok (.ireturn, 1) := by decide +kernel
theorem dL_law_800 : decode code 800 = .ok (.aload_n 1, 1) := by decide +kernel
theorem dL_law_801 : decode code 801 = .ok (.aload_n 0, 1) := by decide +kernel
theorem dL_law_802 : decode code 802 = .ok (.iload_n 3, 1) := by decide +kernel
theorem dL_law_803 : decode code 803 = .ok (.iconst 1, 1) := by decide +kernel
theorem dL_law_804 : decode code 804 = .ok (.iadd, 1) := by decide +kernel
theorem dL_law_805 : decode code 805 = .ok (.iaload, 1) := by decide +kernel
theorem dL_law_806 : decode code 806 = .ok (.aload_n 0, 1) := by decide +kernel
theorem dL_law_807 : decode code 807 = .ok (.iload_n 3, 1) := by decide +kernel
theorem dL_law_808 : decode code 808 = .ok (.iconst 2, 1) := by decide +kernel
theorem dL_law_809 : decode code 809 = .ok (.iadd, 1) := by decide +kernel
theorem dL_law_810 : decode code 810 = .ok (.iaload, 1) := by decide +kernel
theorem dL_law_811 : decode code 811 = .ok (.invokevirtual 100, 3) := by decide +kernel
theorem dL_law_814 : decode code 814 = .ok (.aload_n 2, 1) := by decide +kernel
theorem dL_law_815 : decode code 815 = .ok (.aload_n 0, 1) := by decide +kernel
theorem dL_law_816 : decode code 816 = .ok (.iload_n 3, 1) := by decide +kernel
theorem dL_law_817 : decode code 817 = .ok (.iconst 1, 1) := by decide +kernel
theorem dL_law_818 : decode code 818 = .ok (.iadd, 1) := by decide +kernel
theorem dL_law_819 : decode code 819 = .ok (.iaload, 1) := by decide +kernel
theorem dL_law_820 : decode code 820 = .ok (.aload_n 0, 1) := by decide +kernel
theorem dL_law_821 : decode code 821 = .ok (.iload_n 3, 1) := by decide +kernel
theorem dL_law_822 : decode code 822 = .ok (.iconst 2, 1) := by decide +kernel
theorem dL_law_823 : decode code 823 = .ok (.iadd, 1) := by decide +kernel
theorem dL_law_824 : decode code 824 = .ok (.iaload, 1) := by decide +kernel
theorem dL_law_825 : decode code 825 = .ok (.invokevirtual 103, 3) := by decide +kernel
theorem dL_law_828 : decode code 828 = .ok (.if_icmp .eq 773, 3) := by decide +kernel
theorem dL_law_831 : decode code 831 = .ok (.iconst 0, 1) := by decide +kernel
theorem dL_law_832 : decode code 832 = .ok (.ireturn, 1) := by decide +kernel
theorem dL_law_833 : decode code 833 = .ok (.aload_n 1, 1) := by decide +kernel
theorem dL_law_834 : decode code 834 = .ok (.aload_n 0, 1) := by decide +kernel
theorem dL_law_835 : decode code 835 = .ok (.iload_n 3, 1) := by decide +kernel
theorem dL_law_836 : decode code 836 = .ok (.iconst 1, 1) := by decide +kernel
theorem dL_law_837 : decode code 837 = .ok (.iadd, 1) := by decide +kernel
theorem dL_law_838 : decode code 838 = .ok (.iaload, 1) := by decide +kernel
theorem dL_law_839 : decode code 839 = .ok (.aload_n 0, 1) := by decide +kernel
theorem dL_law_840 : decode code 840 = .ok (.iload_n 3, 1) := by decide +kernel
theorem dL_law_841 : decode code 841 = .ok (.iconst 2, 1) := by decide +kernel
theorem dL_law_842 : decode code 842 = .ok (.iadd, 1) := by decide +kernel
theorem dL_law_843 : decode code 843 = .ok (.iaload, 1) := by decide +kernel
theorem dL_law_844 : decode code 844 = .ok (.invokevirtual 104, 3) := by decide +kernel
theorem dL_law_847 : decode code 847 = .ok (.aload_n 2, 1) := by decide +kernel
theorem dL_law_848 : decode code 848 = .ok (.aload_n 0, 1) := by decide +kernel
theorem dL_law_849 : decode code 849 = .ok (.iload_n 3, 1) := by decide +kernel
theorem dL_law_850 : decode code 850 = .ok (.iconst 1, 1) := by decide +kernel
theorem dL_law_851 : decode code 851 = .ok (.iadd, 1) := by decide +kernel
theorem dL_law_852 : decode code 852 = .ok (.iaload, 1) := by decide +kernel
theorem dL_law_853 : decode code 853 = .ok (.aload_n 0, 1) := by decide +kernel
theorem dL_law_854 : decode code 854 = .ok (.iload_n 3, 1) := by decide +kernel
theorem dL_law_855 : decode code 855 = .ok (.iconst 2, 1) := by decide +kernel
theorem dL_law_856 : decode code 856 = .ok (.iadd, 1) := by decide +kernel
theorem dL_law_857 : decode code 857 = .ok (.iaload, 1) := by decide +kernel
theorem dL_law_858 : decode code 858 = .ok (.invokevirtual 107, 3) := by decide +kernel
theorem dL_law_861 : decode code 861 = .ok (.if_icmp .eq 740, 3) := by decide +kernel
theorem dL_law_864 : decode code 864 = .ok (.iconst 0, 1) := by decide +kernel
theorem dL_law_865 : decode code 865 = .ok (.ireturn, 1) := by decide +kernel
theorem dL_law_866 : decode code 866 = .ok (.aload_n 1, 1) := by decide +kernel
theorem dL_law_867 : decode code 867 = .ok (.aload_n 0, 1) := by decide +kernel
theorem dL_law_868 : decode code 868 = .ok (.iload_n 3, 1) := by decide +kernel
theorem dL_law_869 : decode code 869 = .ok (.iconst 1, 1) := by decide +kernel
theorem dL_law_870 : decode code 870 = .ok (.iadd, 1) := by decide +kernel
theorem dL_law_871 : decode code 871 = .ok (.iaload, 1) := by decide +kernel
theorem dL_law_872 : decode code 872 = .ok (.aload_n 0, 1) := by decide +kernel
theorem dL_law_873 : decode code 873 = .ok (.iload_n 3, 1) := by decide +kernel
theorem dL_law_874 : decode code 874 = .ok (.iconst 2, 1) := by decide +kernel
theorem dL_law_875 : decode code 875 = .ok (.iadd, 1) := by decide +kernel
theorem dL_law_876 : decode code 876 = .ok (.iaload, 1) := by decide +kernel
theorem dL_law_877 : decode code 877 = .ok (.invokevirtual 108, 3) := by decide +kernel
theorem dL_law_880 : decode code 880 = .ok (.aload_n 2, 1) := by decide +kernel
theorem dL_law_881 : decode code 881 = .ok (.aload_n 0, 1) := by decide +kernel
theorem dL_law_882 : decode code 882 = .ok (.iload_n 3, 1) := by decide +kernel
theorem dL_law_883 : decode code 883 = .ok (.iconst 1, 1) := by decide +kernel
theorem dL_law_884 : decode code 884 = .ok (.iadd, 1) := by decide +kernel
theorem dL_law_885 : decode code 885 = .ok (.iaload, 1) := by decide +kernel
theorem dL_law_886 : decode code 886 = .ok (.aload_n 0, 1) := by decide +kernel
theorem dL_law_887 : decode code 887 = .ok (.iload_n 3, 1) := by decide +kernel
theorem dL_law_888 : decode code 888 = .ok (.iconst 2, 1) := by decide +kernel
theorem dL_law_889 : decode code 889 = .ok (.iadd, 1) := by decide +kernel
theorem dL_law_890 : decode code 890 = .ok (.iaload, 1) := by decide +kernel
theorem dL_law_891 : decode code 891 = .ok (.invokevirtual 111, 3) := by decide +kernel
theorem dL_law_894 : decode code 894 = .ok (.if_icmp .eq 707, 3) := by decide +kernel
theorem dL_law_897 : decode code 897 = .ok (.iconst 0, 1) := by decide +kernel
theorem dL_law_898 : decode code 898 = .ok (.ireturn, 1) := by decide +kernel
theorem dL_law_899 : decode code 899 = .ok (.aload_n 1, 1) := by decide +kernel
theorem dL_law_900 : decode code 900 = .ok (.aload_n 0, 1) := by decide +kernel
theorem dL_law_901 : decode code 901 = .ok (.iload_n 3, 1) := by decide +kernel
theorem dL_law_902 : decode code 902 = .ok (.iconst 1, 1) := by decide +kernel
theorem dL_law_903 : decode code 903 = .ok (.iadd, 1) := by decide +kernel
theorem dL_law_904 : decode code 904 = .ok (.iaload, 1) := by decide +kernel
theorem dL_law_905 : decode code 905 = .ok (.aload_n 0, 1) := by decide +kernel
theorem dL_law_906 : decode code 906 = .ok (.iload_n 3, 1) := by decide +kernel
theorem dL_law_907 : decode code 907 = .ok (.iconst 2, 1) := by decide +kernel
theorem dL_law_908 : decode code 908 = .ok (.iadd, 1) := by decide +kernel
theorem dL_law_909 : decode code 909 = .ok (.iaload, 1) := by decide +kernel
theorem dL_law_910 : decode code 910 = .ok (.invokevirtual 112, 3) := by decide +kernel
theorem dL_law_913 : decode code 913 = .ok (.aload_n 2, 1) := by decide +kernel
theorem dL_law_914 : decode code 914 = .ok (.aload_n 0, 1) := by decide +kernel
theorem dL_law_915 : decode code 915 = .ok (.iload_n 3, 1) := by decide +kernel
theorem dL_law_916 : decode code 916 = .ok (.iconst 1, 1) := by decide +kernel
theorem dL_law_917 : decode code 917 = .ok (.iadd, 1) := by decide +kernel
theorem dL_law_918 : decode code 918 = .ok (.iaload, 1) := by decide +kernel
theorem dL_law_919 : decode code 919 = .ok (.aload_n 0, 1) := by decide +kernel
theorem dL_law_920 : decode code 920 = .ok (.iload_n 3, 1) := by decide +kernel
theorem dL_law_921 : decode code 921 = .ok (.iconst 2, 1) := by decide +kernel
theorem dL_law_922 : decode code 922 = .ok (.iadd, 1) := by decide +kernel
theorem dL_law_923 : decode code 923 = .ok (.iaload, 1) := by decide +kernel
theorem dL_law_924 : decode code 924 = .ok (.invokevirtual 115, 3) := by decide +kernel
theorem dL_law_927 : decode code 927 = .ok (.if_icmp .eq 674, 3) := by decide +kernel
theorem dL_law_930 : decode code 930 = .ok (.iconst 0, 1) := by decide +kernel
theorem dL_law_931 : decode code 931 = .ok (.ireturn, 1) := by decide +kernel
theorem dL_law_932 : decode code 932 = .ok (.aload_n 1, 1) := by decide +kernel
theorem dL_law_933 : decode code 933 = .ok (.aload_n 0, 1) := by decide +kernel
theorem dL_law_934 : decode code 934 = .ok (.iload_n 3, 1) := by decide +kernel
theorem dL_law_935 : decode code 935 = .ok (.iconst 1, 1) := by decide +kernel
theorem dL_law_936 : decode code 936 = .ok (.iadd, 1) := by decide +kernel
theorem dL_law_937 : decode code 937 = .ok (.iaload, 1) := by decide +kernel
theorem dL_law_938 : decode code 938 = .ok (.aload_n 0, 1) := by decide +kernel
theorem dL_law_939 : decode code 939 = .ok (.iload_n 3, 1) := by decide +kernel
theorem dL_law_940 : decode code 940 = .ok (.iconst 2, 1) := by decide +kernel
theorem dL_law_941 : decode code 941 = .ok (.iadd, 1) := by decide +kernel
theorem dL_law_942 : decode code 942 = .ok (.iaload, 1) := by decide +kernel
theorem dL_law_943 : decode code 943 = .ok (.aload_n 0, 1) := by decide +kernel
theorem dL_law_944 : decode code 944 = .ok (.iload_n 3, 1) := by decide +kernel
theorem dL_law_945 : decode code 945 = .ok (.iconst 3, 1) := by decide +kernel
theorem dL_law_946 : decode code 946 = .ok (.iadd, 1) := by decide +kernel
theorem dL_law_947 : decode code 947 = .ok (.iaload, 1) := by decide +kernel
theorem dL_law_948 : decode code 948 = .ok (.invokevirtual 116, 3) := by decide +kernel
theorem dL_law_951 : decode code 951 = .ok (.aload_n 2, 1) := by decide +kernel
theorem dL_law_952 : decode code 952 = .ok (.aload_n 0, 1) := by decide +kernel
theorem dL_law_953 : decode code 953 = .ok (.iload_n 3, 1) := by decide +kernel
theorem dL_law_954 : decode code 954 = .ok (.iconst 1, 1) := by decide +kernel
theorem dL_law_955 : decode code 955 = .ok (.iadd, 1) := by decide +kernel
theorem dL_law_956 : decode code 956 = .ok (.iaload, 1) := by decide +kernel
theorem dL_law_957 : decode code 957 = .ok (.aload_n 0, 1) := by decide +kernel
theorem dL_law_958 : decode code 958 = .ok (.iload_n 3, 1) := by decide +kernel
theorem dL_law_959 : decode code 959 = .ok (.iconst 2, 1) := by decide +kernel
theorem dL_law_960 : decode code 960 = .ok (.iadd, 1) := by decide +kernel
theorem dL_law_961 : decode code 961 = .ok (.iaload, 1) := by decide +kernel
theorem dL_law_962 : decode code 962 = .ok (.aload_n 0, 1) := by decide +kernel
theorem dL_law_963 : decode code 963 = .ok (.iload_n 3, 1) := by decide +kernel
theorem dL_law_964 : decode code 964 = .ok (.iconst 3, 1) := by decide +kernel
theorem dL_law_965 : decode code 965 = .ok (.iadd, 1) := by decide +kernel
theorem dL_law_966 : decode code 966 = .ok (.iaload, 1) := by decide +kernel
theorem dL_law_967 : decode code 967 = .ok (.invokevirtual 119, 3) := by decide +kernel
theorem dL_law_970 : decode code 970 = .ok (.if_icmp .eq 631, 3) := by decide +kernel
theorem dL_law_973 : decode code 973 = .ok (.iconst 0, 1) := by decide +kernel
theorem dL_law_974 : decode code 974 = .ok (.ireturn, 1) := by decide +kernel
theorem dL_law_975 : decode code 975 = .ok (.aload_n 1, 1) := by decide +kernel
theorem dL_law_976 : decode code 976 = .ok (.aload_n 0, 1) := by decide +kernel
theorem dL_law_977 : decode code 977 = .ok (.iload_n 3, 1) := by decide +kernel
theorem dL_law_978 : decode code 978 = .ok (.iconst 1, 1) := by decide +kernel
theorem dL_law_979 : decode code 979 = .ok (.iadd, 1) := by decide +kernel
theorem dL_law_980 : decode code 980 = .ok (.iaload, 1) := by decide +kernel
theorem dL_law_981 : decode code 981 = .ok (.aload_n 0, 1) := by decide +kernel
theorem dL_law_982 : decode code 982 = .ok (.iload_n 3, 1) := by decide +kernel
theorem dL_law_983 : decode code 983 = .ok (.iconst 2, 1) := by decide +kernel
theorem dL_law_984 : decode code 984 = .ok (.iadd, 1) := by decide +kernel
theorem dL_law_985 : decode code 985 = .ok (.iaload, 1) := by decide +kernel
theorem dL_law_986 : decode code 986 = .ok (.aload_n 0, 1) := by decide +kernel
theorem dL_law_987 : decode code 987 = .ok (.iload_n 3, 1) := by decide +kernel
theorem dL_law_988 : decode code 988 = .ok (.iconst 3, 1) := by decide +kernel
theorem dL_law_989 : decode code 989 = .ok (.iadd, 1) := by decide +kernel
theorem dL_law_990 : decode code 990 = .ok (.iaload, 1) := by decide +kernel
theorem dL_law_991 : decode code 991 = .ok (.invokevirtual 120, 3) := by decide +kernel
theorem dL_law_994 : decode code 994 = .ok (.aload_n 2, 1) := by decide +kernel
theorem dL_law_995 : decode code 995 = .ok (.aload_n 0, 1) := by decide +kernel
theorem dL_law_996 : decode code 996 = .ok (.iload_n 3, 1) := by decide +kernel
theorem dL_law_997 : decode code 997 = .ok (.iconst 1, 1) := by decide +kernel
theorem dL_law_998 : decode code 998 = .ok (.iadd, 1) := by decide +kernel
theorem dL_law_999 : decode code 999 = .ok (.iaload, 1) := by decide +kernel
theorem dL_law_1000 : decode code 1000 = .ok (.aload_n 0, 1) := by decide +kernel
theorem dL_law_1001 : decode code 1001 = .ok (.iload_n 3, 1) := by decide +kernel
theorem dL_law_1002 : decode code 1002 = .ok (.iconst 2, 1) := by decide +kernel
theorem dL_law_1003 : decode code 1003 = .ok (.iadd, 1) := by decide +kernel
theorem dL_law_1004 : decode code 1004 = .ok (.iaload, 1) := by decide +kernel
theorem dL_law_1005 : decode code 1005 = .ok (.aload_n 0, 1) := by decide +kernel
theorem dL_law_1006 : decode code 1006 = .ok (.iload_n 3, 1) := by decide +kernel
theorem dL_law_1007 : decode code 1007 = .ok (.iconst 3, 1) := by decide +kernel
theorem dL_law_1008 : decode code 1008 = .ok (.iadd, 1) := by decide +kernel
theorem dL_law_1009 : decode code 1009 = .ok (.iaload, 1) := by decide +kernel
theorem dL_law_1010 : decode code 1010 = .ok (.invokevirtual 123, 3) := by decide +kernel
theorem dL_law_1013 : decode code 1013 = .ok (.if_icmp .eq 588, 3) := by decide +kernel
theorem dL_law_1016 : decode code 1016 = .ok (.iconst 0, 1) := by decide +kernel
theorem dL_law_1017 : decode code 1017 = .ok (.ireturn, 1) := by decide +kernel
theorem dL_law_1018 : decode code 1018 = .ok (.aload_n 1, 1) := by decide +kernel
theorem dL_law_1019 : decode code 1019 = .ok (.aload_n 0, 1) := by decide +kernel
theorem dL_law_1020 : decode code 1020 = .ok (.iload_n 3, 1) := by decide +kernel
theorem dL_law_1021 : decode code 1021 = .ok (.iconst 1, 1) := by decide +kernel
theorem dL_law_1022 : decode code 1022 = .ok (.iadd, 1) := by decide +kernel
theorem dL_law_1023 : decode code 1023 = .ok (.iaload, 1) := by decide +kernel
theorem dL_law_1024 : decode code 1024 = .ok (.aload_n 0, 1) := by decide +kernel
theorem dL_law_1025 : decode code 1025 = .ok (.iload_n 3, 1) := by decide +kernel
theorem dL_law_1026 : decode code 1026 = .ok (.iconst 2, 1) := by decide +kernel
theorem dL_law_1027 : decode code 1027 = .ok (.iadd, 1) := by decide +kernel
theorem dL_law_1028 : decode code 1028 = .ok (.iaload, 1) := by decide +kernel
theorem dL_law_1029 : decode code 1029 = .ok (.aload_n 0, 1) := by decide +kernel
theorem dL_law_1030 : decode code 1030 = .ok (.iload_n 3, 1) := by decide +kernel
theorem dL_law_1031 : decode code 1031 = .ok (.iconst 3, 1) := by decide +kernel
theorem dL_law_1032 : decode code 1032 = .ok (.iadd, 1) := by decide +kernel
theorem dL_law_1033 : decode code 1033 = .ok (.iaload, 1) := by decide +kernel
theorem dL_law_1034 : decode code 1034 = .ok (.invokevirtual 124, 3) := by decide +kernel
theorem dL_law_1037 : decode code 1037 = .ok (.aload_n 2, 1) := by decide +kernel
theorem dL_law_1038 : decode code 1038 = .ok (.aload_n 0, 1) := by decide +kernel
theorem dL_law_1039 : decode code 1039 = .ok (.iload_n 3, 1) := by decide +kernel
theorem dL_law_1040 : decode code 1040 = .ok (.iconst 1, 1) := by decide +kernel
theorem dL_law_1041 : decode code 1041 = .ok (.iadd, 1) := by decide +kernel
theorem dL_law_1042 : decode code 1042 = .ok (.iaload, 1) := by decide +kernel
theorem dL_law_1043 : decode code 1043 = .ok (.aload_n 0, 1) := by decide +kernel
theorem dL_law_1044 : decode code 1044 = .ok (.iload_n 3, 1) := by decide +kernel
theorem dL_law_1045 : decode code 1045 = .ok (.iconst 2, 1) := by decide +kernel
theorem dL_law_1046 : decode code 1046 = .ok (.iadd, 1) := by decide +kernel
theorem dL_law_1047 : decode code 1047 = .ok (.iaload, 1) := by decide +kernel
theorem dL_law_1048 : decode code 1048 = .ok (.aload_n 0, 1) := by decide +kernel
theorem dL_law_1049 : decode code 1049 = .ok (.iload_n 3, 1) := by decide +kernel
theorem dL_law_1050 : decode code 1050 = .ok (.iconst 3, 1) := by decide +kernel
theorem dL_law_1051 : decode code 1051 = .ok (.iadd, 1) := by decide +kernel
theorem dL_law_1052 : decode code 1052 = .ok (.iaload, 1) := by decide +kernel
theorem dL_law_1053 : decode code 1053 = .ok (.invokevirtual 128, 3) := by decide +kernel
theorem dL_law_1056 : decode code 1056 = .ok (.lcmp, 1) := by decide +kernel
theorem dL_law_1057 : decode code 1057 = .ok (.ifCond .eq 544, 3) := by decide +kernel
theorem dL_law_1060 : decode code 1060 = .ok (.iconst 0, 1) := by decide +kernel
theorem dL_law_1061 : decode code 1061 = .ok (.ireturn, 1) := by decide +kernel
theorem dL_law_1062 : decode code 1062 = .ok (.aload_n 1, 1) := by decide +kernel
theorem dL_law_1063 : decode code 1063 = .ok (.aload_n 0, 1) := by decide +kernel
theorem dL_law_1064 : decode code 1064 = .ok (.iload_n 3, 1) := by decide +kernel
theorem dL_law_1065 : decode code 1065 = .ok (.iconst 1, 1) := by decide +kernel
theorem dL_law_1066 : decode code 1066 = .ok (.iadd, 1) := by decide +kernel
theorem dL_law_1067 : decode code 1067 = .ok (.iaload, 1) := by decide +kernel
theorem dL_law_1068 : decode code 1068 = .ok (.aload_n 0, 1) := by decide +kernel
theorem dL_law_1069 : decode code 1069 = .ok (.iload_n 3, 1) := by decide +kernel
theorem dL_law_1070 : decode code 1070 = .ok (.iconst 2, 1) := by decide +kernel
theorem dL_law_1071 : decode code 1071 = .ok (.iadd, 1) := by decide +kernel
theorem dL_law_1072 : decode code 1072 = .ok (.iaload, 1) := by decide +kernel
theorem dL_law_1073 : decode code 1073 = .ok (.invokevirtual 129, 3) := by decide +kernel
theorem dL_law_1076 : decode code 1076 = .ok (.aload_n 2, 1) := by decide +kernel
theorem dL_law_1077 : decode code 1077 = .ok (.aload_n 0, 1) := by decide +kernel
theorem dL_law_1078 : decode code 1078 = .ok (.iload_n 3, 1) := by decide +kernel
theorem dL_law_1079 : decode code 1079 = .ok (.iconst 1, 1) := by decide +kernel
theorem dL_law_1080 : decode code 1080 = .ok (.iadd, 1) := by decide +kernel
theorem dL_law_1081 : decode code 1081 = .ok (.iaload, 1) := by decide +kernel
theorem dL_law_1082 : decode code 1082 = .ok (.aload_n 0, 1) := by decide +kernel
theorem dL_law_1083 : decode code 1083 = .ok (.iload_n 3, 1) := by decide +kernel
theorem dL_law_1084 : decode code 1084 = .ok (.iconst 2, 1) := by decide +kernel
theorem dL_law_1085 : decode code 1085 = .ok (.iadd, 1) := by decide +kernel
theorem dL_law_1086 : decode code 1086 = .ok (.iaload, 1) := by decide +kernel
theorem dL_law_1087 : decode code 1087 = .ok (.invokevirtual 133, 3) := by decide +kernel
theorem dL_law_1090 : decode code 1090 = .ok (.lcmp, 1) := by decide +kernel
theorem dL_law_1091 : decode code 1091 = .ok (.ifCond .eq 510, 3) := by decide +kernel
theorem dL_law_1094 : decode code 1094 = .ok (.iconst 0, 1) := by decide +kernel
theorem dL_law_1095 : decode code 1095 = .ok (.ireturn, 1) := by decide +kernel
theorem dL_law_1096 : decode code 1096 = .ok (.aload_n 1, 1) := by decide +kernel
theorem dL_law_1097 : decode code 1097 = .ok (.aload_n 0, 1) := by decide +kernel
theorem dL_law_1098 : decode code 1098 = .ok (.iload_n 3, 1) := by decide +kernel
theorem dL_law_1099 : decode code 1099 = .ok (.iconst 1, 1) := by decide +kernel
theorem dL_law_1100 : decode code 1100 = .ok (.iadd, 1) := by decide +kernel
theorem dL_law_1101 : decode code 1101 = .ok (.iaload, 1) := by decide +kernel
theorem dL_law_1102 : decode code 1102 = .ok (.aload_n 0, 1) := by decide +kernel
theorem dL_law_1103 : decode code 1103 = .ok (.iload_n 3, 1) := by decide +kernel
theorem dL_law_1104 : decode code 1104 = .ok (.iconst 2, 1) := by decide +kernel
theorem dL_law_1105 : decode code 1105 = .ok (.iadd, 1) := by decide +kernel
theorem dL_law_1106 : decode code 1106 = .ok (.iaload, 1) := by decide +kernel
theorem dL_law_1107 : decode code 1107 = .ok (.invokevirtual 134, 3) := by decide +kernel
theorem dL_law_1110 : decode code 1110 = .ok (.aload_n 2, 1) := by decide +kernel
theorem dL_law_1111 : decode code 1111 = .ok (.aload_n 0, 1) := by decide +kernel
theorem dL_law_1112 : decode code 1112 = .ok (.iload_n 3, 1) := by decide +kernel
theorem dL_law_1113 : decode code 1113 = .ok (.iconst 1, 1) := by decide +kernel
theorem dL_law_1114 : decode code 1114 = .ok (.iadd, 1) := by decide +kernel
theorem dL_law_1115 : decode code 1115 = .ok (.iaload, 1) := by decide +kernel
theorem dL_law_1116 : decode code 1116 = .ok (.aload_n 0, 1) := by decide +kernel
theorem dL_law_1117 : decode code 1117 = .ok (.iload_n 3, 1) := by decide +kernel
theorem dL_law_1118 : decode code 1118 = .ok (.iconst 2, 1) := by decide +kernel
theorem dL_law_1119 : decode code 1119 = .ok (.iadd, 1) := by decide +kernel
theorem dL_law_1120 : decode code 1120 = .ok (.iaload, 1) := by decide +kernel
theorem dL_law_1121 : decode code 1121 = .ok (.invokevirtual 137, 3) := by decide +kernel
theorem dL_law_1124 : decode code 1124 = .ok (.if_icmp .eq 477, 3) := by decide +kernel
theorem dL_law_1127 : decode code 1127 = .ok (.iconst 0, 1) := by decide +kernel
theorem dL_law_1128 : decode code 1128 = .ok (.ireturn, 1) := by decide +kernel
theorem dL_law_1129 : decode code 1129 = .ok (.aload_n 1, 1) := by decide +kernel
theorem dL_law_1130 : decode code 1130 = .ok (.aload_n 0, 1) := by decide +kernel
theorem dL_law_1131 : decode code 1131 = .ok (.iload_n 3, 1) := by decide +kernel
theorem dL_law_1132 : decode code 1132 = .ok (.iconst 1, 1) := by decide +kernel
theorem dL_law_1133 : decode code 1133 = .ok (.iadd, 1) := by decide +kernel
theorem dL_law_1134 : decode code 1134 = .ok (.iaload, 1) := by decide +kernel
theorem dL_law_1135 : decode code 1135 = .ok (.aload_n 0, 1) := by decide +kernel
theorem dL_law_1136 : decode code 1136 = .ok (.iload_n 3, 1) := by decide +kernel
theorem dL_law_1137 : decode code 1137 = .ok (.iconst 2, 1) := by decide +kernel
theorem dL_law_1138 : decode code 1138 = .ok (.iadd, 1) := by decide +kernel
theorem dL_law_1139 : decode code 1139 = .ok (.iaload, 1) := by decide +kernel
theorem dL_law_1140 : decode code 1140 = .ok (.invokevirtual 138, 3) := by decide +kernel
theorem dL_law_1143 : decode code 1143 = .ok (.aload_n 2, 1) := by decide +kernel
theorem dL_law_1144 : decode code 1144 = .ok (.aload_n 0, 1) := by decide +kernel
theorem dL_law_1145 : decode code 1145 = .ok (.iload_n 3, 1) := by decide +kernel
theorem dL_law_1146 : decode code 1146 = .ok (.iconst 1, 1) := by decide +kernel
theorem dL_law_1147 : decode code 1147 = .ok (.iadd, 1) := by decide +kernel
theorem dL_law_1148 : decode code 1148 = .ok (.iaload, 1) := by decide +kernel
theorem dL_law_1149 : decode code 1149 = .ok (.aload_n 0, 1) := by decide +kernel
theorem dL_law_1150 : decode code 1150 = .ok (.iload_n 3, 1) := by decide +kernel
theorem dL_law_1151 : decode code 1151 = .ok (.iconst 2, 1) := by decide +kernel
theorem dL_law_1152 : decode code 1152 = .ok (.iadd, 1) := by decide +kernel
theorem dL_law_1153 : decode code 1153 = .ok (.iaload, 1) := by decide +kernel
theorem dL_law_1154 : decode code 1154 = .ok (.invokevirtual 141, 3) := by decide +kernel
theorem dL_law_1157 : decode code 1157 = .ok (.if_icmp .eq 444, 3) := by decide +kernel
theorem dL_law_1160 : decode code 1160 = .ok (.iconst 0, 1) := by decide +kernel
theorem dL_law_1161 : decode code 1161 = .ok (.ireturn, 1) := by decide +kernel
theorem dL_law_1162 : decode code 1162 = .ok (.aload_n 1, 1) := by decide +kernel
theorem dL_law_1163 : decode code 1163 = .ok (.aload_n 0, 1) := by decide +kernel
theorem dL_law_1164 : decode code 1164 = .ok (.iload_n 3, 1) := by decide +kernel
theorem dL_law_1165 : decode code 1165 = .ok (.iconst 1, 1) := by decide +kernel
theorem dL_law_1166 : decode code 1166 = .ok (.iadd, 1) := by decide +kernel
theorem dL_law_1167 : decode code 1167 = .ok (.iaload, 1) := by decide +kernel
theorem dL_law_1168 : decode code 1168 = .ok (.aload_n 0, 1) := by decide +kernel
theorem dL_law_1169 : decode code 1169 = .ok (.iload_n 3, 1) := by decide +kernel
theorem dL_law_1170 : decode code 1170 = .ok (.iconst 2, 1) := by decide +kernel
theorem dL_law_1171 : decode code 1171 = .ok (.iadd, 1) := by decide +kernel
theorem dL_law_1172 : decode code 1172 = .ok (.iaload, 1) := by decide +kernel
theorem dL_law_1173 : decode code 1173 = .ok (.aload_n 0, 1) := by decide +kernel
theorem dL_law_1174 : decode code 1174 = .ok (.iload_n 3, 1) := by decide +kernel
theorem dL_law_1175 : decode code 1175 = .ok (.iconst 3, 1) := by decide +kernel
theorem dL_law_1176 : decode code 1176 = .ok (.iadd, 1) := by decide +kernel
theorem dL_law_1177 : decode code 1177 = .ok (.iaload, 1) := by decide +kernel
theorem dL_law_1178 : decode code 1178 = .ok (.invokevirtual 142, 3) := by decide +kernel
theorem dL_law_1181 : decode code 1181 = .ok (.aload_n 2, 1) := by decide +kernel
theorem dL_law_1182 : decode code 1182 = .ok (.aload_n 0, 1) := by decide +kernel
theorem dL_law_1183 : decode code 1183 = .ok (.iload_n 3, 1) := by decide +kernel
theorem dL_law_1184 : decode code 1184 = .ok (.iconst 1, 1) := by decide +kernel
theorem dL_law_1185 : decode code 1185 = .ok (.iadd, 1) := by decide +kernel
theorem dL_law_1186 : decode code 1186 = .ok (.iaload, 1) := by decide +kernel
theorem dL_law_1187 : decode code 1187 = .ok (.aload_n 0, 1) := by decide +kernel
theorem dL_law_1188 : decode code 1188 = .ok (.iload_n 3, 1) := by decide +kernel
theorem dL_law_1189 : decode code 1189 = .ok (.iconst 2, 1) := by decide +kernel
theorem dL_law_1190 : decode code 1190 = .ok (.iadd, 1) := by decide +kernel
theorem dL_law_1191 : decode code 1191 = .ok (.iaload, 1) := by decide +kernel
theorem dL_law_1192 : decode code 1192 = .ok (.aload_n 0, 1) := by decide +kernel
theorem dL_law_1193 : decode code 1193 = .ok (.iload_n 3, 1) := by decide +kernel
theorem dL_law_1194 : decode code 1194 = .ok (.iconst 3, 1) := by decide +kernel
theorem dL_law_1195 : decode code 1195 = .ok (.iadd, 1) := by decide +kernel
theorem dL_law_1196 : decode code 1196 = .ok (.iaload, 1) := by decide +kernel
theorem dL_law_1197 : decode code 1197 = .ok (.invokevirtual 145, 3) := by decide +kernel
theorem dL_law_1200 : decode code 1200 = .ok (.if_icmp .eq 401, 3) := by decide +kernel
theorem dL_law_1203 : decode code 1203 = .ok (.iconst 0, 1) := by decide +kernel
theorem dL_law_1204 : decode code 1204 = .ok (.ireturn, 1) := by decide +kernel
theorem dL_law_1205 : decode code 1205 = .ok (.aload_n 1, 1) := by decide +kernel
theorem dL_law_1206 : decode code 1206 = .ok (.aload_n 0, 1) := by decide +kernel
theorem dL_law_1207 : decode code 1207 = .ok (.iload_n 3, 1) := by decide +kernel
theorem dL_law_1208 : decode code 1208 = .ok (.iconst 1, 1) := by decide +kernel
theorem dL_law_1209 : decode code 1209 = .ok (.iadd, 1) := by decide +kernel
theorem dL_law_1210 : decode code 1210 = .ok (.iaload, 1) := by decide +kernel
theorem dL_law_1211 : decode code 1211 = .ok (.invokevirtual 146, 3) := by decide +kernel
theorem dL_law_1214 : decode code 1214 = .ok (.aload_n 2, 1) := by decide +kernel
theorem dL_law_1215 : decode code 1215 = .ok (.aload_n 0, 1) := by decide +kernel
theorem dL_law_1216 : decode code 1216 = .ok (.iload_n 3, 1) := by decide +kernel
theorem dL_law_1217 : decode code 1217 = .ok (.iconst 1, 1) := by decide +kernel
theorem dL_law_1218 : decode code 1218 = .ok (.iadd, 1) := by decide +kernel
theorem dL_law_1219 : decode code 1219 = .ok (.iaload, 1) := by decide +kernel
theorem dL_law_1220 : decode code 1220 = .ok (.invokevirtual 149, 3) := by decide +kernel
theorem dL_law_1223 : decode code 1223 = .ok (.if_icmp .eq 378, 3) := by decide +kernel
theorem dL_law_1226 : decode code 1226 = .ok (.iconst 0, 1) := by decide +kernel
theorem dL_law_1227 : decode code 1227 = .ok (.ireturn, 1) := by decide +kernel
theorem dL_law_1228 : decode code 1228 = .ok (.aload_n 1, 1) := by decide +kernel
theorem dL_law_1229 : decode code 1229 = .ok (.aload_n 0, 1) := by decide +kernel
theorem dL_law_1230 : decode code 1230 = .ok (.iload_n 3, 1) := by decide +kernel
theorem dL_law_1231 : decode code 1231 = .ok (.iconst 1, 1) := by decide +kernel
theorem dL_law_1232 : decode code 1232 = .ok (.iadd, 1) := by decide +kernel
theorem dL_law_1233 : decode code 1233 = .ok (.iaload, 1) := by decide +kernel
theorem dL_law_1234 : decode code 1234 = .ok (.aload_n 0, 1) := by decide +kernel
theorem dL_law_1235 : decode code 1235 = .ok (.iload_n 3, 1) := by decide +kernel
theorem dL_law_1236 : decode code 1236 = .ok (.iconst 2, 1) := by decide +kernel
theorem dL_law_1237 : decode code 1237 = .ok (.iadd, 1) := by decide +kernel
theorem dL_law_1238 : decode code 1238 = .ok (.iaload, 1) := by decide +kernel
theorem dL_law_1239 : decode code 1239 = .ok (.aload_n 0, 1) := by decide +kernel
theorem dL_law_1240 : decode code 1240 = .ok (.iload_n 3, 1) := by decide +kernel
theorem dL_law_1241 : decode code 1241 = .ok (.iconst 3, 1) := by decide +kernel
theorem dL_law_1242 : decode code 1242 = .ok (.iadd, 1) := by decide +kernel
theorem dL_law_1243 : decode code 1243 = .ok (.iaload, 1) := by decide +kernel
theorem dL_law_1244 : decode code 1244 = .ok (.aload_n 0, 1) := by decide +kernel
theorem dL_law_1245 : decode code 1245 = .ok (.iload_n 3, 1) := by decide +kernel
theorem dL_law_1246 : decode code 1246 = .ok (.iconst 4, 1) := by decide +kernel
theorem dL_law_1247 : decode code 1247 = .ok (.iadd, 1) := by decide +kernel
theorem dL_law_1248 : decode code 1248 = .ok (.iaload, 1) := by decide +kernel
theorem dL_law_1249 : decode code 1249 = .ok (.invokevirtual 150, 3) := by decide +kernel
theorem dL_law_1252 : decode code 1252 = .ok (.aload_n 2, 1) := by decide +kernel
theorem dL_law_1253 : decode code 1253 = .ok (.aload_n 0, 1) := by decide +kernel
theorem dL_law_1254 : decode code 1254 = .ok (.iload_n 3, 1) := by decide +kernel
theorem dL_law_1255 : decode code 1255 = .ok (.iconst 1, 1) := by decide +kernel
theorem dL_law_1256 : decode code 1256 = .ok (.iadd, 1) := by decide +kernel
theorem dL_law_1257 : decode code 1257 = .ok (.iaload, 1) := by decide +kernel
theorem dL_law_1258 : decode code 1258 = .ok (.aload_n 0, 1) := by decide +kernel
theorem dL_law_1259 : decode code 1259 = .ok (.iload_n 3, 1) := by decide +kernel
theorem dL_law_1260 : decode code 1260 = .ok (.iconst 2, 1) := by decide +kernel
theorem dL_law_1261 : decode code 1261 = .ok (.iadd, 1) := by decide +kernel
theorem dL_law_1262 : decode code 1262 = .ok (.iaload, 1) := by decide +kernel
theorem dL_law_1263 : decode code 1263 = .ok (.aload_n 0, 1) := by decide +kernel
theorem dL_law_1264 : decode code 1264 = .ok (.iload_n 3, 1) := by decide +kernel
theorem dL_law_1265 : decode code 1265 = .ok (.iconst 3, 1) := by decide +kernel
theorem dL_law_1266 : decode code 1266 = .ok (.iadd, 1) := by decide +kernel
theorem dL_law_1267 : decode code 1267 = .ok (.iaload, 1) := by decide +kernel
theorem dL_law_1268 : decode code 1268 = .ok (.aload_n 0, 1) := by decide +kernel
theorem dL_law_1269 : decode code 1269 = .ok (.iload_n 3, 1) := by decide +kernel
theorem dL_law_1270 : decode code 1270 = .ok (.iconst 4, 1) := by decide +kernel
theorem dL_law_1271 : decode code 1271 = .ok (.iadd, 1) := by decide +kernel
theorem dL_law_1272 : decode code 1272 = .ok (.iaload, 1) := by decide +kernel
theorem dL_law_1273 : decode code 1273 = .ok (.invokevirtual 154, 3) := by decide +kernel
theorem dL_law_1276 : decode code 1276 = .ok (.if_icmp .eq 325, 3) := by decide +kernel
theorem dL_law_1279 : decode code 1279 = .ok (.iconst 0, 1) := by decide +kernel
theorem dL_law_1280 : decode code 1280 = .ok (.ireturn, 1) := by decide +kernel
theorem dL_law_1281 : decode code 1281 = .ok (.aload_n 1, 1) := by decide +kernel
theorem dL_law_1282 : decode code 1282 = .ok (.aload_n 0, 1) := by decide +kernel
theorem dL_law_1283 : decode code 1283 = .ok (.iload_n 3, 1) := by decide +kernel
theorem dL_law_1284 : decode code 1284 = .ok (.iconst 1, 1) := by decide +kernel
theorem dL_law_1285 : decode code 1285 = .ok (.iadd, 1) := by decide +kernel
theorem dL_law_1286 : decode code 1286 = .ok (.iaload, 1) := by decide +kernel
theorem dL_law_1287 : decode code 1287 = .ok (.aload_n 0, 1) := by decide +kernel
theorem dL_law_1288 : decode code 1288 = .ok (.iload_n 3, 1) := by decide +kernel
theorem dL_law_1289 : decode code 1289 = .ok (.iconst 2, 1) := by decide +kernel
theorem dL_law_1290 : decode code 1290 = .ok (.iadd, 1) := by decide +kernel
theorem dL_law_1291 : decode code 1291 = .ok (.iaload, 1) := by decide +kernel
theorem dL_law_1292 : decode code 1292 = .ok (.aload_n 0, 1) := by decide +kernel
theorem dL_law_1293 : decode code 1293 = .ok (.iload_n 3, 1) := by decide +kernel
theorem dL_law_1294 : decode code 1294 = .ok (.iconst 3, 1) := by decide +kernel
theorem dL_law_1295 : decode code 1295 = .ok (.iadd, 1) := by decide +kernel
theorem dL_law_1296 : decode code 1296 = .ok (.iaload, 1) := by decide +kernel
theorem dL_law_1297 : decode code 1297 = .ok (.invokevirtual 155, 3) := by decide +kernel
theorem dL_law_1300 : decode code 1300 = .ok (.aload_n 2, 1) := by decide +kernel
theorem dL_law_1301 : decode code 1301 = .ok (.aload_n 0, 1) := by decide +kernel
theorem dL_law_1302 : decode code 1302 = .ok (.iload_n 3, 1) := by decide +kernel
theorem dL_law_1303 : decode code 1303 = .ok (.iconst 1, 1) := by decide +kernel
theorem dL_law_1304 : decode code 1304 = .ok (.iadd, 1) := by decide +kernel
theorem dL_law_1305 : decode code 1305 = .ok (.iaload, 1) := by decide +kernel
theorem dL_law_1306 : decode code 1306 = .ok (.aload_n 0, 1) := by decide +kernel
theorem dL_law_1307 : decode code 1307 = .ok (.iload_n 3, 1) := by decide +kernel
theorem dL_law_1308 : decode code 1308 = .ok (.iconst 2, 1) := by decide +kernel
theorem dL_law_1309 : decode code 1309 = .ok (.iadd, 1) := by decide +kernel
theorem dL_law_1310 : decode code 1310 = .ok (.iaload, 1) := by decide +kernel
theorem dL_law_1311 : decode code 1311 = .ok (.aload_n 0, 1) := by decide +kernel
theorem dL_law_1312 : decode code 1312 = .ok (.iload_n 3, 1) := by decide +kernel
theorem dL_law_1313 : decode code 1313 = .ok (.iconst 3, 1) := by decide +kernel
theorem dL_law_1314 : decode code 1314 = .ok (.iadd, 1) := by decide +kernel
theorem dL_law_1315 : decode code 1315 = .ok (.iaload, 1) := by decide +kernel
theorem dL_law_1316 : decode code 1316 = .ok (.invokevirtual 158, 3) := by decide +kernel
theorem dL_law_1319 : decode code 1319 = .ok (.if_icmp .eq 282, 3) := by decide +kernel
theorem dL_law_1322 : decode code 1322 = .ok (.iconst 0, 1) := by decide +kernel
theorem dL_law_1323 : decode code 1323 = .ok (.ireturn, 1) := by decide +kernel
theorem dL_law_1324 : decode code 1324 = .ok (.aload_n 1, 1) := by decide +kernel
theorem dL_law_1325 : decode code 1325 = .ok (.aload_n 0, 1) := by decide +kernel
theorem dL_law_1326 : decode code 1326 = .ok (.iload_n 3, 1) := by decide +kernel
theorem dL_law_1327 : decode code 1327 = .ok (.iconst 1, 1) := by decide +kernel
theorem dL_law_1328 : decode code 1328 = .ok (.iadd, 1) := by decide +kernel
theorem dL_law_1329 : decode code 1329 = .ok (.iaload, 1) := by decide +kernel
theorem dL_law_1330 : decode code 1330 = .ok (.aload_n 0, 1) := by decide +kernel
theorem dL_law_1331 : decode code 1331 = .ok (.iload_n 3, 1) := by decide +kernel
theorem dL_law_1332 : decode code 1332 = .ok (.iconst 2, 1) := by decide +kernel
theorem dL_law_1333 : decode code 1333 = .ok (.iadd, 1) := by decide +kernel
theorem dL_law_1334 : decode code 1334 = .ok (.iaload, 1) := by decide +kernel
theorem dL_law_1335 : decode code 1335 = .ok (.aload_n 0, 1) := by decide +kernel
theorem dL_law_1336 : decode code 1336 = .ok (.iload_n 3, 1) := by decide +kernel
theorem dL_law_1337 : decode code 1337 = .ok (.iconst 3, 1) := by decide +kernel
theorem dL_law_1338 : decode code 1338 = .ok (.iadd, 1) := by decide +kernel
theorem dL_law_1339 : decode code 1339 = .ok (.iaload, 1) := by decide +kernel
theorem dL_law_1340 : decode code 1340 = .ok (.invokevirtual 159, 3) := by decide +kernel
theorem dL_law_1343 : decode code 1343 = .ok (.aload_n 2, 1) := by decide +kernel
theorem dL_law_1344 : decode code 1344 = .ok (.aload_n 0, 1) := by decide +kernel
theorem dL_law_1345 : decode code 1345 = .ok (.iload_n 3, 1) := by decide +kernel
theorem dL_law_1346 : decode code 1346 = .ok (.iconst 1, 1) := by decide +kernel
theorem dL_law_1347 : decode code 1347 = .ok (.iadd, 1) := by decide +kernel
theorem dL_law_1348 : decode code 1348 = .ok (.iaload, 1) := by decide +kernel
theorem dL_law_1349 : decode code 1349 = .ok (.aload_n 0, 1) := by decide +kernel
theorem dL_law_1350 : decode code 1350 = .ok (.iload_n 3, 1) := by decide +kernel
theorem dL_law_1351 : decode code 1351 = .ok (.iconst 2, 1) := by decide +kernel
theorem dL_law_1352 : decode code 1352 = .ok (.iadd, 1) := by decide +kernel
theorem dL_law_1353 : decode code 1353 = .ok (.iaload, 1) := by decide +kernel
theorem dL_law_1354 : decode code 1354 = .ok (.aload_n 0, 1) := by decide +kernel
theorem dL_law_1355 : decode code 1355 = .ok (.iload_n 3, 1) := by decide +kernel
theorem dL_law_1356 : decode code 1356 = .ok (.iconst 3, 1) := by decide +kernel
theorem dL_law_1357 : decode code 1357 = .ok (.iadd, 1) := by decide +kernel
theorem dL_law_1358 : decode code 1358 = .ok (.iaload, 1) := by decide +kernel
theorem dL_law_1359 : decode code 1359 = .ok (.invokevirtual 162, 3) := by decide +kernel
theorem dL_law_1362 : decode code 1362 = .ok (.if_icmp .eq 239, 3) := by decide +kernel
theorem dL_law_1365 : decode code 1365 = .ok (.iconst 0, 1) := by decide +kernel
theorem dL_law_1366 : decode code 1366 = .ok (.ireturn, 1) := by decide +kernel
theorem dL_law_1367 : decode code 1367 = .ok (.aload_n 1, 1) := by decide +kernel
theorem dL_law_1368 : decode code 1368 = .ok (.aload_n 0, 1) := by decide +kernel
theorem dL_law_1369 : decode code 1369 = .ok (.iload_n 3, 1) := by decide +kernel
theorem dL_law_1370 : decode code 1370 = .ok (.iconst 1, 1) := by decide +kernel
theorem dL_law_1371 : decode code 1371 = .ok (.iadd, 1) := by decide +kernel
theorem dL_law_1372 : decode code 1372 = .ok (.iaload, 1) := by decide +kernel
theorem dL_law_1373 : decode code 1373 = .ok (.aload_n 0, 1) := by decide +kernel
theorem dL_law_1374 : decode code 1374 = .ok (.iload_n 3, 1) := by decide +kernel
theorem dL_law_1375 : decode code 1375 = .ok (.iconst 2, 1) := by decide +kernel
theorem dL_law_1376 : decode code 1376 = .ok (.iadd, 1) := by decide +kernel
theorem dL_law_1377 : decode code 1377 = .ok (.iaload, 1) := by decide +kernel
theorem dL_law_1378 : decode code 1378 = .ok (.aload_n 0, 1) := by decide +kernel
theorem dL_law_1379 : decode code 1379 = .ok (.iload_n 3, 1) := by decide +kernel
theorem dL_law_1380 : decode code 1380 = .ok (.iconst 3, 1) := by decide +kernel
theorem dL_law_1381 : decode code 1381 = .ok (.iadd, 1) := by decide +kernel
theorem dL_law_1382 : decode code 1382 = .ok (.iaload, 1) := by decide +kernel
theorem dL_law_1383 : decode code 1383 = .ok (.invokevirtual 163, 3) := by decide +kernel
theorem dL_law_1386 : decode code 1386 = .ok (.aload_n 2, 1) := by decide +kernel
theorem dL_law_1387 : decode code 1387 = .ok (.aload_n 0, 1) := by decide +kernel
theorem dL_law_1388 : decode code 1388 = .ok (.iload_n 3, 1) := by decide +kernel
theorem dL_law_1389 : decode code 1389 = .ok (.iconst 1, 1) := by decide +kernel
theorem dL_law_1390 : decode code 1390 = .ok (.iadd, 1) := by decide +kernel
theorem dL_law_1391 : decode code 1391 = .ok (.iaload, 1) := by decide +kernel
theorem dL_law_1392 : decode code 1392 = .ok (.aload_n 0, 1) := by decide +kernel
theorem dL_law_1393 : decode code 1393 = .ok (.iload_n 3, 1) := by decide +kernel
theorem dL_law_1394 : decode code 1394 = .ok (.iconst 2, 1) := by decide +kernel
theorem dL_law_1395 : decode code 1395 = .ok (.iadd, 1) := by decide +kernel
theorem dL_law_1396 : decode code 1396 = .ok (.iaload, 1) := by decide +kernel
theorem dL_law_1397 : decode code 1397 = .ok (.aload_n 0, 1) := by decide +kernel
theorem dL_law_1398 : decode code 1398 = .ok (.iload_n 3, 1) := by decide +kernel
theorem dL_law_1399 : decode code 1399 = .ok (.iconst 3, 1) := by decide +kernel
theorem dL_law_1400 : decode code 1400 = .ok (.iadd, 1) := by decide +kernel
theorem dL_law_1401 : decode code 1401 = .ok (.iaload, 1) := by decide +kernel
theorem dL_law_1402 : decode code 1402 = .ok (.invokevirtual 166, 3) := by decide +kernel
theorem dL_law_1405 : decode code 1405 = .ok (.if_icmp .eq 196, 3) := by decide +kernel
theorem dL_law_1408 : decode code 1408 = .ok (.iconst 0, 1) := by decide +kernel
theorem dL_law_1409 : decode code 1409 = .ok (.ireturn, 1) := by decide +kernel
theorem dL_law_1410 : decode code 1410 = .ok (.aload_n 1, 1) := by decide +kernel
theorem dL_law_1411 : decode code 1411 = .ok (.aload_n 0, 1) := by decide +kernel
theorem dL_law_1412 : decode code 1412 = .ok (.iload_n 3, 1) := by decide +kernel
theorem dL_law_1413 : decode code 1413 = .ok (.iconst 1, 1) := by decide +kernel
theorem dL_law_1414 : decode code 1414 = .ok (.iadd, 1) := by decide +kernel
theorem dL_law_1415 : decode code 1415 = .ok (.iaload, 1) := by decide +kernel
theorem dL_law_1416 : decode code 1416 = .ok (.aload_n 0, 1) := by decide +kernel
theorem dL_law_1417 : decode code 1417 = .ok (.iload_n 3, 1) := by decide +kernel
theorem dL_law_1418 : decode code 1418 = .ok (.iconst 2, 1) := by decide +kernel
theorem dL_law_1419 : decode code 1419 = .ok (.iadd, 1) := by decide +kernel
theorem dL_law_1420 : decode code 1420 = .ok (.iaload, 1) := by decide +kernel
theorem dL_law_1421 : decode code 1421 = .ok (.aload_n 0, 1) := by decide +kernel
theorem dL_law_1422 : decode code 1422 = .ok (.iload_n 3, 1) := by decide +kernel
theorem dL_law_1423 : decode code 1423 = .ok (.iconst 3, 1) := by decide +kernel
theorem dL_law_1424 : decode code 1424 = .ok (.iadd, 1) := by decide +kernel
theorem dL_law_1425 : decode code 1425 = .ok (.iaload, 1) := by decide +kernel
theorem dL_law_1426 : decode code 1426 = .ok (.invokevirtual 167, 3) := by decide +kernel
theorem dL_law_1429 : decode code 1429 = .ok (.aload_n 2, 1) := by decide +kernel
theorem dL_law_1430 : decode code 1430 = .ok (.aload_n 0, 1) := by decide +kernel
theorem dL_law_1431 : decode code 1431 = .ok (.iload_n 3, 1) := by decide +kernel
theorem dL_law_1432 : decode code 1432 = .ok (.iconst 1, 1) := by decide +kernel
theorem dL_law_1433 : decode code 1433 = .ok (.iadd, 1) := by decide +kernel
theorem dL_law_1434 : decode code 1434 = .ok (.iaload, 1) := by decide +kernel
theorem dL_law_1435 : decode code 1435 = .ok (.aload_n 0, 1) := by decide +kernel
theorem dL_law_1436 : decode code 1436 = .ok (.iload_n 3, 1) := by decide +kernel
theorem dL_law_1437 : decode code 1437 = .ok (.iconst 2, 1) := by decide +kernel
theorem dL_law_1438 : decode code 1438 = .ok (.iadd, 1) := by decide +kernel
theorem dL_law_1439 : decode code 1439 = .ok (.iaload, 1) := by decide +kernel
theorem dL_law_1440 : decode code 1440 = .ok (.aload_n 0, 1) := by decide +kernel
theorem dL_law_1441 : decode code 1441 = .ok (.iload_n 3, 1) := by decide +kernel
theorem dL_law_1442 : decode code 1442 = .ok (.iconst 3, 1) := by decide +kernel
theorem dL_law_1443 : decode code 1443 = .ok (.iadd, 1) := by decide +kernel
theorem dL_law_1444 : decode code 1444 = .ok (.iaload, 1) := by decide +kernel
theorem dL_law_1445 : decode code 1445 = .ok (.invokevirtual 170, 3) := by decide +kernel
theorem dL_law_1448 : decode code 1448 = .ok (.if_icmp .eq 153, 3) := by decide +kernel
theorem dL_law_1451 : decode code 1451 = .ok (.iconst 0, 1) := by decide +kernel
theorem dL_law_1452 : decode code 1452 = .ok (.ireturn, 1) := by decide +kernel
theorem dL_law_1453 : decode code 1453 = .ok (.aload_n 1, 1) := by decide +kernel
theorem dL_law_1454 : decode code 1454 = .ok (.aload_n 0, 1) := by decide +kernel
theorem dL_law_1455 : decode code 1455 = .ok (.iload_n 3, 1) := by decide +kernel
theorem dL_law_1456 : decode code 1456 = .ok (.iconst 1, 1) := by decide +kernel
theorem dL_law_1457 : decode code 1457 = .ok (.iadd, 1) := by decide +kernel
theorem dL_law_1458 : decode code 1458 = .ok (.iaload, 1) := by decide +kernel
theorem dL_law_1459 : decode code 1459 = .ok (.aload_n 0, 1) := by decide +kernel
theorem dL_law_1460 : decode code 1460 = .ok (.iload_n 3, 1) := by decide +kernel
theorem dL_law_1461 : decode code 1461 = .ok (.iconst 2, 1) := by decide +kernel
theorem dL_law_1462 : decode code 1462 = .ok (.iadd, 1) := by decide +kernel
theorem dL_law_1463 : decode code 1463 = .ok (.iaload, 1) := by decide +kernel
theorem dL_law_1464 : decode code 1464 = .ok (.invokevirtual 171, 3) := by decide +kernel
theorem dL_law_1467 : decode code 1467 = .ok (.aload_n 2, 1) := by decide +kernel
theorem dL_law_1468 : decode code 1468 = .ok (.aload_n 0, 1) := by decide +kernel
theorem dL_law_1469 : decode code 1469 = .ok (.iload_n 3, 1) := by decide +kernel
theorem dL_law_1470 : decode code 1470 = .ok (.iconst 1, 1) := by decide +kernel
theorem dL_law_1471 : decode code 1471 = .ok (.iadd, 1) := by decide +kernel
theorem dL_law_1472 : decode code 1472 = .ok (.iaload, 1) := by decide +kernel
theorem dL_law_1473 : decode code 1473 = .ok (.aload_n 0, 1) := by decide +kernel
theorem dL_law_1474 : decode code 1474 = .ok (.iload_n 3, 1) := by decide +kernel
theorem dL_law_1475 : decode code 1475 = .ok (.iconst 2, 1) := by decide +kernel
theorem dL_law_1476 : decode code 1476 = .ok (.iadd, 1) := by decide +kernel
theorem dL_law_1477 : decode code 1477 = .ok (.iaload, 1) := by decide +kernel
theorem dL_law_1478 : decode code 1478 = .ok (.invokevirtual 174, 3) := by decide +kernel
theorem dL_law_1481 : decode code 1481 = .ok (.if_icmp .eq 120, 3) := by decide +kernel
theorem dL_law_1484 : decode code 1484 = .ok (.iconst 0, 1) := by decide +kernel
theorem dL_law_1485 : decode code 1485 = .ok (.ireturn, 1) := by decide +kernel
theorem dL_law_1486 : decode code 1486 = .ok (.aload_n 1, 1) := by decide +kernel
theorem dL_law_1487 : decode code 1487 = .ok (.aload_n 0, 1) := by decide +kernel
theorem dL_law_1488 : decode code 1488 = .ok (.iload_n 3, 1) := by decide +kernel
theorem dL_law_1489 : decode code 1489 = .ok (.iconst 1, 1) := by decide +kernel
theorem dL_law_1490 : decode code 1490 = .ok (.iadd, 1) := by decide +kernel
theorem dL_law_1491 : decode code 1491 = .ok (.iaload, 1) := by decide +kernel
theorem dL_law_1492 : decode code 1492 = .ok (.aload_n 0, 1) := by decide +kernel
theorem dL_law_1493 : decode code 1493 = .ok (.iload_n 3, 1) := by decide +kernel
theorem dL_law_1494 : decode code 1494 = .ok (.iconst 2, 1) := by decide +kernel
theorem dL_law_1495 : decode code 1495 = .ok (.iadd, 1) := by decide +kernel
theorem dL_law_1496 : decode code 1496 = .ok (.iaload, 1) := by decide +kernel
theorem dL_law_1497 : decode code 1497 = .ok (.aload_n 0, 1) := by decide +kernel
theorem dL_law_1498 : decode code 1498 = .ok (.iload_n 3, 1) := by decide +kernel
theorem dL_law_1499 : decode code 1499 = .ok (.iconst 3, 1) := by decide +kernel
theorem dL_law_1500 : decode code 1500 = .ok (.iadd, 1) := by decide +kernel
theorem dL_law_1501 : decode code 1501 = .ok (.iaload, 1) := by decide +kernel
theorem dL_law_1502 : decode code 1502 = .ok (.invokevirtual 175, 3) := by decide +kernel
theorem dL_law_1505 : decode code 1505 = .ok (.aload_n 2, 1) := by decide +kernel
theorem dL_law_1506 : decode code 1506 = .ok (.aload_n 0, 1) := by decide +kernel
theorem dL_law_1507 : decode code 1507 = .ok (.iload_n 3, 1) := by decide +kernel
theorem dL_law_1508 : decode code 1508 = .ok (.iconst 1, 1) := by decide +kernel
theorem dL_law_1509 : decode code 1509 = .ok (.iadd, 1) := by decide +kernel
theorem dL_law_1510 : decode code 1510 = .ok (.iaload, 1) := by decide +kernel
theorem dL_law_1511 : decode code 1511 = .ok (.aload_n 0, 1) := by decide +kernel
theorem dL_law_1512 : decode code 1512 = .ok (.iload_n 3, 1) := by decide +kernel
theorem dL_law_1513 : decode code 1513 = .ok (.iconst 2, 1) := by decide +kernel
theorem dL_law_1514 : decode code 1514 = .ok (.iadd, 1) := by decide +kernel
theorem dL_law_1515 : decode code 1515 = .ok (.iaload, 1) := by decide +kernel
theorem dL_law_1516 : decode code 1516 = .ok (.aload_n 0, 1) := by decide +kernel
theorem dL_law_1517 : decode code 1517 = .ok (.iload_n 3, 1) := by decide +kernel
theorem dL_law_1518 : decode code 1518 = .ok (.iconst 3, 1) := by decide +kernel
theorem dL_law_1519 : decode code 1519 = .ok (.iadd, 1) := by decide +kernel
theorem dL_law_1520 : decode code 1520 = .ok (.iaload, 1) := by decide +kernel
theorem dL_law_1521 : decode code 1521 = .ok (.invokevirtual 178, 3) := by decide +kernel
theorem dL_law_1524 : decode code 1524 = .ok (.if_icmp .eq 77, 3) := by decide +kernel
theorem dL_law_1527 : decode code 1527 = .ok (.iconst 0, 1) := by decide +kernel
theorem dL_law_1528 : decode code 1528 = .ok (.ireturn, 1) := by decide +kernel
theorem dL_law_1529 : decode code 1529 = .ok (.aload_n 1, 1) := by decide +kernel
theorem dL_law_1530 : decode code 1530 = .ok (.aload_n 0, 1) := by decide +kernel
theorem dL_law_1531 : decode code 1531 = .ok (.iload_n 3, 1) := by decide +kernel
theorem dL_law_1532 : decode code 1532 = .ok (.iconst 1, 1) := by decide +kernel
theorem dL_law_1533 : decode code 1533 = .ok (.iadd, 1) := by decide +kernel
theorem dL_law_1534 : decode code 1534 = .ok (.iaload, 1) := by decide +kernel
theorem dL_law_1535 : decode code 1535 = .ok (.invokevirtual 179, 3) := by decide +kernel
theorem dL_law_1538 : decode code 1538 = .ok (.aload_n 2, 1) := by decide +kernel
theorem dL_law_1539 : decode code 1539 = .ok (.aload_n 0, 1) := by decide +kernel
theorem dL_law_1540 : decode code 1540 = .ok (.iload_n 3, 1) := by decide +kernel
theorem dL_law_1541 : decode code 1541 = .ok (.iconst 1, 1) := by decide +kernel
theorem dL_law_1542 : decode code 1542 = .ok (.iadd, 1) := by decide +kernel
theorem dL_law_1543 : decode code 1543 = .ok (.iaload, 1) := by decide +kernel
theorem dL_law_1544 : decode code 1544 = .ok (.invokevirtual 182, 3) := by decide +kernel
theorem dL_law_1547 : decode code 1547 = .ok (.if_icmp .eq 54, 3) := by decide +kernel
theorem dL_law_1550 : decode code 1550 = .ok (.iconst 0, 1) := by decide +kernel
theorem dL_law_1551 : decode code 1551 = .ok (.ireturn, 1) := by decide +kernel
theorem dL_law_1552 : decode code 1552 = .ok (.aload_n 1, 1) := by decide +kernel
theorem dL_law_1553 : decode code 1553 = .ok (.aload_n 0, 1) := by decide +kernel
theorem dL_law_1554 : decode code 1554 = .ok (.iload_n 3, 1) := by decide +kernel
theorem dL_law_1555 : decode code 1555 = .ok (.iconst 1, 1) := by decide +kernel
theorem dL_law_1556 : decode code 1556 = .ok (.iadd, 1) := by decide +kernel
theorem dL_law_1557 : decode code 1557 = .ok (.iaload, 1) := by decide +kernel
theorem dL_law_1558 : decode code 1558 = .ok (.invokevirtual 183, 3) := by decide +kernel
theorem dL_law_1561 : decode code 1561 = .ok (.aload_n 2, 1) := by decide +kernel
theorem dL_law_1562 : decode code 1562 = .ok (.aload_n 0, 1) := by decide +kernel
theorem dL_law_1563 : decode code 1563 = .ok (.iload_n 3, 1) := by decide +kernel
theorem dL_law_1564 : decode code 1564 = .ok (.iconst 1, 1) := by decide +kernel
theorem dL_law_1565 : decode code 1565 = .ok (.iadd, 1) := by decide +kernel
theorem dL_law_1566 : decode code 1566 = .ok (.iaload, 1) := by decide +kernel
theorem dL_law_1567 : decode code 1567 = .ok (.invokevirtual 186, 3) := by decide +kernel
theorem dL_law_1570 : decode code 1570 = .ok (.if_icmp .eq 31, 3) := by decide +kernel
theorem dL_law_1573 : decode code 1573 = .ok (.iconst 0, 1) := by decide +kernel
theorem dL_law_1574 : decode code 1574 = .ok (.ireturn, 1) := by decide +kernel
theorem dL_law_1575 : decode code 1575 = .ok (.aload_n 1, 1) := by decide +kernel
theorem dL_law_1576 : decode code 1576 = .ok (.invokevirtual 187, 3) := by decide +kernel
theorem dL_law_1579 : decode code 1579 = .ok (.aload_n 2, 1) := by decide +kernel
theorem dL_law_1580 : decode code 1580 = .ok (.invokevirtual 190, 3) := by decide +kernel
theorem dL_law_1583 : decode code 1583 = .ok (.if_icmp .eq 18, 3) := by decide +kernel
theorem dL_law_1586 : decode code 1586 = .ok (.iconst 0, 1) := by decide +kernel
theorem dL_law_1587 : decode code 1587 = .ok (.ireturn, 1) := by decide +kernel
theorem dL_law_1588 : decode code 1588 = .ok (.aload_n 1, 1) := by decide +kernel
theorem dL_law_1589 : decode code 1589 = .ok (.invokevirtual 191, 3) := by decide +kernel
theorem dL_law_1592 : decode code 1592 = .ok (.aload_n 2, 1) := by decide +kernel
theorem dL_law_1593 : decode code 1593 = .ok (.invokevirtual 194, 3) := by decide +kernel
theorem dL_law_1596 : decode code 1596 = .ok (.if_icmp .eq 5, 3) := by decide +kernel
theorem dL_law_1599 : decode code 1599 = .ok (.iconst 0, 1) := by decide +kernel
theorem dL_law_1600 : decode code 1600 = .ok (.ireturn, 1) := by decide +kernel
theorem dL_law_1601 : decode code 1601 = .ok (.iinc 3 5, 3) := by decide +kernel
theorem dL_law_1604 : decode code 1604 = .ok (.goto (-1586), 3) := by decide +kernel
theorem dL_law_1607 : decode code 1607 = .ok (.iconst 1, 1) := by decide +kernel
theorem dL_law_1608 : decode code 1608 = .ok (.ireturn, 1) := by decide +kernel
def pc_L_law (i : Nat) : Nat := ([0, 18, 26, 220, 281, 283, 294, 296, 327, 329, 350, 352, 383, 385, 416, 418, 449, 451, 482, 484, 525, 527, 568, 570, 601, 603, 624, 626, 647, 649, 660, 662, 683, 685, 706, 708, 739, 741, 762, 764, 785, 787, 798, 800, 831, 833, 864, 866, 897, 899, 930, 932, 973, 975, 1016, 1018, 1060, 1062, 1094, 1096, 1127, 1129, 1160, 1162, 1203, 1205, 1226, 1228, 1279, 1281, 1322, 1324, 1365, 1367, 1408, 1410, 1451, 1453, 1484, 1486, 1527, 1529, 1550, 1552, 1573, 1575, 1586, 1588, 1599, 1601, 1607] : List Nat).getD i 0
set_option maxRecDepth 20000 in
theorem ob_L_law_0 {x : ip_Cx} {G : ip_Gl} {d : Nat} (X : ip_X x G tb 4 d 600000 7302250 RL code) (hr : x.2.2.2.2.2.2.2.2.1.sig.returnType = some .boolean) (hnm : x.2.2.2.2.2.2.2.2.1.name = "law") : ip_okB x G 4 pc_L_law 0 ([oNew 600000 7302250 5 [.null, .null, .null, .int 0, .null, .null, .null, .null, .int 0, .null, .null, .null], oDup, oCaV (ip_call tb d) 600000 7302250 5 51 1 30 459, oStA 1, oNew 600000 7302250 6 [.null, .null, .null, .null, .int 0, .null, .int 0, .int 0, .int 0, .int 0, .long 0, .int 0, .int 0, .null, .null, .int 0, .null, .null, .null, .null, .null, .null, .int 0, .int 0, .int 0, .null, .int 0, .int 0], oDup, oCaV (ip_call tb d) 600000 7302250 6 118 1 14 694, oStA 2, oI (0), oStI 3], tGo 1) := ⟨_, okC (ok_new X (ci := 5) rfl iw_X5 tyX5_ok rfl tw_15 tw_16 tw_1 dL_law_0)
  (okC (ok_dup X dL_law_3)
  (okC (ok_calI X (i := 9) (e := en_51) rfl mt_51 rfl rfl rfl tw_17 tw_18 rfl rfl dL_law_4)
  (okC (ok_astn X rfl (by decide) dL_law_7)
  (okC (ok_new X (ci := 6) rfl iw_X6 tyX6_ok rfl tw_786 tw_787 tw_7 dL_law_8)
  (okC (ok_dup X dL_law_11)
  (okC (ok_calI X (i := 12) (e := en_118) rfl mt_118 rfl rfl rfl tw_788 tw_789 rfl rfl dL_law_12)
  (okC (ok_astn X rfl (by decide) dL_law_15)
  (okC (ok_ic X (by decide) dL_law_16)
  (okC (ok_istn X rfl (by decide) dL_law_17)
  (okN)))))))))), ok_fall rfl⟩
set_option maxRecDepth 20000 in
theorem ob_L_law_1 {x : ip_Cx} {G : ip_Gl} {d : Nat} (X : ip_X x G tb 4 d 600000 7302250 RL code) (hr : x.2.2.2.2.2.2.2.2.1.sig.returnType = some .boolean) (hnm : x.2.2.2.2.2.2.2.2.1.name = "law") : ip_okB x G 4 pc_L_law 18 ([oLdI 3, oLdA 0, oLen, oI (5), oBI (fun a b => a - b)], tCm (fun a b => b < a) 90 2) := ⟨_, okC (ok_ildn X rfl dL_law_18)
  (okC (ok_aldn X rfl dL_law_19)
  (okC (ok_len X dL_law_20)
  (okC (ok_ic X (by decide) dL_law_21)
  (okC (ok_isub X dL_law_22)
  (okN))))), ok_cmgt X (by decide) rfl dL_law_23⟩
set_option maxRecDepth 20000 in
theorem ob_L_law_2 {x : ip_Cx} {G : ip_Gl} {d : Nat} (X : ip_X x G tb 4 d 600000 7302250 RL code) (hr : x.2.2.2.2.2.2.2.2.1.sig.returnType = some .boolean) (hnm : x.2.2.2.2.2.2.2.2.1.name = "law") : ip_okB x G 4 pc_L_law 26 ([oLdA 0, oLdI 3, oAldI, oI (63), oBI (fun a b => a &&& b)], tSw [(0, 3), (1, 5), (2, 7), (3, 9), (4, 11), (5, 13), (6, 15), (7, 17), (8, 19), (9, 21), (10, 23), (11, 25), (12, 27), (13, 29), (14, 31), (15, 33), (16, 35), (17, 37), (18, 39), (19, 41), (20, 43), (21, 45), (22, 47), (23, 49), (24, 51), (25, 53), (26, 55), (27, 57), (28, 59), (29, 61), (30, 63), (31, 65), (32, 67), (33, 69), (34, 71), (35, 73), (36, 75), (37, 77), (38, 79), (39, 81), (40, 83), (41, 85), (42, 87)] 89) := ⟨_, okC (ok_aldn X rfl dL_law_26)
  (okC (ok_ildn X rfl dL_law_27)
  (okC (ok_iald X dL_law_28)
  (okC (ok_bi X (by decide) dL_law_29)
  (okC (ok_iand X dL_law_31)
  (okN))))), ok_tsw X (by decide) (by decide +kernel) (by decide) dL_law_32⟩
set_option maxRecDepth 20000 in
theorem ob_L_law_3 {x : ip_Cx} {G : ip_Gl} {d : Nat} (X : ip_X x G tb 4 d 600000 7302250 RL code) (hr : x.2.2.2.2.2.2.2.2.1.sig.returnType = some .boolean) (hnm : x.2.2.2.2.2.2.2.2.1.name = "law") : ip_okB x G 4 pc_L_law 220 ([oLdA 1, oLdA 0, oLdI 3, oI (1), oBI (fun a b => a + b), oAldI, oIL, oI (32), oSL (fun a b => a <<< (b.toInt64 &&& 63)), oLdA 0, oLdI 3, oI (2), oBI (fun a b => a + b), oAldI, oIL, oL (4294967295), oBL (fun a b => a &&& b), oBL (fun a b => a ||| b), oLdA 0, oLdI 3, oI (3), oBI (fun a b => a + b), oAldI, oCaV (ip_call tb d) 600000 7302250 5 52 3 0 0, oLdA 2, oLdA 0, oLdI 3, oI (1), oBI (fun a b => a + b), oAldI, oIL, oI (32), oSL (fun a b => a <<< (b.toInt64 &&& 63)), oLdA 0, oLdI 3, oI (2), oBI (fun a b => a + b), oAldI, oIL, oL (4294967295), oBL (fun a b => a &&& b), oBL (fun a b => a ||| b), oLdA 0, oLdI 3, oI (3), oBI (fun a b => a + b), oAldI, oCaV (ip_call tb d) 600000 7302250 6 128 3 0 0], tCm (fun a b => a = b) 89 4) := ⟨_, okC (ok_aldn X rfl dL_law_220)
  (okC (ok_aldn X rfl dL_law_221)
  (okC (ok_ildn X rfl dL_law_222)
  (okC (ok_ic X (by decide) dL_law_223)
  (okC (ok_iadd X dL_law_224)
  (okC (ok_iald X dL_law_225)
  (okC (ok_i2l X dL_law_226)
  (okC (ok_bi X (by decide) dL_law_227)
  (okC (ok_lshl X dL_law_229)
  (okC (ok_aldn X rfl dL_law_230)
  (okC (ok_ildn X rfl dL_law_231)
  (okC (ok_ic X (by decide) dL_law_232)
  (okC (ok_iadd X dL_law_233)
  (okC (ok_iald X dL_law_234)
  (okC (ok_i2l X dL_law_235)
  (okC (ok_ldc2 X tw_1318 dL_law_236)
  (okC (ok_land X dL_law_239)
  (okC (ok_lor X dL_law_240)
  (okC (ok_aldn X rfl dL_law_241)
  (okC (ok_ildn X rfl dL_law_242)
  (okC (ok_ic X (by decide) dL_law_243)
  (okC (ok_iadd X dL_law_244)
  (okC (ok_iald X dL_law_245)
  (okC (ok_calV X (i := 15) (e := en_52) rfl mt_52 rfl rfl rfl tw_235 tw_236 (Or.inl ⟨_, _, rfl⟩) tw_237 dL_law_246)
  (okC (ok_aldn X rfl dL_law_249)
  (okC (ok_aldn X rfl dL_law_250)
  (okC (ok_ildn X rfl dL_law_251)
  (okC (ok_ic X (by decide) dL_law_252)
  (okC (ok_iadd X dL_law_253)
  (okC (ok_iald X dL_law_254)
  (okC (ok_i2l X dL_law_255)
  (okC (ok_bi X (by decide) dL_law_256)
  (okC (ok_lshl X dL_law_258)
  (okC (ok_aldn X rfl dL_law_259)
  (okC (ok_ildn X rfl dL_law_260)
  (okC (ok_ic X (by decide) dL_law_261)
  (okC (ok_iadd X dL_law_262)
  (okC (ok_iald X dL_law_263)
  (okC (ok_i2l X dL_law_264)
  (okC (ok_ldc2 X tw_1318 dL_law_265)
  (okC (ok_land X dL_law_268)
  (okC (ok_lor X dL_law_269)
  (okC (ok_aldn X rfl dL_law_270)
  (okC (ok_ildn X rfl dL_law_271)
  (okC (ok_ic X (by decide) dL_law_272)
  (okC (ok_iadd X dL_law_273)
  (okC (ok_iald X dL_law_274)
  (okC (ok_calV X (i := 19) (e := en_128) rfl mt_128 rfl rfl rfl tw_881 tw_882 (Or.inl ⟨_, _, rfl⟩) tw_883 dL_law_275)
  (okN)))))))))))))))))))))))))))))))))))))))))))))))), ok_cmeq X (by decide) rfl dL_law_278⟩
set_option maxRecDepth 20000 in
theorem ob_L_law_4 {x : ip_Cx} {G : ip_Gl} {d : Nat} (X : ip_X x G tb 4 d 600000 7302250 RL code) (hr : x.2.2.2.2.2.2.2.2.1.sig.returnType = some .boolean) (hnm : x.2.2.2.2.2.2.2.2.1.name = "law") : ip_okB x G 4 pc_L_law 281 ([oI (0)], tRI .boolean 600000 7302250) := ⟨_, okC (ok_ic X (by decide) dL_law_281)
  (okN), ok_ret X hr dL_law_282⟩
set_option maxRecDepth 20000 in
theorem ob_L_law_5 {x : ip_Cx} {G : ip_Gl} {d : Nat} (X : ip_X x G tb 4 d 600000 7302250 RL code) (hr : x.2.2.2.2.2.2.2.2.1.sig.returnType = some .boolean) (hnm : x.2.2.2.2.2.2.2.2.1.name = "law") : ip_okB x G 4 pc_L_law 283 ([oLdA 1, oCaV (ip_call tb d) 600000 7302250 5 53 1 0 0, oLdA 2, oCaV (ip_call tb d) 600000 7302250 6 143 1 0 0], tCm (fun a b => a = b) 89 6) := ⟨_, okC (ok_aldn X rfl dL_law_283)
  (okC (ok_calV X (i := 20) (e := en_53) rfl mt_53 rfl rfl rfl tw_246 tw_247 (Or.inl ⟨_, _, rfl⟩) tw_248 dL_law_284)
  (okC (ok_aldn X rfl dL_law_287)
  (okC (ok_calV X (i := 24) (e := en_143) rfl mt_143 rfl rfl rfl tw_889 tw_890 (Or.inl ⟨_, _, rfl⟩) tw_891 dL_law_288)
  (okN)))), ok_cmeq X (by decide) rfl dL_law_291⟩
set_option maxRecDepth 20000 in
theorem ob_L_law_6 {x : ip_Cx} {G : ip_Gl} {d : Nat} (X : ip_X x G tb 4 d 600000 7302250 RL code) (hr : x.2.2.2.2.2.2.2.2.1.sig.returnType = some .boolean) (hnm : x.2.2.2.2.2.2.2.2.1.name = "law") : ip_okB x G 4 pc_L_law 294 ([oI (0)], tRI .boolean 600000 7302250) := ⟨_, okC (ok_ic X (by decide) dL_law_294)
  (okN), ok_ret X hr dL_law_295⟩
set_option maxRecDepth 20000 in
theorem ob_L_law_7 {x : ip_Cx} {G : ip_Gl} {d : Nat} (X : ip_X x G tb 4 d 600000 7302250 RL code) (hr : x.2.2.2.2.2.2.2.2.1.sig.returnType = some .boolean) (hnm : x.2.2.2.2.2.2.2.2.1.name = "law") : ip_okB x G 4 pc_L_law 296 ([oLdA 1, oLdA 0, oLdI 3, oI (1), oBI (fun a b => a + b), oAldI, oLdA 0, oLdI 3, oI (2), oBI (fun a b => a + b), oAldI, oCaV (ip_call tb d) 600000 7302250 5 54 3 0 0, oLdA 2, oLdA 0, oLdI 3, oI (1), oBI (fun a b => a + b), oAldI, oLdA 0, oLdI 3, oI (2), oBI (fun a b => a + b), oAldI, oCaV (ip_call tb d) 600000 7302250 6 145 3 0 0], tCm (fun a b => a = b) 89 8) := ⟨_, okC (ok_aldn X rfl dL_law_296)
  (okC (ok_aldn X rfl dL_law_297)
  (okC (ok_ildn X rfl dL_law_298)
  (okC (ok_ic X (by decide) dL_law_299)
  (okC (ok_iadd X dL_law_300)
  (okC (ok_iald X dL_law_301)
  (okC (ok_aldn X rfl dL_law_302)
  (okC (ok_ildn X rfl dL_law_303)
  (okC (ok_ic X (by decide) dL_law_304)
  (okC (ok_iadd X dL_law_305)
  (okC (ok_iald X dL_law_306)
  (okC (ok_calV X (i := 25) (e := en_54) rfl mt_54 rfl rfl rfl tw_378 tw_379 (Or.inl ⟨_, _, rfl⟩) tw_380 dL_law_307)
  (okC (ok_aldn X rfl dL_law_310)
  (okC (ok_aldn X rfl dL_law_311)
  (okC (ok_ildn X rfl dL_law_312)
  (okC (ok_ic X (by decide) dL_law_313)
  (okC (ok_iadd X dL_law_314)
  (okC (ok_iald X dL_law_315)
  (okC (ok_aldn X rfl dL_law_316)
  (okC (ok_ildn X rfl dL_law_317)
  (okC (ok_ic X (by decide) dL_law_318)
  (okC (ok_iadd X dL_law_319)
  (okC (ok_iald X dL_law_320)
  (okC (ok_calV X (i := 29) (e := en_145) rfl mt_145 rfl rfl rfl tw_971 tw_972 (Or.inl ⟨_, _, rfl⟩) tw_973 dL_law_321)
  (okN)))))))))))))))))))))))), ok_cmeq X (by decide) rfl dL_law_324⟩
set_option maxRecDepth 20000 in
theorem ob_L_law_8 {x : ip_Cx} {G : ip_Gl} {d : Nat} (X : ip_X x G tb 4 d 600000 7302250 RL code) (hr : x.2.2.2.2.2.2.2.2.1.sig.returnType = some .boolean) (hnm : x.2.2.2.2.2.2.2.2.1.name = "law") : ip_okB x G 4 pc_L_law 327 ([oI (0)], tRI .boolean 600000 7302250) := ⟨_, okC (ok_ic X (by decide) dL_law_327)
  (okN), ok_ret X hr dL_law_328⟩
set_option maxRecDepth 20000 in
theorem ob_L_law_9 {x : ip_Cx} {G : ip_Gl} {d : Nat} (X : ip_X x G tb 4 d 600000 7302250 RL code) (hr : x.2.2.2.2.2.2.2.2.1.sig.returnType = some .boolean) (hnm : x.2.2.2.2.2.2.2.2.1.name = "law") : ip_okB x G 4 pc_L_law 329 ([oLdA 1, oLdA 0, oLdI 3, oI (1), oBI (fun a b => a + b), oAldI, oCaV (ip_call tb d) 600000 7302250 5 55 2 0 0, oLdA 2, oLdA 0, oLdI 3, oI (1), oBI (fun a b => a + b), oAldI, oCaV (ip_call tb d) 600000 7302250 6 146 2 0 0], tCm (fun a b => a = b) 89 10) := ⟨_, okC (ok_aldn X rfl dL_law_329)
  (okC (ok_aldn X rfl dL_law_330)
  (okC (ok_ildn X rfl dL_law_331)
  (okC (ok_ic X (by decide) dL_law_332)
  (okC (ok_iadd X dL_law_333)
  (okC (ok_iald X dL_law_334)
  (okC (ok_calV X (i := 30) (e := en_55) rfl mt_55 rfl rfl rfl tw_383 tw_384 (Or.inl ⟨_, _, rfl⟩) tw_385 dL_law_335)
  (okC (ok_aldn X rfl dL_law_338)
  (okC (ok_aldn X rfl dL_law_339)
  (okC (ok_ildn X rfl dL_law_340)
  (okC (ok_ic X (by decide) dL_law_341)
  (okC (ok_iadd X dL_law_342)
  (okC (ok_iald X dL_law_343)
  (okC (ok_calV X (i := 34) (e := en_146) rfl mt_146 rfl rfl rfl tw_979 tw_980 (Or.inl ⟨_, _, rfl⟩) tw_981 dL_law_344)
  (okN)))))))))))))), ok_cmeq X (by decide) rfl dL_law_347⟩
set_option maxRecDepth 20000 in
theorem ob_L_law_10 {x : ip_Cx} {G : ip_Gl} {d : Nat} (X : ip_X x G tb 4 d 600000 7302250 RL code) (hr : x.2.2.2.2.2.2.2.2.1.sig.returnType = some .boolean) (hnm : x.2.2.2.2.2.2.2.2.1.name = "law") : ip_okB x G 4 pc_L_law 350 ([oI (0)], tRI .boolean 600000 7302250) := ⟨_, okC (ok_ic X (by decide) dL_law_350)
  (okN), ok_ret X hr dL_law_351⟩
set_option maxRecDepth 20000 in
theorem ob_L_law_11 {x : ip_Cx} {G : ip_Gl} {d : Nat} (X : ip_X x G tb 4 d 600000 7302250 RL code) (hr : x.2.2.2.2.2.2.2.2.1.sig.returnType = some .boolean) (hnm : x.2.2.2.2.2.2.2.2.1.name = "law") : ip_okB x G 4 pc_L_law 352 ([oLdA 1, oLdA 0, oLdI 3, oI (1), oBI (fun a b => a + b), oAldI, oLdA 0, oLdI 3, oI (2), oBI (fun a b => a + b), oAldI, oCaV (ip_call tb d) 600000 7302250 5 56 3 0 0, oLdA 2, oLdA 0, oLdI 3, oI (1), oBI (fun a b => a + b), oAldI, oLdA 0, oLdI 3, oI (2), oBI (fun a b => a + b), oAldI, oCaV (ip_call tb d) 600000 7302250 6 147 3 0 0], tCm (fun a b => a = b) 89 12) := ⟨_, okC (ok_aldn X rfl dL_law_352)
  (okC (ok_aldn X rfl dL_law_353)
  (okC (ok_ildn X rfl dL_law_354)
  (okC (ok_ic X (by decide) dL_law_355)
  (okC (ok_iadd X dL_law_356)
  (okC (ok_iald X dL_law_357)
  (okC (ok_aldn X rfl dL_law_358)
  (okC (ok_ildn X rfl dL_law_359)
  (okC (ok_ic X (by decide) dL_law_360)
  (okC (ok_iadd X dL_law_361)
  (okC (ok_iald X dL_law_362)
  (okC (ok_calV X (i := 35) (e := en_56) rfl mt_56 rfl rfl rfl tw_387 tw_388 (Or.inl ⟨_, _, rfl⟩) tw_389 dL_law_363)
  (okC (ok_aldn X rfl dL_law_366)
  (okC (ok_aldn X rfl dL_law_367)
  (okC (ok_ildn X rfl dL_law_368)
  (okC (ok_ic X (by decide) dL_law_369)
  (okC (ok_iadd X dL_law_370)
  (okC (ok_iald X dL_law_371)
  (okC (ok_aldn X rfl dL_law_372)
  (okC (ok_ildn X rfl dL_law_373)
  (okC (ok_ic X (by decide) dL_law_374)
  (okC (ok_iadd X dL_law_375)
  (okC (ok_iald X dL_law_376)
  (okC (ok_calV X (i := 38) (e := en_147) rfl mt_147 rfl rfl rfl tw_983 tw_984 (Or.inl ⟨_, _, rfl⟩) tw_985 dL_law_377)
  (okN)))))))))))))))))))))))), ok_cmeq X (by decide) rfl dL_law_380⟩
set_option maxRecDepth 20000 in
theorem ob_L_law_12 {x : ip_Cx} {G : ip_Gl} {d : Nat} (X : ip_X x G tb 4 d 600000 7302250 RL code) (hr : x.2.2.2.2.2.2.2.2.1.sig.returnType = some .boolean) (hnm : x.2.2.2.2.2.2.2.2.1.name = "law") : ip_okB x G 4 pc_L_law 383 ([oI (0)], tRI .boolean 600000 7302250) := ⟨_, okC (ok_ic X (by decide) dL_law_383)
  (okN), ok_ret X hr dL_law_384⟩
set_option maxRecDepth 20000 in
theorem ob_L_law_13 {x : ip_Cx} {G : ip_Gl} {d : Nat} (X : ip_X x G tb 4 d 600000 7302250 RL code) (hr : x.2.2.2.2.2.2.2.2.1.sig.returnType = some .boolean) (hnm : x.2.2.2.2.2.2.2.2.1.name = "law") : ip_okB x G 4 pc_L_law 385 ([oLdA 1, oLdA 0, oLdI 3, oI (1), oBI (fun a b => a + b), oAldI, oLdA 0, oLdI 3, oI (2), oBI (fun a b => a + b), oAldI, oCaV (ip_call tb d) 600000 7302250 5 57 3 0 0, oLdA 2, oLdA 0, oLdI 3, oI (1), oBI (fun a b => a + b), oAldI, oLdA 0, oLdI 3, oI (2), oBI (fun a b => a + b), oAldI, oCaV (ip_call tb d) 600000 7302250 6 149 3 0 0], tCm (fun a b => a = b) 89 14) := ⟨_, okC (ok_aldn X rfl dL_law_385)
  (okC (ok_aldn X rfl dL_law_386)
  (okC (ok_ildn X rfl dL_law_387)
  (okC (ok_ic X (by decide) dL_law_388)
  (okC (ok_iadd X dL_law_389)
  (okC (ok_iald X dL_law_390)
  (okC (ok_aldn X rfl dL_law_391)
  (okC (ok_ildn X rfl dL_law_392)
  (okC (ok_ic X (by decide) dL_law_393)
  (okC (ok_iadd X dL_law_394)
  (okC (ok_iald X dL_law_395)
  (okC (ok_calV X (i := 39) (e := en_57) rfl mt_57 rfl rfl rfl tw_394 tw_395 (Or.inl ⟨_, _, rfl⟩) tw_396 dL_law_396)
  (okC (ok_aldn X rfl dL_law_399)
  (okC (ok_aldn X rfl dL_law_400)
  (okC (ok_ildn X rfl dL_law_401)
  (okC (ok_ic X (by decide) dL_law_402)
  (okC (ok_iadd X dL_law_403)
  (okC (ok_iald X dL_law_404)
  (okC (ok_aldn X rfl dL_law_405)
  (okC (ok_ildn X rfl dL_law_406)
  (okC (ok_ic X (by decide) dL_law_407)
  (okC (ok_iadd X dL_law_408)
  (okC (ok_iald X dL_law_409)
  (okC (ok_calV X (i := 42) (e := en_149) rfl mt_149 rfl rfl rfl tw_987 tw_988 (Or.inl ⟨_, _, rfl⟩) tw_989 dL_law_410)
  (okN)))))))))))))))))))))))), ok_cmeq X (by decide) rfl dL_law_413⟩
set_option maxRecDepth 20000 in
theorem ob_L_law_14 {x : ip_Cx} {G : ip_Gl} {d : Nat} (X : ip_X x G tb 4 d 600000 7302250 RL code) (hr : x.2.2.2.2.2.2.2.2.1.sig.returnType = some .boolean) (hnm : x.2.2.2.2.2.2.2.2.1.name = "law") : ip_okB x G 4 pc_L_law 416 ([oI (0)], tRI .boolean 600000 7302250) := ⟨_, okC (ok_ic X (by decide) dL_law_416)
  (okN), ok_ret X hr dL_law_417⟩
set_option maxRecDepth 20000 in
theorem ob_L_law_15 {x : ip_Cx} {G : ip_Gl} {d : Nat} (X : ip_X x G tb 4 d 600000 7302250 RL code) (hr : x.2.2.2.2.2.2.2.2.1.sig.returnType = some .boolean) (hnm : x.2.2.2.2.2.2.2.2.1.name = "law") : ip_okB x G 4 pc_L_law 418 ([oLdA 1, oLdA 0, oLdI 3, oI (1), oBI (fun a b => a + b), oAldI, oLdA 0, oLdI 3, oI (2), oBI (fun a b => a + b), oAldI, oCaV (ip_call tb d) 600000 7302250 5 58 3 0 0, oLdA 2, oLdA 0, oLdI 3, oI (1), oBI (fun a b => a + b), oAldI, oLdA 0, oLdI 3, oI (2), oBI (fun a b => a + b), oAldI, oCaV (ip_call tb d) 600000 7302250 6 150 3 0 0], tCm (fun a b => a = b) 89 16) := ⟨_, okC (ok_aldn X rfl dL_law_418)
  (okC (ok_aldn X rfl dL_law_419)
  (okC (ok_ildn X rfl dL_law_420)
  (okC (ok_ic X (by decide) dL_law_421)
  (okC (ok_iadd X dL_law_422)
  (okC (ok_iald X dL_law_423)
  (okC (ok_aldn X rfl dL_law_424)
  (okC (ok_ildn X rfl dL_law_425)
  (okC (ok_ic X (by decide) dL_law_426)
  (okC (ok_iadd X dL_law_427)
  (okC (ok_iald X dL_law_428)
  (okC (ok_calV X (i := 43) (e := en_58) rfl mt_58 rfl rfl rfl tw_405 tw_406 (Or.inl ⟨_, _, rfl⟩) tw_407 dL_law_429)
  (okC (ok_aldn X rfl dL_law_432)
  (okC (ok_aldn X rfl dL_law_433)
  (okC (ok_ildn X rfl dL_law_434)
  (okC (ok_ic X (by decide) dL_law_435)
  (okC (ok_iadd X dL_law_436)
  (okC (ok_iald X dL_law_437)
  (okC (ok_aldn X rfl dL_law_438)
  (okC (ok_ildn X rfl dL_law_439)
  (okC (ok_ic X (by decide) dL_law_440)
  (okC (ok_iadd X dL_law_441)
  (okC (ok_iald X dL_law_442)
  (okC (ok_calV X (i := 46) (e := en_150) rfl mt_150 rfl rfl rfl tw_998 tw_999 (Or.inl ⟨_, _, rfl⟩) tw_1000 dL_law_443)
  (okN)))))))))))))))))))))))), ok_cmeq X (by decide) rfl dL_law_446⟩
set_option maxRecDepth 20000 in
theorem ob_L_law_16 {x : ip_Cx} {G : ip_Gl} {d : Nat} (X : ip_X x G tb 4 d 600000 7302250 RL code) (hr : x.2.2.2.2.2.2.2.2.1.sig.returnType = some .boolean) (hnm : x.2.2.2.2.2.2.2.2.1.name = "law") : ip_okB x G 4 pc_L_law 449 ([oI (0)], tRI .boolean 600000 7302250) := ⟨_, okC (ok_ic X (by decide) dL_law_449)
  (okN), ok_ret X hr dL_law_450⟩
set_option maxRecDepth 20000 in
theorem ob_L_law_17 {x : ip_Cx} {G : ip_Gl} {d : Nat} (X : ip_X x G tb 4 d 600000 7302250 RL code) (hr : x.2.2.2.2.2.2.2.2.1.sig.returnType = some .boolean) (hnm : x.2.2.2.2.2.2.2.2.1.name = "law") : ip_okB x G 4 pc_L_law 451 ([oLdA 1, oLdA 0, oLdI 3, oI (1), oBI (fun a b => a + b), oAldI, oLdA 0, oLdI 3, oI (2), oBI (fun a b => a + b), oAldI, oCaV (ip_call tb d) 600000 7302250 5 59 3 0 0, oLdA 2, oLdA 0, oLdI 3, oI (1), oBI (fun a b => a + b), oAldI, oLdA 0, oLdI 3, oI (2), oBI (fun a b => a + b), oAldI, oCaV (ip_call tb d) 600000 7302250 6 155 3 0 0], tCm (fun a b => a = b) 89 18) := ⟨_, okC (ok_aldn X rfl dL_law_451)
  (okC (ok_aldn X rfl dL_law_452)
  (okC (ok_ildn X rfl dL_law_453)
  (okC (ok_ic X (by decide) dL_law_454)
  (okC (ok_iadd X dL_law_455)
  (okC (ok_iald X dL_law_456)
  (okC (ok_aldn X rfl dL_law_457)
  (okC (ok_ildn X rfl dL_law_458)
  (okC (ok_ic X (by decide) dL_law_459)
  (okC (ok_iadd X dL_law_460)
  (okC (ok_iald X dL_law_461)
  (okC (ok_calV X (i := 47) (e := en_59) rfl mt_59 rfl rfl rfl tw_413 tw_414 (Or.inl ⟨_, _, rfl⟩) tw_415 dL_law_462)
  (okC (ok_aldn X rfl dL_law_465)
  (okC (ok_aldn X rfl dL_law_466)
  (okC (ok_ildn X rfl dL_law_467)
  (okC (ok_ic X (by decide) dL_law_468)
  (okC (ok_iadd X dL_law_469)
  (okC (ok_iald X dL_law_470)
  (okC (ok_aldn X rfl dL_law_471)
  (okC (ok_ildn X rfl dL_law_472)
  (okC (ok_ic X (by decide) dL_law_473)
  (okC (ok_iadd X dL_law_474)
  (okC (ok_iald X dL_law_475)
  (okC (ok_calV X (i := 50) (e := en_155) rfl mt_155 rfl rfl rfl tw_1010 tw_1011 (Or.inl ⟨_, _, rfl⟩) tw_1012 dL_law_476)
  (okN)))))))))))))))))))))))), ok_cmeq X (by decide) rfl dL_law_479⟩
set_option maxRecDepth 20000 in
theorem ob_L_law_18 {x : ip_Cx} {G : ip_Gl} {d : Nat} (X : ip_X x G tb 4 d 600000 7302250 RL code) (hr : x.2.2.2.2.2.2.2.2.1.sig.returnType = some .boolean) (hnm : x.2.2.2.2.2.2.2.2.1.name = "law") : ip_okB x G 4 pc_L_law 482 ([oI (0)], tRI .boolean 600000 7302250) := ⟨_, okC (ok_ic X (by decide) dL_law_482)
  (okN), ok_ret X hr dL_law_483⟩
set_option maxRecDepth 20000 in
theorem ob_L_law_19 {x : ip_Cx} {G : ip_Gl} {d : Nat} (X : ip_X x G tb 4 d 600000 7302250 RL code) (hr : x.2.2.2.2.2.2.2.2.1.sig.returnType = some .boolean) (hnm : x.2.2.2.2.2.2.2.2.1.name = "law") : ip_okB x G 4 pc_L_law 484 ([oLdA 1, oLdA 0, oLdI 3, oI (1), oBI (fun a b => a + b), oAldI, oLdA 0, oLdI 3, oI (2), oBI (fun a b => a + b), oAldI, oLdA 0, oLdI 3, oI (3), oBI (fun a b => a + b), oAldI, oCaV (ip_call tb d) 600000 7302250 5 60 4 0 0, oLdA 2, oLdA 0, oLdI 3, oI (1), oBI (fun a b => a + b), oAldI, oLdA 0, oLdI 3, oI (2), oBI (fun a b => a + b), oAldI, oLdA 0, oLdI 3, oI (3), oBI (fun a b => a + b), oAldI, oCaV (ip_call tb d) 600000 7302250 6 156 4 0 0], tCm (fun a b => a = b) 89 20) := ⟨_, okC (ok_aldn X rfl dL_law_484)
  (okC (ok_aldn X rfl dL_law_485)
  (okC (ok_ildn X rfl dL_law_486)
  (okC (ok_ic X (by decide) dL_law_487)
  (okC (ok_iadd X dL_law_488)
  (okC (ok_iald X dL_law_489)
  (okC (ok_aldn X rfl dL_law_490)
  (okC (ok_ildn X rfl dL_law_491)
  (okC (ok_ic X (by decide) dL_law_492)
  (okC (ok_iadd X dL_law_493)
  (okC (ok_iald X dL_law_494)
  (okC (ok_aldn X rfl dL_law_495)
  (okC (ok_ildn X rfl dL_law_496)
  (okC (ok_ic X (by decide) dL_law_497)
  (okC (ok_iadd X dL_law_498)
  (okC (ok_iald X dL_law_499)
  (okC (ok_calV X (i := 51) (e := en_60) rfl mt_60 rfl rfl rfl tw_466 tw_467 (Or.inl ⟨_, _, rfl⟩) tw_468 dL_law_500)
  (okC (ok_aldn X rfl dL_law_503)
  (okC (ok_aldn X rfl dL_law_504)
  (okC (ok_ildn X rfl dL_law_505)
  (okC (ok_ic X (by decide) dL_law_506)
  (okC (ok_iadd X dL_law_507)
  (okC (ok_iald X dL_law_508)
  (okC (ok_aldn X rfl dL_law_509)
  (okC (ok_ildn X rfl dL_law_510)
  (okC (ok_ic X (by decide) dL_law_511)
  (okC (ok_iadd X dL_law_512)
  (okC (ok_iald X dL_law_513)
  (okC (ok_aldn X rfl dL_law_514)
  (okC (ok_ildn X rfl dL_law_515)
  (okC (ok_ic X (by decide) dL_law_516)
  (okC (ok_iadd X dL_law_517)
  (okC (ok_iald X dL_law_518)
  (okC (ok_calV X (i := 55) (e := en_156) rfl mt_156 rfl rfl rfl tw_1033 tw_1034 (Or.inl ⟨_, _, rfl⟩) tw_1035 dL_law_519)
  (okN)))))))))))))))))))))))))))))))))), ok_cmeq X (by decide) rfl dL_law_522⟩
set_option maxRecDepth 20000 in
theorem ob_L_law_20 {x : ip_Cx} {G : ip_Gl} {d : Nat} (X : ip_X x G tb 4 d 600000 7302250 RL code) (hr : x.2.2.2.2.2.2.2.2.1.sig.returnType = some .boolean) (hnm : x.2.2.2.2.2.2.2.2.1.name = "law") : ip_okB x G 4 pc_L_law 525 ([oI (0)], tRI .boolean 600000 7302250) := ⟨_, okC (ok_ic X (by decide) dL_law_525)
  (okN), ok_ret X hr dL_law_526⟩
set_option maxRecDepth 20000 in
theorem ob_L_law_21 {x : ip_Cx} {G : ip_Gl} {d : Nat} (X : ip_X x G tb 4 d 600000 7302250 RL code) (hr : x.2.2.2.2.2.2.2.2.1.sig.returnType = some .boolean) (hnm : x.2.2.2.2.2.2.2.2.1.name = "law") : ip_okB x G 4 pc_L_law 527 ([oLdA 1, oLdA 0, oLdI 3, oI (1), oBI (fun a b => a + b), oAldI, oLdA 0, oLdI 3, oI (2), oBI (fun a b => a + b), oAldI, oLdA 0, oLdI 3, oI (3), oBI (fun a b => a + b), oAldI, oCaV (ip_call tb d) 600000 7302250 5 61 4 0 0, oLdA 2, oLdA 0, oLdI 3, oI (1), oBI (fun a b => a + b), oAldI, oLdA 0, oLdI 3, oI (2), oBI (fun a b => a + b), oAldI, oLdA 0, oLdI 3, oI (3), oBI (fun a b => a + b), oAldI, oCaV (ip_call tb d) 600000 7302250 6 157 4 0 0], tCm (fun a b => a = b) 89 22) := ⟨_, okC (ok_aldn X rfl dL_law_527)
  (okC (ok_aldn X rfl dL_law_528)
  (okC (ok_ildn X rfl dL_law_529)
  (okC (ok_ic X (by decide) dL_law_530)
  (okC (ok_iadd X dL_law_531)
  (okC (ok_iald X dL_law_532)
  (okC (ok_aldn X rfl dL_law_533)
  (okC (ok_ildn X rfl dL_law_534)
  (okC (ok_ic X (by decide) dL_law_535)
  (okC (ok_iadd X dL_law_536)
  (okC (ok_iald X dL_law_537)
  (okC (ok_aldn X rfl dL_law_538)
  (okC (ok_ildn X rfl dL_law_539)
  (okC (ok_ic X (by decide) dL_law_540)
  (okC (ok_iadd X dL_law_541)
  (okC (ok_iald X dL_law_542)
  (okC (ok_calV X (i := 56) (e := en_61) rfl mt_61 rfl rfl rfl tw_470 tw_471 (Or.inl ⟨_, _, rfl⟩) tw_472 dL_law_543)
  (okC (ok_aldn X rfl dL_law_546)
  (okC (ok_aldn X rfl dL_law_547)
  (okC (ok_ildn X rfl dL_law_548)
  (okC (ok_ic X (by decide) dL_law_549)
  (okC (ok_iadd X dL_law_550)
  (okC (ok_iald X dL_law_551)
  (okC (ok_aldn X rfl dL_law_552)
  (okC (ok_ildn X rfl dL_law_553)
  (okC (ok_ic X (by decide) dL_law_554)
  (okC (ok_iadd X dL_law_555)
  (okC (ok_iald X dL_law_556)
  (okC (ok_aldn X rfl dL_law_557)
  (okC (ok_ildn X rfl dL_law_558)
  (okC (ok_ic X (by decide) dL_law_559)
  (okC (ok_iadd X dL_law_560)
  (okC (ok_iald X dL_law_561)
  (okC (ok_calV X (i := 59) (e := en_157) rfl mt_157 rfl rfl rfl tw_1037 tw_1038 (Or.inl ⟨_, _, rfl⟩) tw_1039 dL_law_562)
  (okN)))))))))))))))))))))))))))))))))), ok_cmeq X (by decide) rfl dL_law_565⟩
set_option maxRecDepth 20000 in
theorem ob_L_law_22 {x : ip_Cx} {G : ip_Gl} {d : Nat} (X : ip_X x G tb 4 d 600000 7302250 RL code) (hr : x.2.2.2.2.2.2.2.2.1.sig.returnType = some .boolean) (hnm : x.2.2.2.2.2.2.2.2.1.name = "law") : ip_okB x G 4 pc_L_law 568 ([oI (0)], tRI .boolean 600000 7302250) := ⟨_, okC (ok_ic X (by decide) dL_law_568)
  (okN), ok_ret X hr dL_law_569⟩
set_option maxRecDepth 20000 in
theorem ob_L_law_23 {x : ip_Cx} {G : ip_Gl} {d : Nat} (X : ip_X x G tb 4 d 600000 7302250 RL code) (hr : x.2.2.2.2.2.2.2.2.1.sig.returnType = some .boolean) (hnm : x.2.2.2.2.2.2.2.2.1.name = "law") : ip_okB x G 4 pc_L_law 570 ([oLdA 1, oLdA 0, oLdI 3, oI (1), oBI (fun a b => a + b), oAldI, oLdA 0, oLdI 3, oI (2), oBI (fun a b => a + b), oAldI, oCaV (ip_call tb d) 600000 7302250 5 62 3 0 0, oLdA 2, oLdA 0, oLdI 3, oI (1), oBI (fun a b => a + b), oAldI, oLdA 0, oLdI 3, oI (2), oBI (fun a b => a + b), oAldI, oCaV (ip_call tb d) 600000 7302250 6 158 3 0 0], tCm (fun a b => a = b) 89 24) := ⟨_, okC (ok_aldn X rfl dL_law_570)
  (okC (ok_aldn X rfl dL_law_571)
  (okC (ok_ildn X rfl dL_law_572)
  (okC (ok_ic X (by decide) dL_law_573)
  (okC (ok_iadd X dL_law_574)
  (okC (ok_iald X dL_law_575)
  (okC (ok_aldn X rfl dL_law_576)
  (okC (ok_ildn X rfl dL_law_577)
  (okC (ok_ic X (by decide) dL_law_578)
  (okC (ok_iadd X dL_law_579)
  (okC (ok_iald X dL_law_580)
  (okC (ok_calV X (i := 60) (e := en_62) rfl mt_62 rfl rfl rfl tw_478 tw_479 (Or.inl ⟨_, _, rfl⟩) tw_480 dL_law_581)
  (okC (ok_aldn X rfl dL_law_584)
  (okC (ok_aldn X rfl dL_law_585)
  (okC (ok_ildn X rfl dL_law_586)
  (okC (ok_ic X (by decide) dL_law_587)
  (okC (ok_iadd X dL_law_588)
  (okC (ok_iald X dL_law_589)
  (okC (ok_aldn X rfl dL_law_590)
  (okC (ok_ildn X rfl dL_law_591)
  (okC (ok_ic X (by decide) dL_law_592)
  (okC (ok_iadd X dL_law_593)
  (okC (ok_iald X dL_law_594)
  (okC (ok_calV X (i := 63) (e := en_158) rfl mt_158 rfl rfl rfl tw_1041 tw_1042 (Or.inl ⟨_, _, rfl⟩) tw_1043 dL_law_595)
  (okN)))))))))))))))))))))))), ok_cmeq X (by decide) rfl dL_law_598⟩
set_option maxRecDepth 20000 in
theorem ob_L_law_24 {x : ip_Cx} {G : ip_Gl} {d : Nat} (X : ip_X x G tb 4 d 600000 7302250 RL code) (hr : x.2.2.2.2.2.2.2.2.1.sig.returnType = some .boolean) (hnm : x.2.2.2.2.2.2.2.2.1.name = "law") : ip_okB x G 4 pc_L_law 601 ([oI (0)], tRI .boolean 600000 7302250) := ⟨_, okC (ok_ic X (by decide) dL_law_601)
  (okN), ok_ret X hr dL_law_602⟩
set_option maxRecDepth 20000 in
theorem ob_L_law_25 {x : ip_Cx} {G : ip_Gl} {d : Nat} (X : ip_X x G tb 4 d 600000 7302250 RL code) (hr : x.2.2.2.2.2.2.2.2.1.sig.returnType = some .boolean) (hnm : x.2.2.2.2.2.2.2.2.1.name = "law") : ip_okB x G 4 pc_L_law 603 ([oLdA 1, oLdA 0, oLdI 3, oI (1), oBI (fun a b => a + b), oAldI, oCaV (ip_call tb d) 600000 7302250 5 63 2 0 0, oLdA 2, oLdA 0, oLdI 3, oI (1), oBI (fun a b => a + b), oAldI, oCaV (ip_call tb d) 600000 7302250 6 165 2 0 0], tCm (fun a b => a = b) 89 26) := ⟨_, okC (ok_aldn X rfl dL_law_603)
  (okC (ok_aldn X rfl dL_law_604)
  (okC (ok_ildn X rfl dL_law_605)
  (okC (ok_ic X (by decide) dL_law_606)
  (okC (ok_iadd X dL_law_607)
  (okC (ok_iald X dL_law_608)
  (okC (ok_calV X (i := 64) (e := en_63) rfl mt_63 rfl rfl rfl tw_482 tw_483 (Or.inl ⟨_, _, rfl⟩) tw_484 dL_law_609)
  (okC (ok_aldn X rfl dL_law_612)
  (okC (ok_aldn X rfl dL_law_613)
  (okC (ok_ildn X rfl dL_law_614)
  (okC (ok_ic X (by decide) dL_law_615)
  (okC (ok_iadd X dL_law_616)
  (okC (ok_iald X dL_law_617)
  (okC (ok_calV X (i := 67) (e := en_165) rfl mt_165 rfl rfl rfl tw_1045 tw_1046 (Or.inl ⟨_, _, rfl⟩) tw_1047 dL_law_618)
  (okN)))))))))))))), ok_cmeq X (by decide) rfl dL_law_621⟩
set_option maxRecDepth 20000 in
theorem ob_L_law_26 {x : ip_Cx} {G : ip_Gl} {d : Nat} (X : ip_X x G tb 4 d 600000 7302250 RL code) (hr : x.2.2.2.2.2.2.2.2.1.sig.returnType = some .boolean) (hnm : x.2.2.2.2.2.2.2.2.1.name = "law") : ip_okB x G 4 pc_L_law 624 ([oI (0)], tRI .boolean 600000 7302250) := ⟨_, okC (ok_ic X (by decide) dL_law_624)
  (okN), ok_ret X hr dL_law_625⟩
set_option maxRecDepth 20000 in
theorem ob_L_law_27 {x : ip_Cx} {G : ip_Gl} {d : Nat} (X : ip_X x G tb 4 d 600000 7302250 RL code) (hr : x.2.2.2.2.2.2.2.2.1.sig.returnType = some .boolean) (hnm : x.2.2.2.2.2.2.2.2.1.name = "law") : ip_okB x G 4 pc_L_law 626 ([oLdA 1, oLdA 0, oLdI 3, oI (1), oBI (fun a b => a + b), oAldI, oCaV (ip_call tb d) 600000 7302250 5 64 2 0 0, oLdA 2, oLdA 0, oLdI 3, oI (1), oBI (fun a b => a + b), oAldI, oCaV (ip_call tb d) 600000 7302250 6 167 2 0 0], tCm (fun a b => a = b) 89 28) := ⟨_, okC (ok_aldn X rfl dL_law_626)
  (okC (ok_aldn X rfl dL_law_627)
  (okC (ok_ildn X rfl dL_law_628)
  (okC (ok_ic X (by decide) dL_law_629)
  (okC (ok_iadd X dL_law_630)
  (okC (ok_iald X dL_law_631)
  (okC (ok_calV X (i := 68) (e := en_64) rfl mt_64 rfl rfl rfl tw_513 tw_514 (Or.inl ⟨_, _, rfl⟩) tw_515 dL_law_632)
  (okC (ok_aldn X rfl dL_law_635)
  (okC (ok_aldn X rfl dL_law_636)
  (okC (ok_ildn X rfl dL_law_637)
  (okC (ok_ic X (by decide) dL_law_638)
  (okC (ok_iadd X dL_law_639)
  (okC (ok_iald X dL_law_640)
  (okC (ok_calV X (i := 71) (e := en_167) rfl mt_167 rfl rfl rfl tw_1072 tw_1073 (Or.inl ⟨_, _, rfl⟩) tw_1074 dL_law_641)
  (okN)))))))))))))), ok_cmeq X (by decide) rfl dL_law_644⟩
set_option maxRecDepth 20000 in
theorem ob_L_law_28 {x : ip_Cx} {G : ip_Gl} {d : Nat} (X : ip_X x G tb 4 d 600000 7302250 RL code) (hr : x.2.2.2.2.2.2.2.2.1.sig.returnType = some .boolean) (hnm : x.2.2.2.2.2.2.2.2.1.name = "law") : ip_okB x G 4 pc_L_law 647 ([oI (0)], tRI .boolean 600000 7302250) := ⟨_, okC (ok_ic X (by decide) dL_law_647)
  (okN), ok_ret X hr dL_law_648⟩
set_option maxRecDepth 20000 in
theorem ob_L_law_29 {x : ip_Cx} {G : ip_Gl} {d : Nat} (X : ip_X x G tb 4 d 600000 7302250 RL code) (hr : x.2.2.2.2.2.2.2.2.1.sig.returnType = some .boolean) (hnm : x.2.2.2.2.2.2.2.2.1.name = "law") : ip_okB x G 4 pc_L_law 649 ([oLdA 1, oCaV (ip_call tb d) 600000 7302250 5 65 1 0 0, oLdA 2, oCaV (ip_call tb d) 600000 7302250 6 169 1 0 0], tCm (fun a b => a = b) 89 30) := ⟨_, okC (ok_aldn X rfl dL_law_649)
  (okC (ok_calV X (i := 72) (e := en_65) rfl mt_65 rfl rfl rfl tw_517 tw_518 (Or.inl ⟨_, _, rfl⟩) tw_519 dL_law_650)
  (okC (ok_aldn X rfl dL_law_653)
  (okC (ok_calV X (i := 75) (e := en_169) rfl mt_169 rfl rfl rfl tw_1076 tw_1077 (Or.inl ⟨_, _, rfl⟩) tw_1078 dL_law_654)
  (okN)))), ok_cmeq X (by decide) rfl dL_law_657⟩
set_option maxRecDepth 20000 in
theorem ob_L_law_30 {x : ip_Cx} {G : ip_Gl} {d : Nat} (X : ip_X x G tb 4 d 600000 7302250 RL code) (hr : x.2.2.2.2.2.2.2.2.1.sig.returnType = some .boolean) (hnm : x.2.2.2.2.2.2.2.2.1.name = "law") : ip_okB x G 4 pc_L_law 660 ([oI (0)], tRI .boolean 600000 7302250) := ⟨_, okC (ok_ic X (by decide) dL_law_660)
  (okN), ok_ret X hr dL_law_661⟩
set_option maxRecDepth 20000 in
theorem ob_L_law_31 {x : ip_Cx} {G : ip_Gl} {d : Nat} (X : ip_X x G tb 4 d 600000 7302250 RL code) (hr : x.2.2.2.2.2.2.2.2.1.sig.returnType = some .boolean) (hnm : x.2.2.2.2.2.2.2.2.1.name = "law") : ip_okB x G 4 pc_L_law 662 ([oLdA 1, oLdA 0, oLdI 3, oI (1), oBI (fun a b => a + b), oAldI, oCaV (ip_call tb d) 600000 7302250 5 66 2 0 0, oLdA 2, oLdA 0, oLdI 3, oI (1), oBI (fun a b => a + b), oAldI, oCaV (ip_call tb d) 600000 7302250 6 170 2 0 0], tCm (fun a b => a = b) 89 32) := ⟨_, okC (ok_aldn X rfl dL_law_662)
  (okC (ok_aldn X rfl dL_law_663)
  (okC (ok_ildn X rfl dL_law_664)
  (okC (ok_ic X (by decide) dL_law_665)
  (okC (ok_iadd X dL_law_666)
  (okC (ok_iald X dL_law_667)
  (okC (ok_calV X (i := 76) (e := en_66) rfl mt_66 rfl rfl rfl tw_531 tw_532 (Or.inl ⟨_, _, rfl⟩) tw_533 dL_law_668)
  (okC (ok_aldn X rfl dL_law_671)
  (okC (ok_aldn X rfl dL_law_672)
  (okC (ok_ildn X rfl dL_law_673)
  (okC (ok_ic X (by decide) dL_law_674)
  (okC (ok_iadd X dL_law_675)
  (okC (ok_iald X dL_law_676)
  (okC (ok_calV X (i := 79) (e := en_170) rfl mt_170 rfl rfl rfl tw_1089 tw_1090 (Or.inl ⟨_, _, rfl⟩) tw_1091 dL_law_677)
  (okN)))))))))))))), ok_cmeq X (by decide) rfl dL_law_680⟩
set_option maxRecDepth 20000 in
theorem ob_L_law_32 {x : ip_Cx} {G : ip_Gl} {d : Nat} (X : ip_X x G tb 4 d 600000 7302250 RL code) (hr : x.2.2.2.2.2.2.2.2.1.sig.returnType = some .boolean) (hnm : x.2.2.2.2.2.2.2.2.1.name = "law") : ip_okB x G 4 pc_L_law 683 ([oI (0)], tRI .boolean 600000 7302250) := ⟨_, okC (ok_ic X (by decide) dL_law_683)
  (okN), ok_ret X hr dL_law_684⟩
set_option maxRecDepth 20000 in
theorem ob_L_law_33 {x : ip_Cx} {G : ip_Gl} {d : Nat} (X : ip_X x G tb 4 d 600000 7302250 RL code) (hr : x.2.2.2.2.2.2.2.2.1.sig.returnType = some .boolean) (hnm : x.2.2.2.2.2.2.2.2.1.name = "law") : ip_okB x G 4 pc_L_law 685 ([oLdA 1, oLdA 0, oLdI 3, oI (1), oBI (fun a b => a + b), oAldI, oCaV (ip_call tb d) 600000 7302250 5 67 2 0 0, oLdA 2, oLdA 0, oLdI 3, oI (1), oBI (fun a b => a + b), oAldI, oCaV (ip_call tb d) 600000 7302250 6 176 2 0 0], tCm (fun a b => a = b) 89 34) := ⟨_, okC (ok_aldn X rfl dL_law_685)
  (okC (ok_aldn X rfl dL_law_686)
  (okC (ok_ildn X rfl dL_law_687)
  (okC (ok_ic X (by decide) dL_law_688)
  (okC (ok_iadd X dL_law_689)
  (okC (ok_iald X dL_law_690)
  (okC (ok_calV X (i := 80) (e := en_67) rfl mt_67 rfl rfl rfl tw_535 tw_536 (Or.inl ⟨_, _, rfl⟩) tw_537 dL_law_691)
  (okC (ok_aldn X rfl dL_law_694)
  (okC (ok_aldn X rfl dL_law_695)
  (okC (ok_ildn X rfl dL_law_696)
  (okC (ok_ic X (by decide) dL_law_697)
  (okC (ok_iadd X dL_law_698)
  (okC (ok_iald X dL_law_699)
  (okC (ok_calV X (i := 83) (e := en_176) rfl mt_176 rfl rfl rfl tw_1097 tw_1098 (Or.inl ⟨_, _, rfl⟩) tw_1099 dL_law_700)
  (okN)))))))))))))), ok_cmeq X (by decide) rfl dL_law_703⟩
set_option maxRecDepth 20000 in
theorem ob_L_law_34 {x : ip_Cx} {G : ip_Gl} {d : Nat} (X : ip_X x G tb 4 d 600000 7302250 RL code) (hr : x.2.2.2.2.2.2.2.2.1.sig.returnType = some .boolean) (hnm : x.2.2.2.2.2.2.2.2.1.name = "law") : ip_okB x G 4 pc_L_law 706 ([oI (0)], tRI .boolean 600000 7302250) := ⟨_, okC (ok_ic X (by decide) dL_law_706)
  (okN), ok_ret X hr dL_law_707⟩
set_option maxRecDepth 20000 in
theorem ob_L_law_35 {x : ip_Cx} {G : ip_Gl} {d : Nat} (X : ip_X x G tb 4 d 600000 7302250 RL code) (hr : x.2.2.2.2.2.2.2.2.1.sig.returnType = some .boolean) (hnm : x.2.2.2.2.2.2.2.2.1.name = "law") : ip_okB x G 4 pc_L_law 708 ([oLdA 1, oLdA 0, oLdI 3, oI (1), oBI (fun a b => a + b), oAldI, oLdA 0, oLdI 3, oI (2), oBI (fun a b => a + b), oAldI, oCaV (ip_call tb d) 600000 7302250 5 68 3 0 0, oLdA 2, oLdA 0, oLdI 3, oI (1), oBI (fun a b => a + b), oAldI, oLdA 0, oLdI 3, oI (2), oBI (fun a b => a + b), oAldI, oCaV (ip_call tb d) 600000 7302250 6 179 3 0 0], tCm (fun a b => a = b) 89 36) := ⟨_, okC (ok_aldn X rfl dL_law_708)
  (okC (ok_aldn X rfl dL_law_709)
  (okC (ok_ildn X rfl dL_law_710)
  (okC (ok_ic X (by decide) dL_law_711)
  (okC (ok_iadd X dL_law_712)
  (okC (ok_iald X dL_law_713)
  (okC (ok_aldn X rfl dL_law_714)
  (okC (ok_ildn X rfl dL_law_715)
  (okC (ok_ic X (by decide) dL_law_716)
  (okC (ok_iadd X dL_law_717)
  (okC (ok_iald X dL_law_718)
  (okC (ok_calV X (i := 84) (e := en_68) rfl mt_68 rfl rfl rfl tw_551 tw_552 (Or.inl ⟨_, _, rfl⟩) tw_553 dL_law_719)
  (okC (ok_aldn X rfl dL_law_722)
  (okC (ok_aldn X rfl dL_law_723)
  (okC (ok_ildn X rfl dL_law_724)
  (okC (ok_ic X (by decide) dL_law_725)
  (okC (ok_iadd X dL_law_726)
  (okC (ok_iald X dL_law_727)
  (okC (ok_aldn X rfl dL_law_728)
  (okC (ok_ildn X rfl dL_law_729)
  (okC (ok_ic X (by decide) dL_law_730)
  (okC (ok_iadd X dL_law_731)
  (okC (ok_iald X dL_law_732)
  (okC (ok_calV X (i := 87) (e := en_179) rfl mt_179 rfl rfl rfl tw_1117 tw_1118 (Or.inl ⟨_, _, rfl⟩) tw_1119 dL_law_733)
  (okN)))))))))))))))))))))))), ok_cmeq X (by decide) rfl dL_law_736⟩
set_option maxRecDepth 20000 in
theorem ob_L_law_36 {x : ip_Cx} {G : ip_Gl} {d : Nat} (X : ip_X x G tb 4 d 600000 7302250 RL code) (hr : x.2.2.2.2.2.2.2.2.1.sig.returnType = some .boolean) (hnm : x.2.2.2.2.2.2.2.2.1.name = "law") : ip_okB x G 4 pc_L_law 739 ([oI (0)], tRI .boolean 600000 7302250) := ⟨_, okC (ok_ic X (by decide) dL_law_739)
  (okN), ok_ret X hr dL_law_740⟩
set_option maxRecDepth 20000 in
theorem ob_L_law_37 {x : ip_Cx} {G : ip_Gl} {d : Nat} (X : ip_X x G tb 4 d 600000 7302250 RL code) (hr : x.2.2.2.2.2.2.2.2.1.sig.returnType = some .boolean) (hnm : x.2.2.2.2.2.2.2.2.1.name = "law") : ip_okB x G 4 pc_L_law 741 ([oLdA 1, oLdA 0, oLdI 3, oI (1), oBI (fun a b => a + b), oAldI, oCaV (ip_call tb d) 600000 7302250 5 69 2 0 0, oLdA 2, oLdA 0, oLdI 3, oI (1), oBI (fun a b => a + b), oAldI, oCaV (ip_call tb d) 600000 7302250 6 180 2 0 0], tCm (fun a b => a = b) 89 38) := ⟨_, okC (ok_aldn X rfl dL_law_741)
  (okC (ok_aldn X rfl dL_law_742)
  (okC (ok_ildn X rfl dL_law_743)
  (okC (ok_ic X (by decide) dL_law_744)
  (okC (ok_iadd X dL_law_745)
  (okC (ok_iald X dL_law_746)
  (okC (ok_calV X (i := 88) (e := en_69) rfl mt_69 rfl rfl rfl tw_560 tw_561 (Or.inl ⟨_, _, rfl⟩) tw_562 dL_law_747)
  (okC (ok_aldn X rfl dL_law_750)
  (okC (ok_aldn X rfl dL_law_751)
  (okC (ok_ildn X rfl dL_law_752)
  (okC (ok_ic X (by decide) dL_law_753)
  (okC (ok_iadd X dL_law_754)
  (okC (ok_iald X dL_law_755)
  (okC (ok_calV X (i := 91) (e := en_180) rfl mt_180 rfl rfl rfl tw_1129 tw_1130 (Or.inl ⟨_, _, rfl⟩) tw_1131 dL_law_756)
  (okN)))))))))))))), ok_cmeq X (by decide) rfl dL_law_759⟩
set_option maxRecDepth 20000 in
theorem ob_L_law_38 {x : ip_Cx} {G : ip_Gl} {d : Nat} (X : ip_X x G tb 4 d 600000 7302250 RL code) (hr : x.2.2.2.2.2.2.2.2.1.sig.returnType = some .boolean) (hnm : x.2.2.2.2.2.2.2.2.1.name = "law") : ip_okB x G 4 pc_L_law 762 ([oI (0)], tRI .boolean 600000 7302250) := ⟨_, okC (ok_ic X (by decide) dL_law_762)
  (okN), ok_ret X hr dL_law_763⟩
set_option maxRecDepth 20000 in
theorem ob_L_law_39 {x : ip_Cx} {G : ip_Gl} {d : Nat} (X : ip_X x G tb 4 d 600000 7302250 RL code) (hr : x.2.2.2.2.2.2.2.2.1.sig.returnType = some .boolean) (hnm : x.2.2.2.2.2.2.2.2.1.name = "law") : ip_okB x G 4 pc_L_law 764 ([oLdA 1, oLdA 0, oLdI 3, oI (1), oBI (fun a b => a + b), oAldI, oCaV (ip_call tb d) 600000 7302250 5 70 2 0 0, oLdA 2, oLdA 0, oLdI 3, oI (1), oBI (fun a b => a + b), oAldI, oCaV (ip_call tb d) 600000 7302250 6 181 2 0 0], tCm (fun a b => a = b) 89 40) := ⟨_, okC (ok_aldn X rfl dL_law_764)
  (okC (ok_aldn X rfl dL_law_765)
  (okC (ok_ildn X rfl dL_law_766)
  (okC (ok_ic X (by decide) dL_law_767)
  (okC (ok_iadd X dL_law_768)
  (okC (ok_iald X dL_law_769)
  (okC (ok_calV X (i := 92) (e := en_70) rfl mt_70 rfl rfl rfl tw_571 tw_572 (Or.inl ⟨_, _, rfl⟩) tw_573 dL_law_770)
  (okC (ok_aldn X rfl dL_law_773)
  (okC (ok_aldn X rfl dL_law_774)
  (okC (ok_ildn X rfl dL_law_775)
  (okC (ok_ic X (by decide) dL_law_776)
  (okC (ok_iadd X dL_law_777)
  (okC (ok_iald X dL_law_778)
  (okC (ok_calV X (i := 95) (e := en_181) rfl mt_181 rfl rfl rfl tw_1133 tw_1134 (Or.inl ⟨_, _, rfl⟩) tw_1135 dL_law_779)
  (okN)))))))))))))), ok_cmeq X (by decide) rfl dL_law_782⟩
set_option maxRecDepth 20000 in
theorem ob_L_law_40 {x : ip_Cx} {G : ip_Gl} {d : Nat} (X : ip_X x G tb 4 d 600000 7302250 RL code) (hr : x.2.2.2.2.2.2.2.2.1.sig.returnType = some .boolean) (hnm : x.2.2.2.2.2.2.2.2.1.name = "law") : ip_okB x G 4 pc_L_law 785 ([oI (0)], tRI .boolean 600000 7302250) := ⟨_, okC (ok_ic X (by decide) dL_law_785)
  (okN), ok_ret X hr dL_law_786⟩
set_option maxRecDepth 20000 in
theorem ob_L_law_41 {x : ip_Cx} {G : ip_Gl} {d : Nat} (X : ip_X x G tb 4 d 600000 7302250 RL code) (hr : x.2.2.2.2.2.2.2.2.1.sig.returnType = some .boolean) (hnm : x.2.2.2.2.2.2.2.2.1.name = "law") : ip_okB x G 4 pc_L_law 787 ([oLdA 1, oCaV (ip_call tb d) 600000 7302250 5 71 1 0 0, oLdA 2, oCaV (ip_call tb d) 600000 7302250 6 182 1 0 0], tCm (fun a b => a = b) 89 42) := ⟨_, okC (ok_aldn X rfl dL_law_787)
  (okC (ok_calV X (i := 96) (e := en_71) rfl mt_71 rfl rfl rfl tw_575 tw_576 (Or.inl ⟨_, _, rfl⟩) tw_577 dL_law_788)
  (okC (ok_aldn X rfl dL_law_791)
  (okC (ok_calV X (i := 99) (e := en_182) rfl mt_182 rfl rfl rfl tw_1137 tw_1138 (Or.inl ⟨_, _, rfl⟩) tw_1139 dL_law_792)
  (okN)))), ok_cmeq X (by decide) rfl dL_law_795⟩
set_option maxRecDepth 20000 in
theorem ob_L_law_42 {x : ip_Cx} {G : ip_Gl} {d : Nat} (X : ip_X x G tb 4 d 600000 7302250 RL code) (hr : x.2.2.2.2.2.2.2.2.1.sig.returnType = some .boolean) (hnm : x.2.2.2.2.2.2.2.2.1.name = "law") : ip_okB x G 4 pc_L_law 798 ([oI (0)], tRI .boolean 600000 7302250) := ⟨_, okC (ok_ic X (by decide) dL_law_798)
  (okN), ok_ret X hr dL_law_799⟩
set_option maxRecDepth 20000 in
theorem ob_L_law_43 {x : ip_Cx} {G : ip_Gl} {d : Nat} (X : ip_X x G tb 4 d 600000 7302250 RL code) (hr : x.2.2.2.2.2.2.2.2.1.sig.returnType = some .boolean) (hnm : x.2.2.2.2.2.2.2.2.1.name = "law") : ip_okB x G 4 pc_L_law 800 ([oLdA 1, oLdA 0, oLdI 3, oI (1), oBI (fun a b => a + b), oAldI, oLdA 0, oLdI 3, oI (2), oBI (fun a b => a + b), oAldI, oCaV (ip_call tb d) 600000 7302250 5 72 3 0 0, oLdA 2, oLdA 0, oLdI 3, oI (1), oBI (fun a b => a + b), oAldI, oLdA 0, oLdI 3, oI (2), oBI (fun a b => a + b), oAldI, oCaV (ip_call tb d) 600000 7302250 6 184 3 0 0], tCm (fun a b => a = b) 89 44) := ⟨_, okC (ok_aldn X rfl dL_law_800)
  (okC (ok_aldn X rfl dL_law_801)
  (okC (ok_ildn X rfl dL_law_802)
  (okC (ok_ic X (by decide) dL_law_803)
  (okC (ok_iadd X dL_law_804)
  (okC (ok_iald X dL_law_805)
  (okC (ok_aldn X rfl dL_law_806)
  (okC (ok_ildn X rfl dL_law_807)
  (okC (ok_ic X (by decide) dL_law_808)
  (okC (ok_iadd X dL_law_809)
  (okC (ok_iald X dL_law_810)
  (okC (ok_calV X (i := 100) (e := en_72) rfl mt_72 rfl rfl rfl tw_580 tw_581 (Or.inl ⟨_, _, rfl⟩) tw_582 dL_law_811)
  (okC (ok_aldn X rfl dL_law_814)
  (okC (ok_aldn X rfl dL_law_815)
  (okC (ok_ildn X rfl dL_law_816)
  (okC (ok_ic X (by decide) dL_law_817)
  (okC (ok_iadd X dL_law_818)
  (okC (ok_iald X dL_law_819)
  (okC (ok_aldn X rfl dL_law_820)
  (okC (ok_ildn X rfl dL_law_821)
  (okC (ok_ic X (by decide) dL_law_822)
  (okC (ok_iadd X dL_law_823)
  (okC (ok_iald X dL_law_824)
  (okC (ok_calV X (i := 103) (e := en_184) rfl mt_184 rfl rfl rfl tw_1141 tw_1142 (Or.inl ⟨_, _, rfl⟩) tw_1143 dL_law_825)
  (okN)))))))))))))))))))))))), ok_cmeq X (by decide) rfl dL_law_828⟩
set_option maxRecDepth 20000 in
theorem ob_L_law_44 {x : ip_Cx} {G : ip_Gl} {d : Nat} (X : ip_X x G tb 4 d 600000 7302250 RL code) (hr : x.2.2.2.2.2.2.2.2.1.sig.returnType = some .boolean) (hnm : x.2.2.2.2.2.2.2.2.1.name = "law") : ip_okB x G 4 pc_L_law 831 ([oI (0)], tRI .boolean 600000 7302250) := ⟨_, okC (ok_ic X (by decide) dL_law_831)
  (okN), ok_ret X hr dL_law_832⟩
set_option maxRecDepth 20000 in
theorem ob_L_law_45 {x : ip_Cx} {G : ip_Gl} {d : Nat} (X : ip_X x G tb 4 d 600000 7302250 RL code) (hr : x.2.2.2.2.2.2.2.2.1.sig.returnType = some .boolean) (hnm : x.2.2.2.2.2.2.2.2.1.name = "law") : ip_okB x G 4 pc_L_law 833 ([oLdA 1, oLdA 0, oLdI 3, oI (1), oBI (fun a b => a + b), oAldI, oLdA 0, oLdI 3, oI (2), oBI (fun a b => a + b), oAldI, oCaV (ip_call tb d) 600000 7302250 5 73 3 0 0, oLdA 2, oLdA 0, oLdI 3, oI (1), oBI (fun a b => a + b), oAldI, oLdA 0, oLdI 3, oI (2), oBI (fun a b => a + b), oAldI, oCaV (ip_call tb d) 600000 7302250 6 185 3 0 0], tCm (fun a b => a = b) 89 46) := ⟨_, okC (ok_aldn X rfl dL_law_833)
  (okC (ok_aldn X rfl dL_law_834)
  (okC (ok_ildn X rfl dL_law_835)
  (okC (ok_ic X (by decide) dL_law_836)
  (okC (ok_iadd X dL_law_837)
  (okC (ok_iald X dL_law_838)
  (okC (ok_aldn X rfl dL_law_839)
  (okC (ok_ildn X rfl dL_law_840)
  (okC (ok_ic X (by decide) dL_law_841)
  (okC (ok_iadd X dL_law_842)
  (okC (ok_iald X dL_law_843)
  (okC (ok_calV X (i := 104) (e := en_73) rfl mt_73 rfl rfl rfl tw_604 tw_605 (Or.inl ⟨_, _, rfl⟩) tw_606 dL_law_844)
  (okC (ok_aldn X rfl dL_law_847)
  (okC (ok_aldn X rfl dL_law_848)
  (okC (ok_ildn X rfl dL_law_849)
  (okC (ok_ic X (by decide) dL_law_850)
  (okC (ok_iadd X dL_law_851)
  (okC (ok_iald X dL_law_852)
  (okC (ok_aldn X rfl dL_law_853)
  (okC (ok_ildn X rfl dL_law_854)
  (okC (ok_ic X (by decide) dL_law_855)
  (okC (ok_iadd X dL_law_856)
  (okC (ok_iald X dL_law_857)
  (okC (ok_calV X (i := 107) (e := en_185) rfl mt_185 rfl rfl rfl tw_1149 tw_1150 (Or.inl ⟨_, _, rfl⟩) tw_1151 dL_law_858)
  (okN)))))))))))))))))))))))), ok_cmeq X (by decide) rfl dL_law_861⟩
set_option maxRecDepth 20000 in
theorem ob_L_law_46 {x : ip_Cx} {G : ip_Gl} {d : Nat} (X : ip_X x G tb 4 d 600000 7302250 RL code) (hr : x.2.2.2.2.2.2.2.2.1.sig.returnType = some .boolean) (hnm : x.2.2.2.2.2.2.2.2.1.name = "law") : ip_okB x G 4 pc_L_law 864 ([oI (0)], tRI .boolean 600000 7302250) := ⟨_, okC (ok_ic X (by decide) dL_law_864)
  (okN), ok_ret X hr dL_law_865⟩
set_option maxRecDepth 20000 in
theorem ob_L_law_47 {x : ip_Cx} {G : ip_Gl} {d : Nat} (X : ip_X x G tb 4 d 600000 7302250 RL code) (hr : x.2.2.2.2.2.2.2.2.1.sig.returnType = some .boolean) (hnm : x.2.2.2.2.2.2.2.2.1.name = "law") : ip_okB x G 4 pc_L_law 866 ([oLdA 1, oLdA 0, oLdI 3, oI (1), oBI (fun a b => a + b), oAldI, oLdA 0, oLdI 3, oI (2), oBI (fun a b => a + b), oAldI, oCaV (ip_call tb d) 600000 7302250 5 74 3 0 0, oLdA 2, oLdA 0, oLdI 3, oI (1), oBI (fun a b => a + b), oAldI, oLdA 0, oLdI 3, oI (2), oBI (fun a b => a + b), oAldI, oCaV (ip_call tb d) 600000 7302250 6 186 3 0 0], tCm (fun a b => a = b) 89 48) := ⟨_, okC (ok_aldn X rfl dL_law_866)
  (okC (ok_aldn X rfl dL_law_867)
  (okC (ok_ildn X rfl dL_law_868)
  (okC (ok_ic X (by decide) dL_law_869)
  (okC (ok_iadd X dL_law_870)
  (okC (ok_iald X dL_law_871)
  (okC (ok_aldn X rfl dL_law_872)
  (okC (ok_ildn X rfl dL_law_873)
  (okC (ok_ic X (by decide) dL_law_874)
  (okC (ok_iadd X dL_law_875)
  (okC (ok_iald X dL_law_876)
  (okC (ok_calV X (i := 108) (e := en_74) rfl mt_74 rfl rfl rfl tw_608 tw_609 (Or.inl ⟨_, _, rfl⟩) tw_610 dL_law_877)
  (okC (ok_aldn X rfl dL_law_880)
  (okC (ok_aldn X rfl dL_law_881)
  (okC (ok_ildn X rfl dL_law_882)
  (okC (ok_ic X (by decide) dL_law_883)
  (okC (ok_iadd X dL_law_884)
  (okC (ok_iald X dL_law_885)
  (okC (ok_aldn X rfl dL_law_886)
  (okC (ok_ildn X rfl dL_law_887)
  (okC (ok_ic X (by decide) dL_law_888)
  (okC (ok_iadd X dL_law_889)
  (okC (ok_iald X dL_law_890)
  (okC (ok_calV X (i := 111) (e := en_186) rfl mt_186 rfl rfl rfl tw_1153 tw_1154 (Or.inl ⟨_, _, rfl⟩) tw_1155 dL_law_891)
  (okN)))))))))))))))))))))))), ok_cmeq X (by decide) rfl dL_law_894⟩
set_option maxRecDepth 20000 in
theorem ob_L_law_48 {x : ip_Cx} {G : ip_Gl} {d : Nat} (X : ip_X x G tb 4 d 600000 7302250 RL code) (hr : x.2.2.2.2.2.2.2.2.1.sig.returnType = some .boolean) (hnm : x.2.2.2.2.2.2.2.2.1.name = "law") : ip_okB x G 4 pc_L_law 897 ([oI (0)], tRI .boolean 600000 7302250) := ⟨_, okC (ok_ic X (by decide) dL_law_897)
  (okN), ok_ret X hr dL_law_898⟩
set_option maxRecDepth 20000 in
theorem ob_L_law_49 {x : ip_Cx} {G : ip_Gl} {d : Nat} (X : ip_X x G tb 4 d 600000 7302250 RL code) (hr : x.2.2.2.2.2.2.2.2.1.sig.returnType = some .boolean) (hnm : x.2.2.2.2.2.2.2.2.1.name = "law") : ip_okB x G 4 pc_L_law 899 ([oLdA 1, oLdA 0, oLdI 3, oI (1), oBI (fun a b => a + b), oAldI, oLdA 0, oLdI 3, oI (2), oBI (fun a b => a + b), oAldI, oCaV (ip_call tb d) 600000 7302250 5 75 3 0 0, oLdA 2, oLdA 0, oLdI 3, oI (1), oBI (fun a b => a + b), oAldI, oLdA 0, oLdI 3, oI (2), oBI (fun a b => a + b), oAldI, oCaV (ip_call tb d) 600000 7302250 6 187 3 0 0], tCm (fun a b => a = b) 89 50) := ⟨_, okC (ok_aldn X rfl dL_law_899)
  (okC (ok_aldn X rfl dL_law_900)
  (okC (ok_ildn X rfl dL_law_901)
  (okC (ok_ic X (by decide) dL_law_902)
  (okC (ok_iadd X dL_law_903)
  (okC (ok_iald X dL_law_904)
  (okC (ok_aldn X rfl dL_law_905)
  (okC (ok_ildn X rfl dL_law_906)
  (okC (ok_ic X (by decide) dL_law_907)
  (okC (ok_iadd X dL_law_908)
  (okC (ok_iald X dL_law_909)
  (okC (ok_calV X (i := 112) (e := en_75) rfl mt_75 rfl rfl rfl tw_612 tw_613 (Or.inl ⟨_, _, rfl⟩) tw_614 dL_law_910)
  (okC (ok_aldn X rfl dL_law_913)
  (okC (ok_aldn X rfl dL_law_914)
  (okC (ok_ildn X rfl dL_law_915)
  (okC (ok_ic X (by decide) dL_law_916)
  (okC (ok_iadd X dL_law_917)
  (okC (ok_iald X dL_law_918)
  (okC (ok_aldn X rfl dL_law_919)
  (okC (ok_ildn X rfl dL_law_920)
  (okC (ok_ic X (by decide) dL_law_921)
  (okC (ok_iadd X dL_law_922)
  (okC (ok_iald X dL_law_923)
  (okC (ok_calV X (i := 115) (e := en_187) rfl mt_187 rfl rfl rfl tw_1157 tw_1158 (Or.inl ⟨_, _, rfl⟩) tw_1159 dL_law_924)
  (okN)))))))))))))))))))))))), ok_cmeq X (by decide) rfl dL_law_927⟩
set_option maxRecDepth 20000 in
theorem ob_L_law_50 {x : ip_Cx} {G : ip_Gl} {d : Nat} (X : ip_X x G tb 4 d 600000 7302250 RL code) (hr : x.2.2.2.2.2.2.2.2.1.sig.returnType = some .boolean) (hnm : x.2.2.2.2.2.2.2.2.1.name = "law") : ip_okB x G 4 pc_L_law 930 ([oI (0)], tRI .boolean 600000 7302250) := ⟨_, okC (ok_ic X (by decide) dL_law_930)
  (okN), ok_ret X hr dL_law_931⟩
set_option maxRecDepth 20000 in
theorem ob_L_law_51 {x : ip_Cx} {G : ip_Gl} {d : Nat} (X : ip_X x G tb 4 d 600000 7302250 RL code) (hr : x.2.2.2.2.2.2.2.2.1.sig.returnType = some .boolean) (hnm : x.2.2.2.2.2.2.2.2.1.name = "law") : ip_okB x G 4 pc_L_law 932 ([oLdA 1, oLdA 0, oLdI 3, oI (1), oBI (fun a b => a + b), oAldI, oLdA 0, oLdI 3, oI (2), oBI (fun a b => a + b), oAldI, oLdA 0, oLdI 3, oI (3), oBI (fun a b => a + b), oAldI, oCaV (ip_call tb d) 600000 7302250 5 76 4 0 0, oLdA 2, oLdA 0, oLdI 3, oI (1), oBI (fun a b => a + b), oAldI, oLdA 0, oLdI 3, oI (2), oBI (fun a b => a + b), oAldI, oLdA 0, oLdI 3, oI (3), oBI (fun a b => a + b), oAldI, oCaV (ip_call tb d) 600000 7302250 6 188 4 0 0], tCm (fun a b => a = b) 89 52) := ⟨_, okC (ok_aldn X rfl dL_law_932)
  (okC (ok_aldn X rfl dL_law_933)
  (okC (ok_ildn X rfl dL_law_934)
  (okC (ok_ic X (by decide) dL_law_935)
  (okC (ok_iadd X dL_law_936)
  (okC (ok_iald X dL_law_937)
  (okC (ok_aldn X rfl dL_law_938)
  (okC (ok_ildn X rfl dL_law_939)
  (okC (ok_ic X (by decide) dL_law_940)
  (okC (ok_iadd X dL_law_941)
  (okC (ok_iald X dL_law_942)
  (okC (ok_aldn X rfl dL_law_943)
  (okC (ok_ildn X rfl dL_law_944)
  (okC (ok_ic X (by decide) dL_law_945)
  (okC (ok_iadd X dL_law_946)
  (okC (ok_iald X dL_law_947)
  (okC (ok_calV X (i := 116) (e := en_76) rfl mt_76 rfl rfl rfl tw_616 tw_617 (Or.inl ⟨_, _, rfl⟩) tw_618 dL_law_948)
  (okC (ok_aldn X rfl dL_law_951)
  (okC (ok_aldn X rfl dL_law_952)
  (okC (ok_ildn X rfl dL_law_953)
  (okC (ok_ic X (by decide) dL_law_954)
  (okC (ok_iadd X dL_law_955)
  (okC (ok_iald X dL_law_956)
  (okC (ok_aldn X rfl dL_law_957)
  (okC (ok_ildn X rfl dL_law_958)
  (okC (ok_ic X (by decide) dL_law_959)
  (okC (ok_iadd X dL_law_960)
  (okC (ok_iald X dL_law_961)
  (okC (ok_aldn X rfl dL_law_962)
  (okC (ok_ildn X rfl dL_law_963)
  (okC (ok_ic X (by decide) dL_law_964)
  (okC (ok_iadd X dL_law_965)
  (okC (ok_iald X dL_law_966)
  (okC (ok_calV X (i := 119) (e := en_188) rfl mt_188 rfl rfl rfl tw_1161 tw_1162 (Or.inl ⟨_, _, rfl⟩) tw_1163 dL_law_967)
  (okN)))))))))))))))))))))))))))))))))), ok_cmeq X (by decide) rfl dL_law_970⟩
set_option maxRecDepth 20000 in
theorem ob_L_law_52 {x : ip_Cx} {G : ip_Gl} {d : Nat} (X : ip_X x G tb 4 d 600000 7302250 RL code) (hr : x.2.2.2.2.2.2.2.2.1.sig.returnType = some .boolean) (hnm : x.2.2.2.2.2.2.2.2.1.name = "law") : ip_okB x G 4 pc_L_law 973 ([oI (0)], tRI .boolean 600000 7302250) := ⟨_, okC (ok_ic X (by decide) dL_law_973)
  (okN), ok_ret X hr dL_law_974⟩
set_option maxRecDepth 20000 in
theorem ob_L_law_53 {x : ip_Cx} {G : ip_Gl} {d : Nat} (X : ip_X x G tb 4 d 600000 7302250 RL code) (hr : x.2.2.2.2.2.2.2.2.1.sig.returnType = some .boolean) (hnm : x.2.2.2.2.2.2.2.2.1.name = "law") : ip_okB x G 4 pc_L_law 975 ([oLdA 1, oLdA 0, oLdI 3, oI (1), oBI (fun a b => a + b), oAldI, oLdA 0, oLdI 3, oI (2), oBI (fun a b => a + b), oAldI, oLdA 0, oLdI 3, oI (3), oBI (fun a b => a + b), oAldI, oCaV (ip_call tb d) 600000 7302250 5 77 4 0 0, oLdA 2, oLdA 0, oLdI 3, oI (1), oBI (fun a b => a + b), oAldI, oLdA 0, oLdI 3, oI (2), oBI (fun a b => a + b), oAldI, oLdA 0, oLdI 3, oI (3), oBI (fun a b => a + b), oAldI, oCaV (ip_call tb d) 600000 7302250 6 190 4 0 0], tCm (fun a b => a = b) 89 54) := ⟨_, okC (ok_aldn X rfl dL_law_975)
  (okC (ok_aldn X rfl dL_law_976)
  (okC (ok_ildn X rfl dL_law_977)
  (okC (ok_ic X (by decide) dL_law_978)
  (okC (ok_iadd X dL_law_979)
  (okC (ok_iald X dL_law_980)
  (okC (ok_aldn X rfl dL_law_981)
  (okC (ok_ildn X rfl dL_law_982)
  (okC (ok_ic X (by decide) dL_law_983)
  (okC (ok_iadd X dL_law_984)
  (okC (ok_iald X dL_law_985)
  (okC (ok_aldn X rfl dL_law_986)
  (okC (ok_ildn X rfl dL_law_987)
  (okC (ok_ic X (by decide) dL_law_988)
  (okC (ok_iadd X dL_law_989)
  (okC (ok_iald X dL_law_990)
  (okC (ok_calV X (i := 120) (e := en_77) rfl mt_77 rfl rfl rfl tw_620 tw_621 (Or.inl ⟨_, _, rfl⟩) tw_622 dL_law_991)
  (okC (ok_aldn X rfl dL_law_994)
  (okC (ok_aldn X rfl dL_law_995)
  (okC (ok_ildn X rfl dL_law_996)
  (okC (ok_ic X (by decide) dL_law_997)
  (okC (ok_iadd X dL_law_998)
  (okC (ok_iald X dL_law_999)
  (okC (ok_aldn X rfl dL_law_1000)
  (okC (ok_ildn X rfl dL_law_1001)
  (okC (ok_ic X (by decide) dL_law_1002)
  (okC (ok_iadd X dL_law_1003)
  (okC (ok_iald X dL_law_1004)
  (okC (ok_aldn X rfl dL_law_1005)
  (okC (ok_ildn X rfl dL_law_1006)
  (okC (ok_ic X (by decide) dL_law_1007)
  (okC (ok_iadd X dL_law_1008)
  (okC (ok_iald X dL_law_1009)
  (okC (ok_calV X (i := 123) (e := en_190) rfl mt_190 rfl rfl rfl tw_1169 tw_1170 (Or.inl ⟨_, _, rfl⟩) tw_1171 dL_law_1010)
  (okN)))))))))))))))))))))))))))))))))), ok_cmeq X (by decide) rfl dL_law_1013⟩
set_option maxRecDepth 20000 in
theorem ob_L_law_54 {x : ip_Cx} {G : ip_Gl} {d : Nat} (X : ip_X x G tb 4 d 600000 7302250 RL code) (hr : x.2.2.2.2.2.2.2.2.1.sig.returnType = some .boolean) (hnm : x.2.2.2.2.2.2.2.2.1.name = "law") : ip_okB x G 4 pc_L_law 1016 ([oI (0)], tRI .boolean 600000 7302250) := ⟨_, okC (ok_ic X (by decide) dL_law_1016)
  (okN), ok_ret X hr dL_law_1017⟩
set_option maxRecDepth 20000 in
theorem ob_L_law_55 {x : ip_Cx} {G : ip_Gl} {d : Nat} (X : ip_X x G tb 4 d 600000 7302250 RL code) (hr : x.2.2.2.2.2.2.2.2.1.sig.returnType = some .boolean) (hnm : x.2.2.2.2.2.2.2.2.1.name = "law") : ip_okB x G 4 pc_L_law 1018 ([oLdA 1, oLdA 0, oLdI 3, oI (1), oBI (fun a b => a + b), oAldI, oLdA 0, oLdI 3, oI (2), oBI (fun a b => a + b), oAldI, oLdA 0, oLdI 3, oI (3), oBI (fun a b => a + b), oAldI, oCaV (ip_call tb d) 600000 7302250 5 78 4 0 0, oLdA 2, oLdA 0, oLdI 3, oI (1), oBI (fun a b => a + b), oAldI, oLdA 0, oLdI 3, oI (2), oBI (fun a b => a + b), oAldI, oLdA 0, oLdI 3, oI (3), oBI (fun a b => a + b), oAldI, oCaV (ip_call tb d) 600000 7302250 6 193 4 0 0, oCmpL], tIf (fun a => a = 0) 89 56) := ⟨_, okC (ok_aldn X rfl dL_law_1018)
  (okC (ok_aldn X rfl dL_law_1019)
  (okC (ok_ildn X rfl dL_law_1020)
  (okC (ok_ic X (by decide) dL_law_1021)
  (okC (ok_iadd X dL_law_1022)
  (okC (ok_iald X dL_law_1023)
  (okC (ok_aldn X rfl dL_law_1024)
  (okC (ok_ildn X rfl dL_law_1025)
  (okC (ok_ic X (by decide) dL_law_1026)
  (okC (ok_iadd X dL_law_1027)
  (okC (ok_iald X dL_law_1028)
  (okC (ok_aldn X rfl dL_law_1029)
  (okC (ok_ildn X rfl dL_law_1030)
  (okC (ok_ic X (by decide) dL_law_1031)
  (okC (ok_iadd X dL_law_1032)
  (okC (ok_iald X dL_law_1033)
  (okC (ok_calV X (i := 124) (e := en_78) rfl mt_78 rfl rfl rfl tw_636 tw_637 (Or.inl ⟨_, _, rfl⟩) tw_638 dL_law_1034)
  (okC (ok_aldn X rfl dL_law_1037)
  (okC (ok_aldn X rfl dL_law_1038)
  (okC (ok_ildn X rfl dL_law_1039)
  (okC (ok_ic X (by decide) dL_law_1040)
  (okC (ok_iadd X dL_law_1041)
  (okC (ok_iald X dL_law_1042)
  (okC (ok_aldn X rfl dL_law_1043)
  (okC (ok_ildn X rfl dL_law_1044)
  (okC (ok_ic X (by decide) dL_law_1045)
  (okC (ok_iadd X dL_law_1046)
  (okC (ok_iald X dL_law_1047)
  (okC (ok_aldn X rfl dL_law_1048)
  (okC (ok_ildn X rfl dL_law_1049)
  (okC (ok_ic X (by decide) dL_law_1050)
  (okC (ok_iadd X dL_law_1051)
  (okC (ok_iald X dL_law_1052)
  (okC (ok_calV X (i := 128) (e := en_193) rfl mt_193 rfl rfl rfl tw_1180 tw_1181 (Or.inl ⟨_, _, rfl⟩) tw_1182 dL_law_1053)
  (okC (ok_lcmp X dL_law_1056)
  (okN))))))))))))))))))))))))))))))))))), ok_ifeq X (by decide) rfl dL_law_1057⟩
set_option maxRecDepth 20000 in
theorem ob_L_law_56 {x : ip_Cx} {G : ip_Gl} {d : Nat} (X : ip_X x G tb 4 d 600000 7302250 RL code) (hr : x.2.2.2.2.2.2.2.2.1.sig.returnType = some .boolean) (hnm : x.2.2.2.2.2.2.2.2.1.name = "law") : ip_okB x G 4 pc_L_law 1060 ([oI (0)], tRI .boolean 600000 7302250) := ⟨_, okC (ok_ic X (by decide) dL_law_1060)
  (okN), ok_ret X hr dL_law_1061⟩
set_option maxRecDepth 20000 in
theorem ob_L_law_57 {x : ip_Cx} {G : ip_Gl} {d : Nat} (X : ip_X x G tb 4 d 600000 7302250 RL code) (hr : x.2.2.2.2.2.2.2.2.1.sig.returnType = some .boolean) (hnm : x.2.2.2.2.2.2.2.2.1.name = "law") : ip_okB x G 4 pc_L_law 1062 ([oLdA 1, oLdA 0, oLdI 3, oI (1), oBI (fun a b => a + b), oAldI, oLdA 0, oLdI 3, oI (2), oBI (fun a b => a + b), oAldI, oCaV (ip_call tb d) 600000 7302250 5 79 3 0 0, oLdA 2, oLdA 0, oLdI 3, oI (1), oBI (fun a b => a + b), oAldI, oLdA 0, oLdI 3, oI (2), oBI (fun a b => a + b), oAldI, oCaV (ip_call tb d) 600000 7302250 6 194 3 0 0, oCmpL], tIf (fun a => a = 0) 89 58) := ⟨_, okC (ok_aldn X rfl dL_law_1062)
  (okC (ok_aldn X rfl dL_law_1063)
  (okC (ok_ildn X rfl dL_law_1064)
  (okC (ok_ic X (by decide) dL_law_1065)
  (okC (ok_iadd X dL_law_1066)
  (okC (ok_iald X dL_law_1067)
  (okC (ok_aldn X rfl dL_law_1068)
  (okC (ok_ildn X rfl dL_law_1069)
  (okC (ok_ic X (by decide) dL_law_1070)
  (okC (ok_iadd X dL_law_1071)
  (okC (ok_iald X dL_law_1072)
  (okC (ok_calV X (i := 129) (e := en_79) rfl mt_79 rfl rfl rfl tw_651 tw_652 (Or.inl ⟨_, _, rfl⟩) tw_653 dL_law_1073)
  (okC (ok_aldn X rfl dL_law_1076)
  (okC (ok_aldn X rfl dL_law_1077)
  (okC (ok_ildn X rfl dL_law_1078)
  (okC (ok_ic X (by decide) dL_law_1079)
  (okC (ok_iadd X dL_law_1080)
  (okC (ok_iald X dL_law_1081)
  (okC (ok_aldn X rfl dL_law_1082)
  (okC (ok_ildn X rfl dL_law_1083)
  (okC (ok_ic X (by decide) dL_law_1084)
  (okC (ok_iadd X dL_law_1085)
  (okC (ok_iald X dL_law_1086)
  (okC (ok_calV X (i := 133) (e := en_194) rfl mt_194 rfl rfl rfl tw_1190 tw_1191 (Or.inl ⟨_, _, rfl⟩) tw_1192 dL_law_1087)
  (okC (ok_lcmp X dL_law_1090)
  (okN))))))))))))))))))))))))), ok_ifeq X (by decide) rfl dL_law_1091⟩
set_option maxRecDepth 20000 in
theorem ob_L_law_58 {x : ip_Cx} {G : ip_Gl} {d : Nat} (X : ip_X x G tb 4 d 600000 7302250 RL code) (hr : x.2.2.2.2.2.2.2.2.1.sig.returnType = some .boolean) (hnm : x.2.2.2.2.2.2.2.2.1.name = "law") : ip_okB x G 4 pc_L_law 1094 ([oI (0)], tRI .boolean 600000 7302250) := ⟨_, okC (ok_ic X (by decide) dL_law_1094)
  (okN), ok_ret X hr dL_law_1095⟩
set_option maxRecDepth 20000 in
theorem ob_L_law_59 {x : ip_Cx} {G : ip_Gl} {d : Nat} (X : ip_X x G tb 4 d 600000 7302250 RL code) (hr : x.2.2.2.2.2.2.2.2.1.sig.returnType = some .boolean) (hnm : x.2.2.2.2.2.2.2.2.1.name = "law") : ip_okB x G 4 pc_L_law 1096 ([oLdA 1, oLdA 0, oLdI 3, oI (1), oBI (fun a b => a + b), oAldI, oLdA 0, oLdI 3, oI (2), oBI (fun a b => a + b), oAldI, oCaV (ip_call tb d) 600000 7302250 5 80 3 0 0, oLdA 2, oLdA 0, oLdI 3, oI (1), oBI (fun a b => a + b), oAldI, oLdA 0, oLdI 3, oI (2), oBI (fun a b => a + b), oAldI, oCaV (ip_call tb d) 600000 7302250 6 196 3 0 0], tCm (fun a b => a = b) 89 60) := ⟨_, okC (ok_aldn X rfl dL_law_1096)
  (okC (ok_aldn X rfl dL_law_1097)
  (okC (ok_ildn X rfl dL_law_1098)
  (okC (ok_ic X (by decide) dL_law_1099)
  (okC (ok_iadd X dL_law_1100)
  (okC (ok_iald X dL_law_1101)
  (okC (ok_aldn X rfl dL_law_1102)
  (okC (ok_ildn X rfl dL_law_1103)
  (okC (ok_ic X (by decide) dL_law_1104)
  (okC (ok_iadd X dL_law_1105)
  (okC (ok_iald X dL_law_1106)
  (okC (ok_calV X (i := 134) (e := en_80) rfl mt_80 rfl rfl rfl tw_655 tw_656 (Or.inl ⟨_, _, rfl⟩) tw_657 dL_law_1107)
  (okC (ok_aldn X rfl dL_law_1110)
  (okC (ok_aldn X rfl dL_law_1111)
  (okC (ok_ildn X rfl dL_law_1112)
  (okC (ok_ic X (by decide) dL_law_1113)
  (okC (ok_iadd X dL_law_1114)
  (okC (ok_iald X dL_law_1115)
  (okC (ok_aldn X rfl dL_law_1116)
  (okC (ok_ildn X rfl dL_law_1117)
  (okC (ok_ic X (by decide) dL_law_1118)
  (okC (ok_iadd X dL_law_1119)
  (okC (ok_iald X dL_law_1120)
  (okC (ok_calV X (i := 137) (e := en_196) rfl mt_196 rfl rfl rfl tw_1195 tw_1196 (Or.inl ⟨_, _, rfl⟩) tw_1197 dL_law_1121)
  (okN)))))))))))))))))))))))), ok_cmeq X (by decide) rfl dL_law_1124⟩
set_option maxRecDepth 20000 in
theorem ob_L_law_60 {x : ip_Cx} {G : ip_Gl} {d : Nat} (X : ip_X x G tb 4 d 600000 7302250 RL code) (hr : x.2.2.2.2.2.2.2.2.1.sig.returnType = some .boolean) (hnm : x.2.2.2.2.2.2.2.2.1.name = "law") : ip_okB x G 4 pc_L_law 1127 ([oI (0)], tRI .boolean 600000 7302250) := ⟨_, okC (ok_ic X (by decide) dL_law_1127)
  (okN), ok_ret X hr dL_law_1128⟩
set_option maxRecDepth 20000 in
theorem ob_L_law_61 {x : ip_Cx} {G : ip_Gl} {d : Nat} (X : ip_X x G tb 4 d 600000 7302250 RL code) (hr : x.2.2.2.2.2.2.2.2.1.sig.returnType = some .boolean) (hnm : x.2.2.2.2.2.2.2.2.1.name = "law") : ip_okB x G 4 pc_L_law 1129 ([oLdA 1, oLdA 0, oLdI 3, oI (1), oBI (fun a b => a + b), oAldI, oLdA 0, oLdI 3, oI (2), oBI (fun a b => a + b), oAldI, oCaV (ip_call tb d) 600000 7302250 5 81 3 0 0, oLdA 2, oLdA 0, oLdI 3, oI (1), oBI (fun a b => a + b), oAldI, oLdA 0, oLdI 3, oI (2), oBI (fun a b => a + b), oAldI, oCaV (ip_call tb d) 600000 7302250 6 198 3 0 0], tCm (fun a b => a = b) 89 62) := ⟨_, okC (ok_aldn X rfl dL_law_1129)
  (okC (ok_aldn X rfl dL_law_1130)
  (okC (ok_ildn X rfl dL_law_1131)
  (okC (ok_ic X (by decide) dL_law_1132)
  (okC (ok_iadd X dL_law_1133)
  (okC (ok_iald X dL_law_1134)
  (okC (ok_aldn X rfl dL_law_1135)
  (okC (ok_ildn X rfl dL_law_1136)
  (okC (ok_ic X (by decide) dL_law_1137)
  (okC (ok_iadd X dL_law_1138)
  (okC (ok_iald X dL_law_1139)
  (okC (ok_calV X (i := 138) (e := en_81) rfl mt_81 rfl rfl rfl tw_664 tw_665 (Or.inl ⟨_, _, rfl⟩) tw_666 dL_law_1140)
  (okC (ok_aldn X rfl dL_law_1143)
  (okC (ok_aldn X rfl dL_law_1144)
  (okC (ok_ildn X rfl dL_law_1145)
  (okC (ok_ic X (by decide) dL_law_1146)
  (okC (ok_iadd X dL_law_1147)
  (okC (ok_iald X dL_law_1148)
  (okC (ok_aldn X rfl dL_law_1149)
  (okC (ok_ildn X rfl dL_law_1150)
  (okC (ok_ic X (by decide) dL_law_1151)
  (okC (ok_iadd X dL_law_1152)
  (okC (ok_iald X dL_law_1153)
  (okC (ok_calV X (i := 141) (e := en_198) rfl mt_198 rfl rfl rfl tw_1203 tw_1204 (Or.inl ⟨_, _, rfl⟩) tw_1205 dL_law_1154)
  (okN)))))))))))))))))))))))), ok_cmeq X (by decide) rfl dL_law_1157⟩
set_option maxRecDepth 20000 in
theorem ob_L_law_62 {x : ip_Cx} {G : ip_Gl} {d : Nat} (X : ip_X x G tb 4 d 600000 7302250 RL code) (hr : x.2.2.2.2.2.2.2.2.1.sig.returnType = some .boolean) (hnm : x.2.2.2.2.2.2.2.2.1.name = "law") : ip_okB x G 4 pc_L_law 1160 ([oI (0)], tRI .boolean 600000 7302250) := ⟨_, okC (ok_ic X (by decide) dL_law_1160)
  (okN), ok_ret X hr dL_law_1161⟩
set_option maxRecDepth 20000 in
theorem ob_L_law_63 {x : ip_Cx} {G : ip_Gl} {d : Nat} (X : ip_X x G tb 4 d 600000 7302250 RL code) (hr : x.2.2.2.2.2.2.2.2.1.sig.returnType = some .boolean) (hnm : x.2.2.2.2.2.2.2.2.1.name = "law") : ip_okB x G 4 pc_L_law 1162 ([oLdA 1, oLdA 0, oLdI 3, oI (1), oBI (fun a b => a + b), oAldI, oLdA 0, oLdI 3, oI (2), oBI (fun a b => a + b), oAldI, oLdA 0, oLdI 3, oI (3), oBI (fun a b => a + b), oAldI, oCaV (ip_call tb d) 600000 7302250 5 82 4 0 0, oLdA 2, oLdA 0, oLdI 3, oI (1), oBI (fun a b => a + b), oAldI, oLdA 0, oLdI 3, oI (2), oBI (fun a b => a + b), oAldI, oLdA 0, oLdI 3, oI (3), oBI (fun a b => a + b), oAldI, oCaV (ip_call tb d) 600000 7302250 6 199 4 0 0], tCm (fun a b => a = b) 89 64) := ⟨_, okC (ok_aldn X rfl dL_law_1162)
  (okC (ok_aldn X rfl dL_law_1163)
  (okC (ok_ildn X rfl dL_law_1164)
  (okC (ok_ic X (by decide) dL_law_1165)
  (okC (ok_iadd X dL_law_1166)
  (okC (ok_iald X dL_law_1167)
  (okC (ok_aldn X rfl dL_law_1168)
  (okC (ok_ildn X rfl dL_law_1169)
  (okC (ok_ic X (by decide) dL_law_1170)
  (okC (ok_iadd X dL_law_1171)
  (okC (ok_iald X dL_law_1172)
  (okC (ok_aldn X rfl dL_law_1173)
  (okC (ok_ildn X rfl dL_law_1174)
  (okC (ok_ic X (by decide) dL_law_1175)
  (okC (ok_iadd X dL_law_1176)
  (okC (ok_iald X dL_law_1177)
  (okC (ok_calV X (i := 142) (e := en_82) rfl mt_82 rfl rfl rfl tw_672 tw_673 (Or.inl ⟨_, _, rfl⟩) tw_674 dL_law_1178)
  (okC (ok_aldn X rfl dL_law_1181)
  (okC (ok_aldn X rfl dL_law_1182)
  (okC (ok_ildn X rfl dL_law_1183)
  (okC (ok_ic X (by decide) dL_law_1184)
  (okC (ok_iadd X dL_law_1185)
  (okC (ok_iald X dL_law_1186)
  (okC (ok_aldn X rfl dL_law_1187)
  (okC (ok_ildn X rfl dL_law_1188)
  (okC (ok_ic X (by decide) dL_law_1189)
  (okC (ok_iadd X dL_law_1190)
  (okC (ok_iald X dL_law_1191)
  (okC (ok_aldn X rfl dL_law_1192)
  (okC (ok_ildn X rfl dL_law_1193)
  (okC (ok_ic X (by decide) dL_law_1194)
  (okC (ok_iadd X dL_law_1195)
  (okC (ok_iald X dL_law_1196)
  (okC (ok_calV X (i := 145) (e := en_199) rfl mt_199 rfl rfl rfl tw_1211 tw_1212 (Or.inl ⟨_, _, rfl⟩) tw_1213 dL_law_1197)
  (okN)))))))))))))))))))))))))))))))))), ok_cmeq X (by decide) rfl dL_law_1200⟩
set_option maxRecDepth 20000 in
theorem ob_L_law_64 {x : ip_Cx} {G : ip_Gl} {d : Nat} (X : ip_X x G tb 4 d 600000 7302250 RL code) (hr : x.2.2.2.2.2.2.2.2.1.sig.returnType = some .boolean) (hnm : x.2.2.2.2.2.2.2.2.1.name = "law") : ip_okB x G 4 pc_L_law 1203 ([oI (0)], tRI .boolean 600000 7302250) := ⟨_, okC (ok_ic X (by decide) dL_law_1203)
  (okN), ok_ret X hr dL_law_1204⟩
set_option maxRecDepth 20000 in
theorem ob_L_law_65 {x : ip_Cx} {G : ip_Gl} {d : Nat} (X : ip_X x G tb 4 d 600000 7302250 RL code) (hr : x.2.2.2.2.2.2.2.2.1.sig.returnType = some .boolean) (hnm : x.2.2.2.2.2.2.2.2.1.name = "law") : ip_okB x G 4 pc_L_law 1205 ([oLdA 1, oLdA 0, oLdI 3, oI (1), oBI (fun a b => a + b), oAldI, oCaV (ip_call tb d) 600000 7302250 5 83 2 0 0, oLdA 2, oLdA 0, oLdI 3, oI (1), oBI (fun a b => a + b), oAldI, oCaV (ip_call tb d) 600000 7302250 6 200 2 0 0], tCm (fun a b => a = b) 89 66) := ⟨_, okC (ok_aldn X rfl dL_law_1205)
  (okC (ok_aldn X rfl dL_law_1206)
  (okC (ok_ildn X rfl dL_law_1207)
  (okC (ok_ic X (by decide) dL_law_1208)
  (okC (ok_iadd X dL_law_1209)
  (okC (ok_iald X dL_law_1210)
  (okC (ok_calV X (i := 146) (e := en_83) rfl mt_83 rfl rfl rfl tw_676 tw_677 (Or.inl ⟨_, _, rfl⟩) tw_678 dL_law_1211)
  (okC (ok_aldn X rfl dL_law_1214)
  (okC (ok_aldn X rfl dL_law_1215)
  (okC (ok_ildn X rfl dL_law_1216)
  (okC (ok_ic X (by decide) dL_law_1217)
  (okC (ok_iadd X dL_law_1218)
  (okC (ok_iald X dL_law_1219)
  (okC (ok_calV X (i := 149) (e := en_200) rfl mt_200 rfl rfl rfl tw_1215 tw_1216 (Or.inl ⟨_, _, rfl⟩) tw_1217 dL_law_1220)
  (okN)))))))))))))), ok_cmeq X (by decide) rfl dL_law_1223⟩
set_option maxRecDepth 20000 in
theorem ob_L_law_66 {x : ip_Cx} {G : ip_Gl} {d : Nat} (X : ip_X x G tb 4 d 600000 7302250 RL code) (hr : x.2.2.2.2.2.2.2.2.1.sig.returnType = some .boolean) (hnm : x.2.2.2.2.2.2.2.2.1.name = "law") : ip_okB x G 4 pc_L_law 1226 ([oI (0)], tRI .boolean 600000 7302250) := ⟨_, okC (ok_ic X (by decide) dL_law_1226)
  (okN), ok_ret X hr dL_law_1227⟩
set_option maxRecDepth 20000 in
theorem ob_L_law_67 {x : ip_Cx} {G : ip_Gl} {d : Nat} (X : ip_X x G tb 4 d 600000 7302250 RL code) (hr : x.2.2.2.2.2.2.2.2.1.sig.returnType = some .boolean) (hnm : x.2.2.2.2.2.2.2.2.1.name = "law") : ip_okB x G 4 pc_L_law 1228 ([oLdA 1, oLdA 0, oLdI 3, oI (1), oBI (fun a b => a + b), oAldI, oLdA 0, oLdI 3, oI (2), oBI (fun a b => a + b), oAldI, oLdA 0, oLdI 3, oI (3), oBI (fun a b => a + b), oAldI, oLdA 0, oLdI 3, oI (4), oBI (fun a b => a + b), oAldI, oCaV (ip_call tb d) 600000 7302250 5 84 5 0 0, oLdA 2, oLdA 0, oLdI 3, oI (1), oBI (fun a b => a + b), oAldI, oLdA 0, oLdI 3, oI (2), oBI (fun a b => a + b), oAldI, oLdA 0, oLdI 3, oI (3), oBI (fun a b => a + b), oAldI, oLdA 0, oLdI 3, oI (4), oBI (fun a b => a + b), oAldI, oCaV (ip_call tb d) 600000 7302250 6 201 5 0 0], tCm (fun a b => a = b) 89 68) := ⟨_, okC (ok_aldn X rfl dL_law_1228)
  (okC (ok_aldn X rfl dL_law_1229)
  (okC (ok_ildn X rfl dL_law_1230)
  (okC (ok_ic X (by decide) dL_law_1231)
  (okC (ok_iadd X dL_law_1232)
  (okC (ok_iald X dL_law_1233)
  (okC (ok_aldn X rfl dL_law_1234)
  (okC (ok_ildn X rfl dL_law_1235)
  (okC (ok_ic X (by decide) dL_law_1236)
  (okC (ok_iadd X dL_law_1237)
  (okC (ok_iald X dL_law_1238)
  (okC (ok_aldn X rfl dL_law_1239)
  (okC (ok_ildn X rfl dL_law_1240)
  (okC (ok_ic X (by decide) dL_law_1241)
  (okC (ok_iadd X dL_law_1242)
  (okC (ok_iald X dL_law_1243)
  (okC (ok_aldn X rfl dL_law_1244)
  (okC (ok_ildn X rfl dL_law_1245)
  (okC (ok_ic X (by decide) dL_law_1246)
  (okC (ok_iadd X dL_law_1247)
  (okC (ok_iald X dL_law_1248)
  (okC (ok_calV X (i := 150) (e := en_84) rfl mt_84 rfl rfl rfl tw_680 tw_681 (Or.inl ⟨_, _, rfl⟩) tw_682 dL_law_1249)
  (okC (ok_aldn X rfl dL_law_1252)
  (okC (ok_aldn X rfl dL_law_1253)
  (okC (ok_ildn X rfl dL_law_1254)
  (okC (ok_ic X (by decide) dL_law_1255)
  (okC (ok_iadd X dL_law_1256)
  (okC (ok_iald X dL_law_1257)
  (okC (ok_aldn X rfl dL_law_1258)
  (okC (ok_ildn X rfl dL_law_1259)
  (okC (ok_ic X (by decide) dL_law_1260)
  (okC (ok_iadd X dL_law_1261)
  (okC (ok_iald X dL_law_1262)
  (okC (ok_aldn X rfl dL_law_1263)
  (okC (ok_ildn X rfl dL_law_1264)
  (okC (ok_ic X (by decide) dL_law_1265)
  (okC (ok_iadd X dL_law_1266)
  (okC (ok_iald X dL_law_1267)
  (okC (ok_aldn X rfl dL_law_1268)
  (okC (ok_ildn X rfl dL_law_1269)
  (okC (ok_ic X (by decide) dL_law_1270)
  (okC (ok_iadd X dL_law_1271)
  (okC (ok_iald X dL_law_1272)
  (okC (ok_calV X (i := 154) (e := en_201) rfl mt_201 rfl rfl rfl tw_1219 tw_1220 (Or.inl ⟨_, _, rfl⟩) tw_1221 dL_law_1273)
  (okN)))))))))))))))))))))))))))))))))))))))))))), ok_cmeq X (by decide) rfl dL_law_1276⟩
set_option maxRecDepth 20000 in
theorem ob_L_law_68 {x : ip_Cx} {G : ip_Gl} {d : Nat} (X : ip_X x G tb 4 d 600000 7302250 RL code) (hr : x.2.2.2.2.2.2.2.2.1.sig.returnType = some .boolean) (hnm : x.2.2.2.2.2.2.2.2.1.name = "law") : ip_okB x G 4 pc_L_law 1279 ([oI (0)], tRI .boolean 600000 7302250) := ⟨_, okC (ok_ic X (by decide) dL_law_1279)
  (okN), ok_ret X hr dL_law_1280⟩
set_option maxRecDepth 20000 in
theorem ob_L_law_69 {x : ip_Cx} {G : ip_Gl} {d : Nat} (X : ip_X x G tb 4 d 600000 7302250 RL code) (hr : x.2.2.2.2.2.2.2.2.1.sig.returnType = some .boolean) (hnm : x.2.2.2.2.2.2.2.2.1.name = "law") : ip_okB x G 4 pc_L_law 1281 ([oLdA 1, oLdA 0, oLdI 3, oI (1), oBI (fun a b => a + b), oAldI, oLdA 0, oLdI 3, oI (2), oBI (fun a b => a + b), oAldI, oLdA 0, oLdI 3, oI (3), oBI (fun a b => a + b), oAldI, oCaV (ip_call tb d) 600000 7302250 5 85 4 2 42, oLdA 2, oLdA 0, oLdI 3, oI (1), oBI (fun a b => a + b), oAldI, oLdA 0, oLdI 3, oI (2), oBI (fun a b => a + b), oAldI, oLdA 0, oLdI 3, oI (3), oBI (fun a b => a + b), oAldI, oCaV (ip_call tb d) 600000 7302250 6 203 4 0 0], tCm (fun a b => a = b) 89 70) := ⟨_, okC (ok_aldn X rfl dL_law_1281)
  (okC (ok_aldn X rfl dL_law_1282)
  (okC (ok_ildn X rfl dL_law_1283)
  (okC (ok_ic X (by decide) dL_law_1284)
  (okC (ok_iadd X dL_law_1285)
  (okC (ok_iald X dL_law_1286)
  (okC (ok_aldn X rfl dL_law_1287)
  (okC (ok_ildn X rfl dL_law_1288)
  (okC (ok_ic X (by decide) dL_law_1289)
  (okC (ok_iadd X dL_law_1290)
  (okC (ok_iald X dL_law_1291)
  (okC (ok_aldn X rfl dL_law_1292)
  (okC (ok_ildn X rfl dL_law_1293)
  (okC (ok_ic X (by decide) dL_law_1294)
  (okC (ok_iadd X dL_law_1295)
  (okC (ok_iald X dL_law_1296)
  (okC (ok_calV X (i := 155) (e := en_85) rfl mt_85 rfl rfl rfl tw_684 tw_685 (Or.inl ⟨_, _, rfl⟩) tw_686 dL_law_1297)
  (okC (ok_aldn X rfl dL_law_1300)
  (okC (ok_aldn X rfl dL_law_1301)
  (okC (ok_ildn X rfl dL_law_1302)
  (okC (ok_ic X (by decide) dL_law_1303)
  (okC (ok_iadd X dL_law_1304)
  (okC (ok_iald X dL_law_1305)
  (okC (ok_aldn X rfl dL_law_1306)
  (okC (ok_ildn X rfl dL_law_1307)
  (okC (ok_ic X (by decide) dL_law_1308)
  (okC (ok_iadd X dL_law_1309)
  (okC (ok_iald X dL_law_1310)
  (okC (ok_aldn X rfl dL_law_1311)
  (okC (ok_ildn X rfl dL_law_1312)
  (okC (ok_ic X (by decide) dL_law_1313)
  (okC (ok_iadd X dL_law_1314)
  (okC (ok_iald X dL_law_1315)
  (okC (ok_calV X (i := 158) (e := en_203) rfl mt_203 rfl rfl rfl tw_1227 tw_1228 (Or.inl ⟨_, _, rfl⟩) tw_1229 dL_law_1316)
  (okN)))))))))))))))))))))))))))))))))), ok_cmeq X (by decide) rfl dL_law_1319⟩
set_option maxRecDepth 20000 in
theorem ob_L_law_70 {x : ip_Cx} {G : ip_Gl} {d : Nat} (X : ip_X x G tb 4 d 600000 7302250 RL code) (hr : x.2.2.2.2.2.2.2.2.1.sig.returnType = some .boolean) (hnm : x.2.2.2.2.2.2.2.2.1.name = "law") : ip_okB x G 4 pc_L_law 1322 ([oI (0)], tRI .boolean 600000 7302250) := ⟨_, okC (ok_ic X (by decide) dL_law_1322)
  (okN), ok_ret X hr dL_law_1323⟩
set_option maxRecDepth 20000 in
theorem ob_L_law_71 {x : ip_Cx} {G : ip_Gl} {d : Nat} (X : ip_X x G tb 4 d 600000 7302250 RL code) (hr : x.2.2.2.2.2.2.2.2.1.sig.returnType = some .boolean) (hnm : x.2.2.2.2.2.2.2.2.1.name = "law") : ip_okB x G 4 pc_L_law 1324 ([oLdA 1, oLdA 0, oLdI 3, oI (1), oBI (fun a b => a + b), oAldI, oLdA 0, oLdI 3, oI (2), oBI (fun a b => a + b), oAldI, oLdA 0, oLdI 3, oI (3), oBI (fun a b => a + b), oAldI, oCaV (ip_call tb d) 600000 7302250 5 86 4 0 0, oLdA 2, oLdA 0, oLdI 3, oI (1), oBI (fun a b => a + b), oAldI, oLdA 0, oLdI 3, oI (2), oBI (fun a b => a + b), oAldI, oLdA 0, oLdI 3, oI (3), oBI (fun a b => a + b), oAldI, oCaV (ip_call tb d) 600000 7302250 6 204 4 0 0], tCm (fun a b => a = b) 89 72) := ⟨_, okC (ok_aldn X rfl dL_law_1324)
  (okC (ok_aldn X rfl dL_law_1325)
  (okC (ok_ildn X rfl dL_law_1326)
  (okC (ok_ic X (by decide) dL_law_1327)
  (okC (ok_iadd X dL_law_1328)
  (okC (ok_iald X dL_law_1329)
  (okC (ok_aldn X rfl dL_law_1330)
  (okC (ok_ildn X rfl dL_law_1331)
  (okC (ok_ic X (by decide) dL_law_1332)
  (okC (ok_iadd X dL_law_1333)
  (okC (ok_iald X dL_law_1334)
  (okC (ok_aldn X rfl dL_law_1335)
  (okC (ok_ildn X rfl dL_law_1336)
  (okC (ok_ic X (by decide) dL_law_1337)
  (okC (ok_iadd X dL_law_1338)
  (okC (ok_iald X dL_law_1339)
  (okC (ok_calV X (i := 159) (e := en_86) rfl mt_86 rfl rfl rfl tw_707 tw_708 (Or.inl ⟨_, _, rfl⟩) tw_709 dL_law_1340)
  (okC (ok_aldn X rfl dL_law_1343)
  (okC (ok_aldn X rfl dL_law_1344)
  (okC (ok_ildn X rfl dL_law_1345)
  (okC (ok_ic X (by decide) dL_law_1346)
  (okC (ok_iadd X dL_law_1347)
  (okC (ok_iald X dL_law_1348)
  (okC (ok_aldn X rfl dL_law_1349)
  (okC (ok_ildn X rfl dL_law_1350)
  (okC (ok_ic X (by decide) dL_law_1351)
  (okC (ok_iadd X dL_law_1352)
  (okC (ok_iald X dL_law_1353)
  (okC (ok_aldn X rfl dL_law_1354)
  (okC (ok_ildn X rfl dL_law_1355)
  (okC (ok_ic X (by decide) dL_law_1356)
  (okC (ok_iadd X dL_law_1357)
  (okC (ok_iald X dL_law_1358)
  (okC (ok_calV X (i := 162) (e := en_204) rfl mt_204 rfl rfl rfl tw_1231 tw_1232 (Or.inl ⟨_, _, rfl⟩) tw_1233 dL_law_1359)
  (okN)))))))))))))))))))))))))))))))))), ok_cmeq X (by decide) rfl dL_law_1362⟩
set_option maxRecDepth 20000 in
theorem ob_L_law_72 {x : ip_Cx} {G : ip_Gl} {d : Nat} (X : ip_X x G tb 4 d 600000 7302250 RL code) (hr : x.2.2.2.2.2.2.2.2.1.sig.returnType = some .boolean) (hnm : x.2.2.2.2.2.2.2.2.1.name = "law") : ip_okB x G 4 pc_L_law 1365 ([oI (0)], tRI .boolean 600000 7302250) := ⟨_, okC (ok_ic X (by decide) dL_law_1365)
  (okN), ok_ret X hr dL_law_1366⟩
set_option maxRecDepth 20000 in
theorem ob_L_law_73 {x : ip_Cx} {G : ip_Gl} {d : Nat} (X : ip_X x G tb 4 d 600000 7302250 RL code) (hr : x.2.2.2.2.2.2.2.2.1.sig.returnType = some .boolean) (hnm : x.2.2.2.2.2.2.2.2.1.name = "law") : ip_okB x G 4 pc_L_law 1367 ([oLdA 1, oLdA 0, oLdI 3, oI (1), oBI (fun a b => a + b), oAldI, oLdA 0, oLdI 3, oI (2), oBI (fun a b => a + b), oAldI, oLdA 0, oLdI 3, oI (3), oBI (fun a b => a + b), oAldI, oCaV (ip_call tb d) 600000 7302250 5 87 4 0 0, oLdA 2, oLdA 0, oLdI 3, oI (1), oBI (fun a b => a + b), oAldI, oLdA 0, oLdI 3, oI (2), oBI (fun a b => a + b), oAldI, oLdA 0, oLdI 3, oI (3), oBI (fun a b => a + b), oAldI, oCaV (ip_call tb d) 600000 7302250 6 206 4 0 0], tCm (fun a b => a = b) 89 74) := ⟨_, okC (ok_aldn X rfl dL_law_1367)
  (okC (ok_aldn X rfl dL_law_1368)
  (okC (ok_ildn X rfl dL_law_1369)
  (okC (ok_ic X (by decide) dL_law_1370)
  (okC (ok_iadd X dL_law_1371)
  (okC (ok_iald X dL_law_1372)
  (okC (ok_aldn X rfl dL_law_1373)
  (okC (ok_ildn X rfl dL_law_1374)
  (okC (ok_ic X (by decide) dL_law_1375)
  (okC (ok_iadd X dL_law_1376)
  (okC (ok_iald X dL_law_1377)
  (okC (ok_aldn X rfl dL_law_1378)
  (okC (ok_ildn X rfl dL_law_1379)
  (okC (ok_ic X (by decide) dL_law_1380)
  (okC (ok_iadd X dL_law_1381)
  (okC (ok_iald X dL_law_1382)
  (okC (ok_calV X (i := 163) (e := en_87) rfl mt_87 rfl rfl rfl tw_715 tw_716 (Or.inl ⟨_, _, rfl⟩) tw_717 dL_law_1383)
  (okC (ok_aldn X rfl dL_law_1386)
  (okC (ok_aldn X rfl dL_law_1387)
  (okC (ok_ildn X rfl dL_law_1388)
  (okC (ok_ic X (by decide) dL_law_1389)
  (okC (ok_iadd X dL_law_1390)
  (okC (ok_iald X dL_law_1391)
  (okC (ok_aldn X rfl dL_law_1392)
  (okC (ok_ildn X rfl dL_law_1393)
  (okC (ok_ic X (by decide) dL_law_1394)
  (okC (ok_iadd X dL_law_1395)
  (okC (ok_iald X dL_law_1396)
  (okC (ok_aldn X rfl dL_law_1397)
  (okC (ok_ildn X rfl dL_law_1398)
  (okC (ok_ic X (by decide) dL_law_1399)
  (okC (ok_iadd X dL_law_1400)
  (okC (ok_iald X dL_law_1401)
  (okC (ok_calV X (i := 166) (e := en_206) rfl mt_206 rfl rfl rfl tw_1235 tw_1236 (Or.inl ⟨_, _, rfl⟩) tw_1237 dL_law_1402)
  (okN)))))))))))))))))))))))))))))))))), ok_cmeq X (by decide) rfl dL_law_1405⟩
set_option maxRecDepth 20000 in
theorem ob_L_law_74 {x : ip_Cx} {G : ip_Gl} {d : Nat} (X : ip_X x G tb 4 d 600000 7302250 RL code) (hr : x.2.2.2.2.2.2.2.2.1.sig.returnType = some .boolean) (hnm : x.2.2.2.2.2.2.2.2.1.name = "law") : ip_okB x G 4 pc_L_law 1408 ([oI (0)], tRI .boolean 600000 7302250) := ⟨_, okC (ok_ic X (by decide) dL_law_1408)
  (okN), ok_ret X hr dL_law_1409⟩
set_option maxRecDepth 20000 in
theorem ob_L_law_75 {x : ip_Cx} {G : ip_Gl} {d : Nat} (X : ip_X x G tb 4 d 600000 7302250 RL code) (hr : x.2.2.2.2.2.2.2.2.1.sig.returnType = some .boolean) (hnm : x.2.2.2.2.2.2.2.2.1.name = "law") : ip_okB x G 4 pc_L_law 1410 ([oLdA 1, oLdA 0, oLdI 3, oI (1), oBI (fun a b => a + b), oAldI, oLdA 0, oLdI 3, oI (2), oBI (fun a b => a + b), oAldI, oLdA 0, oLdI 3, oI (3), oBI (fun a b => a + b), oAldI, oCaV (ip_call tb d) 600000 7302250 5 88 4 0 0, oLdA 2, oLdA 0, oLdI 3, oI (1), oBI (fun a b => a + b), oAldI, oLdA 0, oLdI 3, oI (2), oBI (fun a b => a + b), oAldI, oLdA 0, oLdI 3, oI (3), oBI (fun a b => a + b), oAldI, oCaV (ip_call tb d) 600000 7302250 6 208 4 0 0], tCm (fun a b => a = b) 89 76) := ⟨_, okC (ok_aldn X rfl dL_law_1410)
  (okC (ok_aldn X rfl dL_law_1411)
  (okC (ok_ildn X rfl dL_law_1412)
  (okC (ok_ic X (by decide) dL_law_1413)
  (okC (ok_iadd X dL_law_1414)
  (okC (ok_iald X dL_law_1415)
  (okC (ok_aldn X rfl dL_law_1416)
  (okC (ok_ildn X rfl dL_law_1417)
  (okC (ok_ic X (by decide) dL_law_1418)
  (okC (ok_iadd X dL_law_1419)
  (okC (ok_iald X dL_law_1420)
  (okC (ok_aldn X rfl dL_law_1421)
  (okC (ok_ildn X rfl dL_law_1422)
  (okC (ok_ic X (by decide) dL_law_1423)
  (okC (ok_iadd X dL_law_1424)
  (okC (ok_iald X dL_law_1425)
  (okC (ok_calV X (i := 167) (e := en_88) rfl mt_88 rfl rfl rfl tw_719 tw_720 (Or.inl ⟨_, _, rfl⟩) tw_721 dL_law_1426)
  (okC (ok_aldn X rfl dL_law_1429)
  (okC (ok_aldn X rfl dL_law_1430)
  (okC (ok_ildn X rfl dL_law_1431)
  (okC (ok_ic X (by decide) dL_law_1432)
  (okC (ok_iadd X dL_law_1433)
  (okC (ok_iald X dL_law_1434)
  (okC (ok_aldn X rfl dL_law_1435)
  (okC (ok_ildn X rfl dL_law_1436)
  (okC (ok_ic X (by decide) dL_law_1437)
  (okC (ok_iadd X dL_law_1438)
  (okC (ok_iald X dL_law_1439)
  (okC (ok_aldn X rfl dL_law_1440)
  (okC (ok_ildn X rfl dL_law_1441)
  (okC (ok_ic X (by decide) dL_law_1442)
  (okC (ok_iadd X dL_law_1443)
  (okC (ok_iald X dL_law_1444)
  (okC (ok_calV X (i := 170) (e := en_208) rfl mt_208 rfl rfl rfl tw_1239 tw_1240 (Or.inl ⟨_, _, rfl⟩) tw_1241 dL_law_1445)
  (okN)))))))))))))))))))))))))))))))))), ok_cmeq X (by decide) rfl dL_law_1448⟩
set_option maxRecDepth 20000 in
theorem ob_L_law_76 {x : ip_Cx} {G : ip_Gl} {d : Nat} (X : ip_X x G tb 4 d 600000 7302250 RL code) (hr : x.2.2.2.2.2.2.2.2.1.sig.returnType = some .boolean) (hnm : x.2.2.2.2.2.2.2.2.1.name = "law") : ip_okB x G 4 pc_L_law 1451 ([oI (0)], tRI .boolean 600000 7302250) := ⟨_, okC (ok_ic X (by decide) dL_law_1451)
  (okN), ok_ret X hr dL_law_1452⟩
set_option maxRecDepth 20000 in
theorem ob_L_law_77 {x : ip_Cx} {G : ip_Gl} {d : Nat} (X : ip_X x G tb 4 d 600000 7302250 RL code) (hr : x.2.2.2.2.2.2.2.2.1.sig.returnType = some .boolean) (hnm : x.2.2.2.2.2.2.2.2.1.name = "law") : ip_okB x G 4 pc_L_law 1453 ([oLdA 1, oLdA 0, oLdI 3, oI (1), oBI (fun a b => a + b), oAldI, oLdA 0, oLdI 3, oI (2), oBI (fun a b => a + b), oAldI, oCaV (ip_call tb d) 600000 7302250 5 89 3 0 0, oLdA 2, oLdA 0, oLdI 3, oI (1), oBI (fun a b => a + b), oAldI, oLdA 0, oLdI 3, oI (2), oBI (fun a b => a + b), oAldI, oCaV (ip_call tb d) 600000 7302250 6 211 3 0 0], tCm (fun a b => a = b) 89 78) := ⟨_, okC (ok_aldn X rfl dL_law_1453)
  (okC (ok_aldn X rfl dL_law_1454)
  (okC (ok_ildn X rfl dL_law_1455)
  (okC (ok_ic X (by decide) dL_law_1456)
  (okC (ok_iadd X dL_law_1457)
  (okC (ok_iald X dL_law_1458)
  (okC (ok_aldn X rfl dL_law_1459)
  (okC (ok_ildn X rfl dL_law_1460)
  (okC (ok_ic X (by decide) dL_law_1461)
  (okC (ok_iadd X dL_law_1462)
  (okC (ok_iald X dL_law_1463)
  (okC (ok_calV X (i := 171) (e := en_89) rfl mt_89 rfl rfl rfl tw_730 tw_731 (Or.inl ⟨_, _, rfl⟩) tw_732 dL_law_1464)
  (okC (ok_aldn X rfl dL_law_1467)
  (okC (ok_aldn X rfl dL_law_1468)
  (okC (ok_ildn X rfl dL_law_1469)
  (okC (ok_ic X (by decide) dL_law_1470)
  (okC (ok_iadd X dL_law_1471)
  (okC (ok_iald X dL_law_1472)
  (okC (ok_aldn X rfl dL_law_1473)
  (okC (ok_ildn X rfl dL_law_1474)
  (okC (ok_ic X (by decide) dL_law_1475)
  (okC (ok_iadd X dL_law_1476)
  (okC (ok_iald X dL_law_1477)
  (okC (ok_calV X (i := 174) (e := en_211) rfl mt_211 rfl rfl rfl tw_1247 tw_1248 (Or.inl ⟨_, _, rfl⟩) tw_1249 dL_law_1478)
  (okN)))))))))))))))))))))))), ok_cmeq X (by decide) rfl dL_law_1481⟩
set_option maxRecDepth 20000 in
theorem ob_L_law_78 {x : ip_Cx} {G : ip_Gl} {d : Nat} (X : ip_X x G tb 4 d 600000 7302250 RL code) (hr : x.2.2.2.2.2.2.2.2.1.sig.returnType = some .boolean) (hnm : x.2.2.2.2.2.2.2.2.1.name = "law") : ip_okB x G 4 pc_L_law 1484 ([oI (0)], tRI .boolean 600000 7302250) := ⟨_, okC (ok_ic X (by decide) dL_law_1484)
  (okN), ok_ret X hr dL_law_1485⟩
set_option maxRecDepth 20000 in
theorem ob_L_law_79 {x : ip_Cx} {G : ip_Gl} {d : Nat} (X : ip_X x G tb 4 d 600000 7302250 RL code) (hr : x.2.2.2.2.2.2.2.2.1.sig.returnType = some .boolean) (hnm : x.2.2.2.2.2.2.2.2.1.name = "law") : ip_okB x G 4 pc_L_law 1486 ([oLdA 1, oLdA 0, oLdI 3, oI (1), oBI (fun a b => a + b), oAldI, oLdA 0, oLdI 3, oI (2), oBI (fun a b => a + b), oAldI, oLdA 0, oLdI 3, oI (3), oBI (fun a b => a + b), oAldI, oCaV (ip_call tb d) 600000 7302250 5 90 4 0 0, oLdA 2, oLdA 0, oLdI 3, oI (1), oBI (fun a b => a + b), oAldI, oLdA 0, oLdI 3, oI (2), oBI (fun a b => a + b), oAldI, oLdA 0, oLdI 3, oI (3), oBI (fun a b => a + b), oAldI, oCaV (ip_call tb d) 600000 7302250 6 222 4 0 0], tCm (fun a b => a = b) 89 80) := ⟨_, okC (ok_aldn X rfl dL_law_1486)
  (okC (ok_aldn X rfl dL_law_1487)
  (okC (ok_ildn X rfl dL_law_1488)
  (okC (ok_ic X (by decide) dL_law_1489)
  (okC (ok_iadd X dL_law_1490)
  (okC (ok_iald X dL_law_1491)
  (okC (ok_aldn X rfl dL_law_1492)
  (okC (ok_ildn X rfl dL_law_1493)
  (okC (ok_ic X (by decide) dL_law_1494)
  (okC (ok_iadd X dL_law_1495)
  (okC (ok_iald X dL_law_1496)
  (okC (ok_aldn X rfl dL_law_1497)
  (okC (ok_ildn X rfl dL_law_1498)
  (okC (ok_ic X (by decide) dL_law_1499)
  (okC (ok_iadd X dL_law_1500)
  (okC (ok_iald X dL_law_1501)
  (okC (ok_calV X (i := 175) (e := en_90) rfl mt_90 rfl rfl rfl tw_739 tw_740 (Or.inl ⟨_, _, rfl⟩) tw_741 dL_law_1502)
  (okC (ok_aldn X rfl dL_law_1505)
  (okC (ok_aldn X rfl dL_law_1506)
  (okC (ok_ildn X rfl dL_law_1507)
  (okC (ok_ic X (by decide) dL_law_1508)
  (okC (ok_iadd X dL_law_1509)
  (okC (ok_iald X dL_law_1510)
  (okC (ok_aldn X rfl dL_law_1511)
  (okC (ok_ildn X rfl dL_law_1512)
  (okC (ok_ic X (by decide) dL_law_1513)
  (okC (ok_iadd X dL_law_1514)
  (okC (ok_iald X dL_law_1515)
  (okC (ok_aldn X rfl dL_law_1516)
  (okC (ok_ildn X rfl dL_law_1517)
  (okC (ok_ic X (by decide) dL_law_1518)
  (okC (ok_iadd X dL_law_1519)
  (okC (ok_iald X dL_law_1520)
  (okC (ok_calV X (i := 178) (e := en_222) rfl mt_222 rfl rfl rfl tw_1258 tw_1259 (Or.inl ⟨_, _, rfl⟩) tw_1260 dL_law_1521)
  (okN)))))))))))))))))))))))))))))))))), ok_cmeq X (by decide) rfl dL_law_1524⟩
set_option maxRecDepth 20000 in
theorem ob_L_law_80 {x : ip_Cx} {G : ip_Gl} {d : Nat} (X : ip_X x G tb 4 d 600000 7302250 RL code) (hr : x.2.2.2.2.2.2.2.2.1.sig.returnType = some .boolean) (hnm : x.2.2.2.2.2.2.2.2.1.name = "law") : ip_okB x G 4 pc_L_law 1527 ([oI (0)], tRI .boolean 600000 7302250) := ⟨_, okC (ok_ic X (by decide) dL_law_1527)
  (okN), ok_ret X hr dL_law_1528⟩
set_option maxRecDepth 20000 in
theorem ob_L_law_81 {x : ip_Cx} {G : ip_Gl} {d : Nat} (X : ip_X x G tb 4 d 600000 7302250 RL code) (hr : x.2.2.2.2.2.2.2.2.1.sig.returnType = some .boolean) (hnm : x.2.2.2.2.2.2.2.2.1.name = "law") : ip_okB x G 4 pc_L_law 1529 ([oLdA 1, oLdA 0, oLdI 3, oI (1), oBI (fun a b => a + b), oAldI, oCaV (ip_call tb d) 600000 7302250 5 91 2 0 0, oLdA 2, oLdA 0, oLdI 3, oI (1), oBI (fun a b => a + b), oAldI, oCaV (ip_call tb d) 600000 7302250 6 223 2 0 0], tCm (fun a b => a = b) 89 82) := ⟨_, okC (ok_aldn X rfl dL_law_1529)
  (okC (ok_aldn X rfl dL_law_1530)
  (okC (ok_ildn X rfl dL_law_1531)
  (okC (ok_ic X (by decide) dL_law_1532)
  (okC (ok_iadd X dL_law_1533)
  (okC (ok_iald X dL_law_1534)
  (okC (ok_calV X (i := 179) (e := en_91) rfl mt_91 rfl rfl rfl tw_770 tw_771 (Or.inl ⟨_, _, rfl⟩) tw_772 dL_law_1535)
  (okC (ok_aldn X rfl dL_law_1538)
  (okC (ok_aldn X rfl dL_law_1539)
  (okC (ok_ildn X rfl dL_law_1540)
  (okC (ok_ic X (by decide) dL_law_1541)
  (okC (ok_iadd X dL_law_1542)
  (okC (ok_iald X dL_law_1543)
  (okC (ok_calV X (i := 182) (e := en_223) rfl mt_223 rfl rfl rfl tw_1302 tw_1303 (Or.inl ⟨_, _, rfl⟩) tw_1304 dL_law_1544)
  (okN)))))))))))))), ok_cmeq X (by decide) rfl dL_law_1547⟩
set_option maxRecDepth 20000 in
theorem ob_L_law_82 {x : ip_Cx} {G : ip_Gl} {d : Nat} (X : ip_X x G tb 4 d 600000 7302250 RL code) (hr : x.2.2.2.2.2.2.2.2.1.sig.returnType = some .boolean) (hnm : x.2.2.2.2.2.2.2.2.1.name = "law") : ip_okB x G 4 pc_L_law 1550 ([oI (0)], tRI .boolean 600000 7302250) := ⟨_, okC (ok_ic X (by decide) dL_law_1550)
  (okN), ok_ret X hr dL_law_1551⟩
set_option maxRecDepth 20000 in
theorem ob_L_law_83 {x : ip_Cx} {G : ip_Gl} {d : Nat} (X : ip_X x G tb 4 d 600000 7302250 RL code) (hr : x.2.2.2.2.2.2.2.2.1.sig.returnType = some .boolean) (hnm : x.2.2.2.2.2.2.2.2.1.name = "law") : ip_okB x G 4 pc_L_law 1552 ([oLdA 1, oLdA 0, oLdI 3, oI (1), oBI (fun a b => a + b), oAldI, oCaV (ip_call tb d) 600000 7302250 5 92 2 0 0, oLdA 2, oLdA 0, oLdI 3, oI (1), oBI (fun a b => a + b), oAldI, oCaV (ip_call tb d) 600000 7302250 6 224 2 0 0], tCm (fun a b => a = b) 89 84) := ⟨_, okC (ok_aldn X rfl dL_law_1552)
  (okC (ok_aldn X rfl dL_law_1553)
  (okC (ok_ildn X rfl dL_law_1554)
  (okC (ok_ic X (by decide) dL_law_1555)
  (okC (ok_iadd X dL_law_1556)
  (okC (ok_iald X dL_law_1557)
  (okC (ok_calV X (i := 183) (e := en_92) rfl mt_92 rfl rfl rfl tw_774 tw_775 (Or.inl ⟨_, _, rfl⟩) tw_776 dL_law_1558)
  (okC (ok_aldn X rfl dL_law_1561)
  (okC (ok_aldn X rfl dL_law_1562)
  (okC (ok_ildn X rfl dL_law_1563)
  (okC (ok_ic X (by decide) dL_law_1564)
  (okC (ok_iadd X dL_law_1565)
  (okC (ok_iald X dL_law_1566)
  (okC (ok_calV X (i := 186) (e := en_224) rfl mt_224 rfl rfl rfl tw_1306 tw_1307 (Or.inl ⟨_, _, rfl⟩) tw_1308 dL_law_1567)
  (okN)))))))))))))), ok_cmeq X (by decide) rfl dL_law_1570⟩
set_option maxRecDepth 20000 in
theorem ob_L_law_84 {x : ip_Cx} {G : ip_Gl} {d : Nat} (X : ip_X x G tb 4 d 600000 7302250 RL code) (hr : x.2.2.2.2.2.2.2.2.1.sig.returnType = some .boolean) (hnm : x.2.2.2.2.2.2.2.2.1.name = "law") : ip_okB x G 4 pc_L_law 1573 ([oI (0)], tRI .boolean 600000 7302250) := ⟨_, okC (ok_ic X (by decide) dL_law_1573)
  (okN), ok_ret X hr dL_law_1574⟩
set_option maxRecDepth 20000 in
theorem ob_L_law_85 {x : ip_Cx} {G : ip_Gl} {d : Nat} (X : ip_X x G tb 4 d 600000 7302250 RL code) (hr : x.2.2.2.2.2.2.2.2.1.sig.returnType = some .boolean) (hnm : x.2.2.2.2.2.2.2.2.1.name = "law") : ip_okB x G 4 pc_L_law 1575 ([oLdA 1, oCaV (ip_call tb d) 600000 7302250 5 93 1 0 0, oLdA 2, oCaV (ip_call tb d) 600000 7302250 6 225 1 0 0], tCm (fun a b => a = b) 89 86) := ⟨_, okC (ok_aldn X rfl dL_law_1575)
  (okC (ok_calV X (i := 187) (e := en_93) rfl mt_93 rfl rfl rfl tw_778 tw_779 (Or.inl ⟨_, _, rfl⟩) tw_780 dL_law_1576)
  (okC (ok_aldn X rfl dL_law_1579)
  (okC (ok_calV X (i := 190) (e := en_225) rfl mt_225 rfl rfl rfl tw_1310 tw_1311 (Or.inl ⟨_, _, rfl⟩) tw_1312 dL_law_1580)
  (okN)))), ok_cmeq X (by decide) rfl dL_law_1583⟩
set_option maxRecDepth 20000 in
theorem ob_L_law_86 {x : ip_Cx} {G : ip_Gl} {d : Nat} (X : ip_X x G tb 4 d 600000 7302250 RL code) (hr : x.2.2.2.2.2.2.2.2.1.sig.returnType = some .boolean) (hnm : x.2.2.2.2.2.2.2.2.1.name = "law") : ip_okB x G 4 pc_L_law 1586 ([oI (0)], tRI .boolean 600000 7302250) := ⟨_, okC (ok_ic X (by decide) dL_law_1586)
  (okN), ok_ret X hr dL_law_1587⟩
set_option maxRecDepth 20000 in
theorem ob_L_law_87 {x : ip_Cx} {G : ip_Gl} {d : Nat} (X : ip_X x G tb 4 d 600000 7302250 RL code) (hr : x.2.2.2.2.2.2.2.2.1.sig.returnType = some .boolean) (hnm : x.2.2.2.2.2.2.2.2.1.name = "law") : ip_okB x G 4 pc_L_law 1588 ([oLdA 1, oCaV (ip_call tb d) 600000 7302250 5 94 1 0 0, oLdA 2, oCaV (ip_call tb d) 600000 7302250 6 226 1 0 0], tCm (fun a b => a = b) 89 88) := ⟨_, okC (ok_aldn X rfl dL_law_1588)
  (okC (ok_calV X (i := 191) (e := en_94) rfl mt_94 rfl rfl rfl tw_782 tw_783 (Or.inl ⟨_, _, rfl⟩) tw_784 dL_law_1589)
  (okC (ok_aldn X rfl dL_law_1592)
  (okC (ok_calV X (i := 194) (e := en_226) rfl mt_226 rfl rfl rfl tw_1314 tw_1315 (Or.inl ⟨_, _, rfl⟩) tw_1316 dL_law_1593)
  (okN)))), ok_cmeq X (by decide) rfl dL_law_1596⟩
set_option maxRecDepth 20000 in
theorem ob_L_law_88 {x : ip_Cx} {G : ip_Gl} {d : Nat} (X : ip_X x G tb 4 d 600000 7302250 RL code) (hr : x.2.2.2.2.2.2.2.2.1.sig.returnType = some .boolean) (hnm : x.2.2.2.2.2.2.2.2.1.name = "law") : ip_okB x G 4 pc_L_law 1599 ([oI (0)], tRI .boolean 600000 7302250) := ⟨_, okC (ok_ic X (by decide) dL_law_1599)
  (okN), ok_ret X hr dL_law_1600⟩
set_option maxRecDepth 20000 in
theorem ob_L_law_89 {x : ip_Cx} {G : ip_Gl} {d : Nat} (X : ip_X x G tb 4 d 600000 7302250 RL code) (hr : x.2.2.2.2.2.2.2.2.1.sig.returnType = some .boolean) (hnm : x.2.2.2.2.2.2.2.2.1.name = "law") : ip_okB x G 4 pc_L_law 1601 ([oInc 3 (5)], tGo 1) := ⟨_, okC (ok_inc X (by decide) dL_law_1601)
  (okN), ok_go X (by decide) dL_law_1604⟩
set_option maxRecDepth 20000 in
theorem ob_L_law_90 {x : ip_Cx} {G : ip_Gl} {d : Nat} (X : ip_X x G tb 4 d 600000 7302250 RL code) (hr : x.2.2.2.2.2.2.2.2.1.sig.returnType = some .boolean) (hnm : x.2.2.2.2.2.2.2.2.1.name = "law") : ip_okB x G 4 pc_L_law 1607 ([oI (1)], tRI .boolean 600000 7302250) := ⟨_, okC (ok_ic X (by decide) dL_law_1607)
  (okN), ok_ret X hr dL_law_1608⟩
theorem om_law {x : ip_Cx} {G : ip_Gl} {d : Nat} (X : ip_X x G tb 4 d 600000 7302250 RL code) (hr : x.2.2.2.2.2.2.2.2.1.sig.returnType = some .boolean) (hnm : x.2.2.2.2.2.2.2.2.1.name = "law") : ip_okL x G 4 pc_L_law 0 (T_L_law (ip_call tb d)) := ⟨ob_L_law_0 X hr hnm, ⟨ob_L_law_1 X hr hnm, ⟨ob_L_law_2 X hr hnm, ⟨ob_L_law_3 X hr hnm, ⟨ob_L_law_4 X hr hnm, ⟨ob_L_law_5 X hr hnm, ⟨ob_L_law_6 X hr hnm, ⟨ob_L_law_7 X hr hnm, ⟨ob_L_law_8 X hr hnm, ⟨ob_L_law_9 X hr hnm, ⟨ob_L_law_10 X hr hnm, ⟨ob_L_law_11 X hr hnm, ⟨ob_L_law_12 X hr hnm, ⟨ob_L_law_13 X hr hnm, ⟨ob_L_law_14 X hr hnm, ⟨ob_L_law_15 X hr hnm, ⟨ob_L_law_16 X hr hnm, ⟨ob_L_law_17 X hr hnm, ⟨ob_L_law_18 X hr hnm, ⟨ob_L_law_19 X hr hnm, ⟨ob_L_law_20 X hr hnm, ⟨ob_L_law_21 X hr hnm, ⟨ob_L_law_22 X hr hnm, ⟨ob_L_law_23 X hr hnm, ⟨ob_L_law_24 X hr hnm, ⟨ob_L_law_25 X hr hnm, ⟨ob_L_law_26 X hr hnm, ⟨ob_L_law_27 X hr hnm, ⟨ob_L_law_28 X hr hnm, ⟨ob_L_law_29 X hr hnm, ⟨ob_L_law_30 X hr hnm, ⟨ob_L_law_31 X hr hnm, ⟨ob_L_law_32 X hr hnm, ⟨ob_L_law_33 X hr hnm, ⟨ob_L_law_34 X hr hnm, ⟨ob_L_law_35 X hr hnm, ⟨ob_L_law_36 X hr hnm, ⟨ob_L_law_37 X hr hnm, ⟨ob_L_law_38 X hr hnm, ⟨ob_L_law_39 X hr hnm, ⟨ob_L_law_40 X hr hnm, ⟨ob_L_law_41 X hr hnm, ⟨ob_L_law_42 X hr hnm, ⟨ob_L_law_43 X hr hnm, ⟨ob_L_law_44 X hr hnm, ⟨ob_L_law_45 X hr hnm, ⟨ob_L_law_46 X hr hnm, ⟨ob_L_law_47 X hr hnm, ⟨ob_L_law_48 X hr hnm, ⟨ob_L_law_49 X hr hnm, ⟨ob_L_law_50 X hr hnm, ⟨ob_L_law_51 X hr hnm, ⟨ob_L_law_52 X hr hnm, ⟨ob_L_law_53 X hr hnm, ⟨ob_L_law_54 X hr hnm, ⟨ob_L_law_55 X hr hnm, ⟨ob_L_law_56 X hr hnm, ⟨ob_L_law_57 X hr hnm, ⟨ob_L_law_58 X hr hnm, ⟨ob_L_law_59 X hr hnm, ⟨ob_L_law_60 X hr hnm, ⟨ob_L_law_61 X hr hnm, ⟨ob_L_law_62 X hr hnm, ⟨ob_L_law_63 X hr hnm, ⟨ob_L_law_64 X hr hnm, ⟨ob_L_law_65 X hr hnm, ⟨ob_L_law_66 X hr hnm, ⟨ob_L_law_67 X hr hnm, ⟨ob_L_law_68 X hr hnm, ⟨ob_L_law_69 X hr hnm, ⟨ob_L_law_70 X hr hnm, ⟨ob_L_law_71 X hr hnm, ⟨ob_L_law_72 X hr hnm, ⟨ob_L_law_73 X hr hnm, ⟨ob_L_law_74 X hr hnm, ⟨ob_L_law_75 X hr hnm, ⟨ob_L_law_76 X hr hnm, ⟨ob_L_law_77 X hr hnm, ⟨ob_L_law_78 X hr hnm, ⟨ob_L_law_79 X hr hnm, ⟨ob_L_law_80 X hr hnm, ⟨ob_L_law_81 X hr hnm, ⟨ob_L_law_82 X hr hnm, ⟨ob_L_law_83 X hr hnm, ⟨ob_L_law_84 X hr hnm, ⟨ob_L_law_85 X hr hnm, ⟨ob_L_law_86 X hr hnm, ⟨ob_L_law_87 X hr hnm, ⟨ob_L_law_88 X hr hnm, ⟨ob_L_law_89 X hr hnm, ⟨ob_L_law_90 X hr hnm, trivial⟩⟩⟩⟩⟩⟩⟩⟩⟩⟩⟩⟩⟩⟩⟩⟩⟩⟩⟩⟩⟩⟩⟩⟩⟩⟩⟩⟩⟩⟩⟩⟩⟩⟩⟩⟩⟩⟩⟩⟩⟩⟩⟩⟩⟩⟩⟩⟩⟩⟩⟩⟩⟩⟩⟩⟩⟩⟩⟩⟩⟩⟩⟩⟩⟩⟩⟩⟩⟩⟩⟩⟩⟩⟩⟩⟩⟩⟩⟩⟩⟩⟩⟩⟩⟩⟩⟩⟩⟩⟩⟩
