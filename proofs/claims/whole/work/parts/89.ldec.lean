theorem dL_0 : decode cL_law 0 = .ok (.new 7, 3) := by decide +kernel
theorem dL_3 : decode cL_law 3 = .ok (.dup, 1) := by decide +kernel
theorem dL_4 : decode cL_law 4 = .ok (.invokespecial 9, 3) := by decide +kernel
theorem dL_7 : decode cL_law 7 = .ok (.astore_n 1, 1) := by decide +kernel
theorem dL_8 : decode cL_law 8 = .ok (.new 10, 3) := by decide +kernel
theorem dL_11 : decode cL_law 11 = .ok (.dup, 1) := by decide +kernel
theorem dL_12 : decode cL_law 12 = .ok (.invokespecial 12, 3) := by decide +kernel
theorem dL_15 : decode cL_law 15 = .ok (.astore_n 2, 1) := by decide +kernel
theorem dL_16 : decode cL_law 16 = .ok (.iconst 0, 1) := by decide +kernel
theorem dL_17 : decode cL_law 17 = .ok (.istore_n 3, 1) := by decide +kernel
theorem dL_18 : decode cL_law 18 = .ok (.iload_n 3, 1) := by decide +kernel
theorem dL_19 : decode cL_law 19 = .ok (.aload_n 0, 1) := by decide +kernel
theorem dL_20 : decode cL_law 20 = .ok (.arraylength, 1) := by decide +kernel
theorem dL_21 : decode cL_law 21 = .ok (.bipush 6, 2) := by decide +kernel
theorem dL_23 : decode cL_law 23 = .ok (.isub, 1) := by decide +kernel
theorem dL_24 : decode cL_law 24 = .ok (.if_icmp .gt 1602, 3) := by decide +kernel
theorem dL_27 : decode cL_law 27 = .ok (.aload_n 0, 1) := by decide +kernel
theorem dL_28 : decode cL_law 28 = .ok (.iload_n 3, 1) := by decide +kernel
theorem dL_29 : decode cL_law 29 = .ok (.iaload, 1) := by decide +kernel
theorem dL_30 : decode cL_law 30 = .ok (.bipush 63, 2) := by decide +kernel
theorem dL_32 : decode cL_law 32 = .ok (.iand, 1) := by decide +kernel
theorem dL_33 : decode cL_law 33 = .ok (.tableswitch 1587 0 45 #[199, 262, 285, 338, 371, 394, 427, 480, 503, 536, 559, 582, 595, 608, 631, 664, 697, 710, 743, 796, 819, 852, 885, 908, 941, 974, 997, 1030, 1063, 1086, 1099, 1142, 1175, 1208, 1251, 1274, 1307, 1340, 1363, 1416, 1459, 1492, 1515, 1538, 1561, 1574], 199) := by decide +kernel
theorem dL_232 : decode cL_law 232 = .ok (.aload_n 1, 1) := by decide +kernel
theorem dL_233 : decode cL_law 233 = .ok (.aload_n 0, 1) := by decide +kernel
theorem dL_234 : decode cL_law 234 = .ok (.iload_n 3, 1) := by decide +kernel
theorem dL_235 : decode cL_law 235 = .ok (.iconst 1, 1) := by decide +kernel
theorem dL_236 : decode cL_law 236 = .ok (.iadd, 1) := by decide +kernel
theorem dL_237 : decode cL_law 237 = .ok (.iaload, 1) := by decide +kernel
theorem dL_238 : decode cL_law 238 = .ok (.aload_n 0, 1) := by decide +kernel
theorem dL_239 : decode cL_law 239 = .ok (.iload_n 3, 1) := by decide +kernel
theorem dL_240 : decode cL_law 240 = .ok (.iconst 2, 1) := by decide +kernel
theorem dL_241 : decode cL_law 241 = .ok (.iadd, 1) := by decide +kernel
theorem dL_242 : decode cL_law 242 = .ok (.iaload, 1) := by decide +kernel
theorem dL_243 : decode cL_law 243 = .ok (.aload_n 0, 1) := by decide +kernel
theorem dL_244 : decode cL_law 244 = .ok (.iload_n 3, 1) := by decide +kernel
theorem dL_245 : decode cL_law 245 = .ok (.iconst 3, 1) := by decide +kernel
theorem dL_246 : decode cL_law 246 = .ok (.iadd, 1) := by decide +kernel
theorem dL_247 : decode cL_law 247 = .ok (.iaload, 1) := by decide +kernel
theorem dL_248 : decode cL_law 248 = .ok (.aload_n 0, 1) := by decide +kernel
theorem dL_249 : decode cL_law 249 = .ok (.iload_n 3, 1) := by decide +kernel
theorem dL_250 : decode cL_law 250 = .ok (.iconst 4, 1) := by decide +kernel
theorem dL_251 : decode cL_law 251 = .ok (.iadd, 1) := by decide +kernel
theorem dL_252 : decode cL_law 252 = .ok (.iaload, 1) := by decide +kernel
theorem dL_253 : decode cL_law 253 = .ok (.aload_n 0, 1) := by decide +kernel
theorem dL_254 : decode cL_law 254 = .ok (.iload_n 3, 1) := by decide +kernel
theorem dL_255 : decode cL_law 255 = .ok (.iconst 5, 1) := by decide +kernel
theorem dL_256 : decode cL_law 256 = .ok (.iadd, 1) := by decide +kernel
theorem dL_257 : decode cL_law 257 = .ok (.iaload, 1) := by decide +kernel
theorem dL_258 : decode cL_law 258 = .ok (.invokevirtual 13, 3) := by decide +kernel
theorem dL_261 : decode cL_law 261 = .ok (.aload_n 2, 1) := by decide +kernel
theorem dL_262 : decode cL_law 262 = .ok (.aload_n 0, 1) := by decide +kernel
theorem dL_263 : decode cL_law 263 = .ok (.iload_n 3, 1) := by decide +kernel
theorem dL_264 : decode cL_law 264 = .ok (.iconst 1, 1) := by decide +kernel
theorem dL_265 : decode cL_law 265 = .ok (.iadd, 1) := by decide +kernel
theorem dL_266 : decode cL_law 266 = .ok (.iaload, 1) := by decide +kernel
theorem dL_267 : decode cL_law 267 = .ok (.aload_n 0, 1) := by decide +kernel
theorem dL_268 : decode cL_law 268 = .ok (.iload_n 3, 1) := by decide +kernel
theorem dL_269 : decode cL_law 269 = .ok (.iconst 2, 1) := by decide +kernel
theorem dL_270 : decode cL_law 270 = .ok (.iadd, 1) := by decide +kernel
theorem dL_271 : decode cL_law 271 = .ok (.iaload, 1) := by decide +kernel
theorem dL_272 : decode cL_law 272 = .ok (.aload_n 0, 1) := by decide +kernel
theorem dL_273 : decode cL_law 273 = .ok (.iload_n 3, 1) := by decide +kernel
theorem dL_274 : decode cL_law 274 = .ok (.iconst 3, 1) := by decide +kernel
theorem dL_275 : decode cL_law 275 = .ok (.iadd, 1) := by decide +kernel
theorem dL_276 : decode cL_law 276 = .ok (.iaload, 1) := by decide +kernel
theorem dL_277 : decode cL_law 277 = .ok (.aload_n 0, 1) := by decide +kernel
theorem dL_278 : decode cL_law 278 = .ok (.iload_n 3, 1) := by decide +kernel
theorem dL_279 : decode cL_law 279 = .ok (.iconst 4, 1) := by decide +kernel
theorem dL_280 : decode cL_law 280 = .ok (.iadd, 1) := by decide +kernel
theorem dL_281 : decode cL_law 281 = .ok (.iaload, 1) := by decide +kernel
theorem dL_282 : decode cL_law 282 = .ok (.aload_n 0, 1) := by decide +kernel
theorem dL_283 : decode cL_law 283 = .ok (.iload_n 3, 1) := by decide +kernel
theorem dL_284 : decode cL_law 284 = .ok (.iconst 5, 1) := by decide +kernel
theorem dL_285 : decode cL_law 285 = .ok (.iadd, 1) := by decide +kernel
theorem dL_286 : decode cL_law 286 = .ok (.iaload, 1) := by decide +kernel
theorem dL_287 : decode cL_law 287 = .ok (.invokevirtual 17, 3) := by decide +kernel
theorem dL_290 : decode cL_law 290 = .ok (.if_icmp .eq 1330, 3) := by decide +kernel
theorem dL_293 : decode cL_law 293 = .ok (.iconst 0, 1) := by decide +kernel
theorem dL_294 : decode cL_law 294 = .ok (.ireturn, 1) := by decide +kernel
theorem dL_295 : decode cL_law 295 = .ok (.aload_n 1, 1) := by decide +kernel
theorem dL_296 : decode cL_law 296 = .ok (.aload_n 0, 1) := by decide +kernel
theorem dL_297 : decode cL_law 297 = .ok (.iload_n 3, 1) := by decide +kernel
theorem dL_298 : decode cL_law 298 = .ok (.iconst 1, 1) := by decide +kernel
theorem dL_299 : decode cL_law 299 = .ok (.iadd, 1) := by decide +kernel
theorem dL_300 : decode cL_law 300 = .ok (.iaload, 1) := by decide +kernel
theorem dL_301 : decode cL_law 301 = .ok (.invokevirtual 18, 3) := by decide +kernel
theorem dL_304 : decode cL_law 304 = .ok (.aload_n 2, 1) := by decide +kernel
theorem dL_305 : decode cL_law 305 = .ok (.aload_n 0, 1) := by decide +kernel
theorem dL_306 : decode cL_law 306 = .ok (.iload_n 3, 1) := by decide +kernel
theorem dL_307 : decode cL_law 307 = .ok (.iconst 1, 1) := by decide +kernel
theorem dL_308 : decode cL_law 308 = .ok (.iadd, 1) := by decide +kernel
theorem dL_309 : decode cL_law 309 = .ok (.iaload, 1) := by decide +kernel
theorem dL_310 : decode cL_law 310 = .ok (.invokevirtual 22, 3) := by decide +kernel
theorem dL_313 : decode cL_law 313 = .ok (.if_icmp .eq 1307, 3) := by decide +kernel
theorem dL_316 : decode cL_law 316 = .ok (.iconst 0, 1) := by decide +kernel
theorem dL_317 : decode cL_law 317 = .ok (.ireturn, 1) := by decide +kernel
theorem dL_318 : decode cL_law 318 = .ok (.aload_n 1, 1) := by decide +kernel
theorem dL_319 : decode cL_law 319 = .ok (.aload_n 0, 1) := by decide +kernel
theorem dL_320 : decode cL_law 320 = .ok (.iload_n 3, 1) := by decide +kernel
theorem dL_321 : decode cL_law 321 = .ok (.iconst 1, 1) := by decide +kernel
theorem dL_322 : decode cL_law 322 = .ok (.iadd, 1) := by decide +kernel
theorem dL_323 : decode cL_law 323 = .ok (.iaload, 1) := by decide +kernel
theorem dL_324 : decode cL_law 324 = .ok (.aload_n 0, 1) := by decide +kernel
theorem dL_325 : decode cL_law 325 = .ok (.iload_n 3, 1) := by decide +kernel
theorem dL_326 : decode cL_law 326 = .ok (.iconst 2, 1) := by decide +kernel
theorem dL_327 : decode cL_law 327 = .ok (.iadd, 1) := by decide +kernel
theorem dL_328 : decode cL_law 328 = .ok (.iaload, 1) := by decide +kernel
theorem dL_329 : decode cL_law 329 = .ok (.aload_n 0, 1) := by decide +kernel
theorem dL_330 : decode cL_law 330 = .ok (.iload_n 3, 1) := by decide +kernel
theorem dL_331 : decode cL_law 331 = .ok (.iconst 3, 1) := by decide +kernel
theorem dL_332 : decode cL_law 332 = .ok (.iadd, 1) := by decide +kernel
theorem dL_333 : decode cL_law 333 = .ok (.iaload, 1) := by decide +kernel
theorem dL_334 : decode cL_law 334 = .ok (.aload_n 0, 1) := by decide +kernel
theorem dL_335 : decode cL_law 335 = .ok (.iload_n 3, 1) := by decide +kernel
theorem dL_336 : decode cL_law 336 = .ok (.iconst 4, 1) := by decide +kernel
theorem dL_337 : decode cL_law 337 = .ok (.iadd, 1) := by decide +kernel
theorem dL_338 : decode cL_law 338 = .ok (.iaload, 1) := by decide +kernel
theorem dL_339 : decode cL_law 339 = .ok (.invokevirtual 23, 3) := by decide +kernel
theorem dL_342 : decode cL_law 342 = .ok (.aload_n 2, 1) := by decide +kernel
theorem dL_343 : decode cL_law 343 = .ok (.aload_n 0, 1) := by decide +kernel
theorem dL_344 : decode cL_law 344 = .ok (.iload_n 3, 1) := by decide +kernel
theorem dL_345 : decode cL_law 345 = .ok (.iconst 1, 1) := by decide +kernel
theorem dL_346 : decode cL_law 346 = .ok (.iadd, 1) := by decide +kernel
theorem dL_347 : decode cL_law 347 = .ok (.iaload, 1) := by decide +kernel
theorem dL_348 : decode cL_law 348 = .ok (.aload_n 0, 1) := by decide +kernel
theorem dL_349 : decode cL_law 349 = .ok (.iload_n 3, 1) := by decide +kernel
theorem dL_350 : decode cL_law 350 = .ok (.iconst 2, 1) := by decide +kernel
theorem dL_351 : decode cL_law 351 = .ok (.iadd, 1) := by decide +kernel
theorem dL_352 : decode cL_law 352 = .ok (.iaload, 1) := by decide +kernel
theorem dL_353 : decode cL_law 353 = .ok (.aload_n 0, 1) := by decide +kernel
theorem dL_354 : decode cL_law 354 = .ok (.iload_n 3, 1) := by decide +kernel
theorem dL_355 : decode cL_law 355 = .ok (.iconst 3, 1) := by decide +kernel
theorem dL_356 : decode cL_law 356 = .ok (.iadd, 1) := by decide +kernel
theorem dL_357 : decode cL_law 357 = .ok (.iaload, 1) := by decide +kernel
theorem dL_358 : decode cL_law 358 = .ok (.aload_n 0, 1) := by decide +kernel
theorem dL_359 : decode cL_law 359 = .ok (.iload_n 3, 1) := by decide +kernel
theorem dL_360 : decode cL_law 360 = .ok (.iconst 4, 1) := by decide +kernel
theorem dL_361 : decode cL_law 361 = .ok (.iadd, 1) := by decide +kernel
theorem dL_362 : decode cL_law 362 = .ok (.iaload, 1) := by decide +kernel
theorem dL_363 : decode cL_law 363 = .ok (.invokevirtual 27, 3) := by decide +kernel
theorem dL_366 : decode cL_law 366 = .ok (.if_icmp .eq 1254, 3) := by decide +kernel
theorem dL_369 : decode cL_law 369 = .ok (.iconst 0, 1) := by decide +kernel
theorem dL_370 : decode cL_law 370 = .ok (.ireturn, 1) := by decide +kernel
theorem dL_371 : decode cL_law 371 = .ok (.aload_n 1, 1) := by decide +kernel
theorem dL_372 : decode cL_law 372 = .ok (.aload_n 0, 1) := by decide +kernel
theorem dL_373 : decode cL_law 373 = .ok (.iload_n 3, 1) := by decide +kernel
theorem dL_374 : decode cL_law 374 = .ok (.iconst 1, 1) := by decide +kernel
theorem dL_375 : decode cL_law 375 = .ok (.iadd, 1) := by decide +kernel
theorem dL_376 : decode cL_law 376 = .ok (.iaload, 1) := by decide +kernel
theorem dL_377 : decode cL_law 377 = .ok (.aload_n 0, 1) := by decide +kernel
theorem dL_378 : decode cL_law 378 = .ok (.iload_n 3, 1) := by decide +kernel
theorem dL_379 : decode cL_law 379 = .ok (.iconst 2, 1) := by decide +kernel
theorem dL_380 : decode cL_law 380 = .ok (.iadd, 1) := by decide +kernel
theorem dL_381 : decode cL_law 381 = .ok (.iaload, 1) := by decide +kernel
theorem dL_382 : decode cL_law 382 = .ok (.invokevirtual 28, 3) := by decide +kernel
theorem dL_385 : decode cL_law 385 = .ok (.aload_n 2, 1) := by decide +kernel
theorem dL_386 : decode cL_law 386 = .ok (.aload_n 0, 1) := by decide +kernel
theorem dL_387 : decode cL_law 387 = .ok (.iload_n 3, 1) := by decide +kernel
theorem dL_388 : decode cL_law 388 = .ok (.iconst 1, 1) := by decide +kernel
theorem dL_389 : decode cL_law 389 = .ok (.iadd, 1) := by decide +kernel
theorem dL_390 : decode cL_law 390 = .ok (.iaload, 1) := by decide +kernel
theorem dL_391 : decode cL_law 391 = .ok (.aload_n 0, 1) := by decide +kernel
theorem dL_392 : decode cL_law 392 = .ok (.iload_n 3, 1) := by decide +kernel
theorem dL_393 : decode cL_law 393 = .ok (.iconst 2, 1) := by decide +kernel
theorem dL_394 : decode cL_law 394 = .ok (.iadd, 1) := by decide +kernel
theorem dL_395 : decode cL_law 395 = .ok (.iaload, 1) := by decide +kernel
theorem dL_396 : decode cL_law 396 = .ok (.invokevirtual 32, 3) := by decide +kernel
theorem dL_399 : decode cL_law 399 = .ok (.if_icmp .eq 1221, 3) := by decide +kernel
theorem dL_402 : decode cL_law 402 = .ok (.iconst 0, 1) := by decide +kernel
theorem dL_403 : decode cL_law 403 = .ok (.ireturn, 1) := by decide +kernel
theorem dL_404 : decode cL_law 404 = .ok (.aload_n 1, 1) := by decide +kernel
theorem dL_405 : decode cL_law 405 = .ok (.aload_n 0, 1) := by decide +kernel
theorem dL_406 : decode cL_law 406 = .ok (.iload_n 3, 1) := by decide +kernel
theorem dL_407 : decode cL_law 407 = .ok (.iconst 1, 1) := by decide +kernel
theorem dL_408 : decode cL_law 408 = .ok (.iadd, 1) := by decide +kernel
theorem dL_409 : decode cL_law 409 = .ok (.iaload, 1) := by decide +kernel
theorem dL_410 : decode cL_law 410 = .ok (.invokevirtual 33, 3) := by decide +kernel
theorem dL_413 : decode cL_law 413 = .ok (.aload_n 2, 1) := by decide +kernel
theorem dL_414 : decode cL_law 414 = .ok (.aload_n 0, 1) := by decide +kernel
theorem dL_415 : decode cL_law 415 = .ok (.iload_n 3, 1) := by decide +kernel
theorem dL_416 : decode cL_law 416 = .ok (.iconst 1, 1) := by decide +kernel
theorem dL_417 : decode cL_law 417 = .ok (.iadd, 1) := by decide +kernel
theorem dL_418 : decode cL_law 418 = .ok (.iaload, 1) := by decide +kernel
theorem dL_419 : decode cL_law 419 = .ok (.invokevirtual 36, 3) := by decide +kernel
theorem dL_422 : decode cL_law 422 = .ok (.if_icmp .eq 1198, 3) := by decide +kernel
theorem dL_425 : decode cL_law 425 = .ok (.iconst 0, 1) := by decide +kernel
theorem dL_426 : decode cL_law 426 = .ok (.ireturn, 1) := by decide +kernel
theorem dL_427 : decode cL_law 427 = .ok (.aload_n 1, 1) := by decide +kernel
theorem dL_428 : decode cL_law 428 = .ok (.aload_n 0, 1) := by decide +kernel
theorem dL_429 : decode cL_law 429 = .ok (.iload_n 3, 1) := by decide +kernel
theorem dL_430 : decode cL_law 430 = .ok (.iconst 1, 1) := by decide +kernel
theorem dL_431 : decode cL_law 431 = .ok (.iadd, 1) := by decide +kernel
theorem dL_432 : decode cL_law 432 = .ok (.iaload, 1) := by decide +kernel
theorem dL_433 : decode cL_law 433 = .ok (.aload_n 0, 1) := by decide +kernel
theorem dL_434 : decode cL_law 434 = .ok (.iload_n 3, 1) := by decide +kernel
theorem dL_435 : decode cL_law 435 = .ok (.iconst 2, 1) := by decide +kernel
theorem dL_436 : decode cL_law 436 = .ok (.iadd, 1) := by decide +kernel
theorem dL_437 : decode cL_law 437 = .ok (.iaload, 1) := by decide +kernel
theorem dL_438 : decode cL_law 438 = .ok (.invokevirtual 37, 3) := by decide +kernel
theorem dL_441 : decode cL_law 441 = .ok (.aload_n 2, 1) := by decide +kernel
theorem dL_442 : decode cL_law 442 = .ok (.aload_n 0, 1) := by decide +kernel
theorem dL_443 : decode cL_law 443 = .ok (.iload_n 3, 1) := by decide +kernel
theorem dL_444 : decode cL_law 444 = .ok (.iconst 1, 1) := by decide +kernel
theorem dL_445 : decode cL_law 445 = .ok (.iadd, 1) := by decide +kernel
theorem dL_446 : decode cL_law 446 = .ok (.iaload, 1) := by decide +kernel
theorem dL_447 : decode cL_law 447 = .ok (.aload_n 0, 1) := by decide +kernel
theorem dL_448 : decode cL_law 448 = .ok (.iload_n 3, 1) := by decide +kernel
theorem dL_449 : decode cL_law 449 = .ok (.iconst 2, 1) := by decide +kernel
theorem dL_450 : decode cL_law 450 = .ok (.iadd, 1) := by decide +kernel
theorem dL_451 : decode cL_law 451 = .ok (.iaload, 1) := by decide +kernel
theorem dL_452 : decode cL_law 452 = .ok (.invokevirtual 40, 3) := by decide +kernel
theorem dL_455 : decode cL_law 455 = .ok (.if_icmp .eq 1165, 3) := by decide +kernel
theorem dL_458 : decode cL_law 458 = .ok (.iconst 0, 1) := by decide +kernel
theorem dL_459 : decode cL_law 459 = .ok (.ireturn, 1) := by decide +kernel
theorem dL_460 : decode cL_law 460 = .ok (.aload_n 1, 1) := by decide +kernel
theorem dL_461 : decode cL_law 461 = .ok (.aload_n 0, 1) := by decide +kernel
theorem dL_462 : decode cL_law 462 = .ok (.iload_n 3, 1) := by decide +kernel
theorem dL_463 : decode cL_law 463 = .ok (.iconst 1, 1) := by decide +kernel
theorem dL_464 : decode cL_law 464 = .ok (.iadd, 1) := by decide +kernel
theorem dL_465 : decode cL_law 465 = .ok (.iaload, 1) := by decide +kernel
theorem dL_466 : decode cL_law 466 = .ok (.aload_n 0, 1) := by decide +kernel
theorem dL_467 : decode cL_law 467 = .ok (.iload_n 3, 1) := by decide +kernel
theorem dL_468 : decode cL_law 468 = .ok (.iconst 2, 1) := by decide +kernel
theorem dL_469 : decode cL_law 469 = .ok (.iadd, 1) := by decide +kernel
theorem dL_470 : decode cL_law 470 = .ok (.iaload, 1) := by decide +kernel
theorem dL_471 : decode cL_law 471 = .ok (.aload_n 0, 1) := by decide +kernel
theorem dL_472 : decode cL_law 472 = .ok (.iload_n 3, 1) := by decide +kernel
theorem dL_473 : decode cL_law 473 = .ok (.iconst 3, 1) := by decide +kernel
theorem dL_474 : decode cL_law 474 = .ok (.iadd, 1) := by decide +kernel
theorem dL_475 : decode cL_law 475 = .ok (.iaload, 1) := by decide +kernel
theorem dL_476 : decode cL_law 476 = .ok (.aload_n 0, 1) := by decide +kernel
theorem dL_477 : decode cL_law 477 = .ok (.iload_n 3, 1) := by decide +kernel
theorem dL_478 : decode cL_law 478 = .ok (.iconst 4, 1) := by decide +kernel
theorem dL_479 : decode cL_law 479 = .ok (.iadd, 1) := by decide +kernel
theorem dL_480 : decode cL_law 480 = .ok (.iaload, 1) := by decide +kernel
theorem dL_481 : decode cL_law 481 = .ok (.invokevirtual 41, 3) := by decide +kernel
theorem dL_484 : decode cL_law 484 = .ok (.aload_n 2, 1) := by decide +kernel
theorem dL_485 : decode cL_law 485 = .ok (.aload_n 0, 1) := by decide +kernel
theorem dL_486 : decode cL_law 486 = .ok (.iload_n 3, 1) := by decide +kernel
theorem dL_487 : decode cL_law 487 = .ok (.iconst 1, 1) := by decide +kernel
theorem dL_488 : decode cL_law 488 = .ok (.iadd, 1) := by decide +kernel
theorem dL_489 : decode cL_law 489 = .ok (.iaload, 1) := by decide +kernel
theorem dL_490 : decode cL_law 490 = .ok (.aload_n 0, 1) := by decide +kernel
theorem dL_491 : decode cL_law 491 = .ok (.iload_n 3, 1) := by decide +kernel
theorem dL_492 : decode cL_law 492 = .ok (.iconst 2, 1) := by decide +kernel
theorem dL_493 : decode cL_law 493 = .ok (.iadd, 1) := by decide +kernel
theorem dL_494 : decode cL_law 494 = .ok (.iaload, 1) := by decide +kernel
theorem dL_495 : decode cL_law 495 = .ok (.aload_n 0, 1) := by decide +kernel
theorem dL_496 : decode cL_law 496 = .ok (.iload_n 3, 1) := by decide +kernel
theorem dL_497 : decode cL_law 497 = .ok (.iconst 3, 1) := by decide +kernel
theorem dL_498 : decode cL_law 498 = .ok (.iadd, 1) := by decide +kernel
theorem dL_499 : decode cL_law 499 = .ok (.iaload, 1) := by decide +kernel
theorem dL_500 : decode cL_law 500 = .ok (.aload_n 0, 1) := by decide +kernel
theorem dL_501 : decode cL_law 501 = .ok (.iload_n 3, 1) := by decide +kernel
theorem dL_502 : decode cL_law 502 = .ok (.iconst 4, 1) := by decide +kernel
theorem dL_503 : decode cL_law 503 = .ok (.iadd, 1) := by decide +kernel
theorem dL_504 : decode cL_law 504 = .ok (.iaload, 1) := by decide +kernel
theorem dL_505 : decode cL_law 505 = .ok (.invokevirtual 44, 3) := by decide +kernel
theorem dL_508 : decode cL_law 508 = .ok (.if_icmp .eq 1112, 3) := by decide +kernel
theorem dL_511 : decode cL_law 511 = .ok (.iconst 0, 1) := by decide +kernel
theorem dL_512 : decode cL_law 512 = .ok (.ireturn, 1) := by decide +kernel
theorem dL_513 : decode cL_law 513 = .ok (.aload_n 1, 1) := by decide +kernel
theorem dL_514 : decode cL_law 514 = .ok (.aload_n 0, 1) := by decide +kernel
theorem dL_515 : decode cL_law 515 = .ok (.iload_n 3, 1) := by decide +kernel
theorem dL_516 : decode cL_law 516 = .ok (.iconst 1, 1) := by decide +kernel
theorem dL_517 : decode cL_law 517 = .ok (.iadd, 1) := by decide +kernel
theorem dL_518 : decode cL_law 518 = .ok (.iaload, 1) := by decide +kernel
theorem dL_519 : decode cL_law 519 = .ok (.invokevirtual 45, 3) := by decide +kernel
theorem dL_522 : decode cL_law 522 = .ok (.aload_n 2, 1) := by decide +kernel
theorem dL_523 : decode cL_law 523 = .ok (.aload_n 0, 1) := by decide +kernel
theorem dL_524 : decode cL_law 524 = .ok (.iload_n 3, 1) := by decide +kernel
theorem dL_525 : decode cL_law 525 = .ok (.iconst 1, 1) := by decide +kernel
theorem dL_526 : decode cL_law 526 = .ok (.iadd, 1) := by decide +kernel
theorem dL_527 : decode cL_law 527 = .ok (.iaload, 1) := by decide +kernel
theorem dL_528 : decode cL_law 528 = .ok (.invokevirtual 49, 3) := by decide +kernel
theorem dL_531 : decode cL_law 531 = .ok (.if_icmp .eq 1089, 3) := by decide +kernel
theorem dL_534 : decode cL_law 534 = .ok (.iconst 0, 1) := by decide +kernel
theorem dL_535 : decode cL_law 535 = .ok (.ireturn, 1) := by decide +kernel
theorem dL_536 : decode cL_law 536 = .ok (.aload_n 1, 1) := by decide +kernel
theorem dL_537 : decode cL_law 537 = .ok (.aload_n 0, 1) := by decide +kernel
theorem dL_538 : decode cL_law 538 = .ok (.iload_n 3, 1) := by decide +kernel
theorem dL_539 : decode cL_law 539 = .ok (.iconst 1, 1) := by decide +kernel
theorem dL_540 : decode cL_law 540 = .ok (.iadd, 1) := by decide +kernel
theorem dL_541 : decode cL_law 541 = .ok (.iaload, 1) := by decide +kernel
theorem dL_542 : decode cL_law 542 = .ok (.aload_n 0, 1) := by decide +kernel
theorem dL_543 : decode cL_law 543 = .ok (.iload_n 3, 1) := by decide +kernel
theorem dL_544 : decode cL_law 544 = .ok (.iconst 2, 1) := by decide +kernel
theorem dL_545 : decode cL_law 545 = .ok (.iadd, 1) := by decide +kernel
theorem dL_546 : decode cL_law 546 = .ok (.iaload, 1) := by decide +kernel
theorem dL_547 : decode cL_law 547 = .ok (.invokevirtual 50, 3) := by decide +kernel
theorem dL_550 : decode cL_law 550 = .ok (.aload_n 2, 1) := by decide +kernel
theorem dL_551 : decode cL_law 551 = .ok (.aload_n 0, 1) := by decide +kernel
theorem dL_552 : decode cL_law 552 = .ok (.iload_n 3, 1) := by decide +kernel
theorem dL_553 : decode cL_law 553 = .ok (.iconst 1, 1) := by decide +kernel
theorem dL_554 : decode cL_law 554 = .ok (.iadd, 1) := by decide +kernel
theorem dL_555 : decode cL_law 555 = .ok (.iaload, 1) := by decide +kernel
theorem dL_556 : decode cL_law 556 = .ok (.aload_n 0, 1) := by decide +kernel
theorem dL_557 : decode cL_law 557 = .ok (.iload_n 3, 1) := by decide +kernel
theorem dL_558 : decode cL_law 558 = .ok (.iconst 2, 1) := by decide +kernel
theorem dL_559 : decode cL_law 559 = .ok (.iadd, 1) := by decide +kernel
theorem dL_560 : decode cL_law 560 = .ok (.iaload, 1) := by decide +kernel
theorem dL_561 : decode cL_law 561 = .ok (.invokevirtual 53, 3) := by decide +kernel
theorem dL_564 : decode cL_law 564 = .ok (.if_icmp .eq 1056, 3) := by decide +kernel
theorem dL_567 : decode cL_law 567 = .ok (.iconst 0, 1) := by decide +kernel
theorem dL_568 : decode cL_law 568 = .ok (.ireturn, 1) := by decide +kernel
theorem dL_569 : decode cL_law 569 = .ok (.aload_n 1, 1) := by decide +kernel
theorem dL_570 : decode cL_law 570 = .ok (.aload_n 0, 1) := by decide +kernel
theorem dL_571 : decode cL_law 571 = .ok (.iload_n 3, 1) := by decide +kernel
theorem dL_572 : decode cL_law 572 = .ok (.iconst 1, 1) := by decide +kernel
theorem dL_573 : decode cL_law 573 = .ok (.iadd, 1) := by decide +kernel
theorem dL_574 : decode cL_law 574 = .ok (.iaload, 1) := by decide +kernel
theorem dL_575 : decode cL_law 575 = .ok (.invokevirtual 54, 3) := by decide +kernel
theorem dL_578 : decode cL_law 578 = .ok (.aload_n 2, 1) := by decide +kernel
theorem dL_579 : decode cL_law 579 = .ok (.aload_n 0, 1) := by decide +kernel
theorem dL_580 : decode cL_law 580 = .ok (.iload_n 3, 1) := by decide +kernel
theorem dL_581 : decode cL_law 581 = .ok (.iconst 1, 1) := by decide +kernel
theorem dL_582 : decode cL_law 582 = .ok (.iadd, 1) := by decide +kernel
theorem dL_583 : decode cL_law 583 = .ok (.iaload, 1) := by decide +kernel
theorem dL_584 : decode cL_law 584 = .ok (.invokevirtual 57, 3) := by decide +kernel
theorem dL_587 : decode cL_law 587 = .ok (.if_icmp .eq 1033, 3) := by decide +kernel
theorem dL_590 : decode cL_law 590 = .ok (.iconst 0, 1) := by decide +kernel
theorem dL_591 : decode cL_law 591 = .ok (.ireturn, 1) := by decide +kernel
theorem dL_592 : decode cL_law 592 = .ok (.aload_n 1, 1) := by decide +kernel
theorem dL_593 : decode cL_law 593 = .ok (.aload_n 0, 1) := by decide +kernel
theorem dL_594 : decode cL_law 594 = .ok (.iload_n 3, 1) := by decide +kernel
theorem dL_595 : decode cL_law 595 = .ok (.iconst 1, 1) := by decide +kernel
theorem dL_596 : decode cL_law 596 = .ok (.iadd, 1) := by decide +kernel
theorem dL_597 : decode cL_law 597 = .ok (.iaload, 1) := by decide +kernel
theorem dL_598 : decode cL_law 598 = .ok (.invokevirtual 58, 3) := by decide +kernel
theorem dL_601 : decode cL_law 601 = .ok (.aload_n 2, 1) := by decide +kernel
theorem dL_602 : decode cL_law 602 = .ok (.aload_n 0, 1) := by decide +kernel
theorem dL_603 : decode cL_law 603 = .ok (.iload_n 3, 1) := by decide +kernel
theorem dL_604 : decode cL_law 604 = .ok (.iconst 1, 1) := by decide +kernel
theorem dL_605 : decode cL_law 605 = .ok (.iadd, 1) := by decide +kernel
theorem dL_606 : decode cL_law 606 = .ok (.iaload, 1) := by decide +kernel
theorem dL_607 : decode cL_law 607 = .ok (.invokevirtual 61, 3) := by decide +kernel
theorem dL_610 : decode cL_law 610 = .ok (.if_icmp .eq 1010, 3) := by decide +kernel
theorem dL_613 : decode cL_law 613 = .ok (.iconst 0, 1) := by decide +kernel
theorem dL_614 : decode cL_law 614 = .ok (.ireturn, 1) := by decide +kernel
theorem dL_615 : decode cL_law 615 = .ok (.aload_n 1, 1) := by decide +kernel
theorem dL_616 : decode cL_law 616 = .ok (.invokevirtual 62, 3) := by decide +kernel
theorem dL_619 : decode cL_law 619 = .ok (.aload_n 2, 1) := by decide +kernel
theorem dL_620 : decode cL_law 620 = .ok (.invokevirtual 66, 3) := by decide +kernel
theorem dL_623 : decode cL_law 623 = .ok (.if_icmp .eq 997, 3) := by decide +kernel
theorem dL_626 : decode cL_law 626 = .ok (.iconst 0, 1) := by decide +kernel
theorem dL_627 : decode cL_law 627 = .ok (.ireturn, 1) := by decide +kernel
theorem dL_628 : decode cL_law 628 = .ok (.aload_n 1, 1) := by decide +kernel
theorem dL_629 : decode cL_law 629 = .ok (.invokevirtual 67, 3) := by decide +kernel
theorem dL_632 : decode cL_law 632 = .ok (.aload_n 2, 1) := by decide +kernel
theorem dL_633 : decode cL_law 633 = .ok (.invokevirtual 70, 3) := by decide +kernel
theorem dL_636 : decode cL_law 636 = .ok (.if_icmp .eq 984, 3) := by decide +kernel
theorem dL_639 : decode cL_law 639 = .ok (.iconst 0, 1) := by decide +kernel
theorem dL_640 : decode cL_law 640 = .ok (.ireturn, 1) := by decide +kernel
theorem dL_641 : decode cL_law 641 = .ok (.aload_n 1, 1) := by decide +kernel
theorem dL_642 : decode cL_law 642 = .ok (.aload_n 0, 1) := by decide +kernel
theorem dL_643 : decode cL_law 643 = .ok (.iload_n 3, 1) := by decide +kernel
theorem dL_644 : decode cL_law 644 = .ok (.iconst 1, 1) := by decide +kernel
theorem dL_645 : decode cL_law 645 = .ok (.iadd, 1) := by decide +kernel
theorem dL_646 : decode cL_law 646 = .ok (.iaload, 1) := by decide +kernel
theorem dL_647 : decode cL_law 647 = .ok (.invokevirtual 71, 3) := by decide +kernel
theorem dL_650 : decode cL_law 650 = .ok (.aload_n 2, 1) := by decide +kernel
theorem dL_651 : decode cL_law 651 = .ok (.aload_n 0, 1) := by decide +kernel
theorem dL_652 : decode cL_law 652 = .ok (.iload_n 3, 1) := by decide +kernel
theorem dL_653 : decode cL_law 653 = .ok (.iconst 1, 1) := by decide +kernel
theorem dL_654 : decode cL_law 654 = .ok (.iadd, 1) := by decide +kernel
theorem dL_655 : decode cL_law 655 = .ok (.iaload, 1) := by decide +kernel
theorem dL_656 : decode cL_law 656 = .ok (.invokevirtual 74, 3) := by decide +kernel
theorem dL_659 : decode cL_law 659 = .ok (.if_icmp .eq 961, 3) := by decide +kernel
theorem dL_662 : decode cL_law 662 = .ok (.iconst 0, 1) := by decide +kernel
theorem dL_663 : decode cL_law 663 = .ok (.ireturn, 1) := by decide +kernel
theorem dL_664 : decode cL_law 664 = .ok (.aload_n 1, 1) := by decide +kernel
theorem dL_665 : decode cL_law 665 = .ok (.aload_n 0, 1) := by decide +kernel
theorem dL_666 : decode cL_law 666 = .ok (.iload_n 3, 1) := by decide +kernel
theorem dL_667 : decode cL_law 667 = .ok (.iconst 1, 1) := by decide +kernel
theorem dL_668 : decode cL_law 668 = .ok (.iadd, 1) := by decide +kernel
theorem dL_669 : decode cL_law 669 = .ok (.iaload, 1) := by decide +kernel
theorem dL_670 : decode cL_law 670 = .ok (.aload_n 0, 1) := by decide +kernel
theorem dL_671 : decode cL_law 671 = .ok (.iload_n 3, 1) := by decide +kernel
theorem dL_672 : decode cL_law 672 = .ok (.iconst 2, 1) := by decide +kernel
theorem dL_673 : decode cL_law 673 = .ok (.iadd, 1) := by decide +kernel
theorem dL_674 : decode cL_law 674 = .ok (.iaload, 1) := by decide +kernel
theorem dL_675 : decode cL_law 675 = .ok (.invokevirtual 75, 3) := by decide +kernel
theorem dL_678 : decode cL_law 678 = .ok (.aload_n 2, 1) := by decide +kernel
theorem dL_679 : decode cL_law 679 = .ok (.aload_n 0, 1) := by decide +kernel
theorem dL_680 : decode cL_law 680 = .ok (.iload_n 3, 1) := by decide +kernel
theorem dL_681 : decode cL_law 681 = .ok (.iconst 1, 1) := by decide +kernel
theorem dL_682 : decode cL_law 682 = .ok (.iadd, 1) := by decide +kernel
theorem dL_683 : decode cL_law 683 = .ok (.iaload, 1) := by decide +kernel
theorem dL_684 : decode cL_law 684 = .ok (.aload_n 0, 1) := by decide +kernel
theorem dL_685 : decode cL_law 685 = .ok (.iload_n 3, 1) := by decide +kernel
theorem dL_686 : decode cL_law 686 = .ok (.iconst 2, 1) := by decide +kernel
theorem dL_687 : decode cL_law 687 = .ok (.iadd, 1) := by decide +kernel
theorem dL_688 : decode cL_law 688 = .ok (.iaload, 1) := by decide +kernel
theorem dL_689 : decode cL_law 689 = .ok (.invokevirtual 78, 3) := by decide +kernel
theorem dL_692 : decode cL_law 692 = .ok (.if_icmp .eq 928, 3) := by decide +kernel
theorem dL_695 : decode cL_law 695 = .ok (.iconst 0, 1) := by decide +kernel
theorem dL_696 : decode cL_law 696 = .ok (.ireturn, 1) := by decide +kernel
theorem dL_697 : decode cL_law 697 = .ok (.aload_n 1, 1) := by decide +kernel
theorem dL_698 : decode cL_law 698 = .ok (.aload_n 0, 1) := by decide +kernel
theorem dL_699 : decode cL_law 699 = .ok (.iload_n 3, 1) := by decide +kernel
theorem dL_700 : decode cL_law 700 = .ok (.iconst 1, 1) := by decide +kernel
theorem dL_701 : decode cL_law 701 = .ok (.iadd, 1) := by decide +kernel
theorem dL_702 : decode cL_law 702 = .ok (.iaload, 1) := by decide +kernel
theorem dL_703 : decode cL_law 703 = .ok (.aload_n 0, 1) := by decide +kernel
theorem dL_704 : decode cL_law 704 = .ok (.iload_n 3, 1) := by decide +kernel
theorem dL_705 : decode cL_law 705 = .ok (.iconst 2, 1) := by decide +kernel
theorem dL_706 : decode cL_law 706 = .ok (.iadd, 1) := by decide +kernel
theorem dL_707 : decode cL_law 707 = .ok (.iaload, 1) := by decide +kernel
theorem dL_708 : decode cL_law 708 = .ok (.invokevirtual 79, 3) := by decide +kernel
theorem dL_711 : decode cL_law 711 = .ok (.aload_n 2, 1) := by decide +kernel
theorem dL_712 : decode cL_law 712 = .ok (.aload_n 0, 1) := by decide +kernel
theorem dL_713 : decode cL_law 713 = .ok (.iload_n 3, 1) := by decide +kernel
theorem dL_714 : decode cL_law 714 = .ok (.iconst 1, 1) := by decide +kernel
theorem dL_715 : decode cL_law 715 = .ok (.iadd, 1) := by decide +kernel
theorem dL_716 : decode cL_law 716 = .ok (.iaload, 1) := by decide +kernel
theorem dL_717 : decode cL_law 717 = .ok (.aload_n 0, 1) := by decide +kernel
theorem dL_718 : decode cL_law 718 = .ok (.iload_n 3, 1) := by decide +kernel
theorem dL_719 : decode cL_law 719 = .ok (.iconst 2, 1) := by decide +kernel
theorem dL_720 : decode cL_law 720 = .ok (.iadd, 1) := by decide +kernel
theorem dL_721 : decode cL_law 721 = .ok (.iaload, 1) := by decide +kernel
theorem dL_722 : decode cL_law 722 = .ok (.invokevirtual 82, 3) := by decide +kernel
theorem dL_725 : decode cL_law 725 = .ok (.if_icmp .eq 895, 3) := by decide +kernel
theorem dL_728 : decode cL_law 728 = .ok (.iconst 0, 1) := by decide +kernel
theorem dL_729 : decode cL_law 729 = .ok (.ireturn, 1) := by decide +kernel
theorem dL_730 : decode cL_law 730 = .ok (.aload_n 1, 1) := by decide +kernel
theorem dL_731 : decode cL_law 731 = .ok (.invokevirtual 83, 3) := by decide +kernel
theorem dL_734 : decode cL_law 734 = .ok (.aload_n 2, 1) := by decide +kernel
theorem dL_735 : decode cL_law 735 = .ok (.invokevirtual 86, 3) := by decide +kernel
theorem dL_738 : decode cL_law 738 = .ok (.if_icmp .eq 882, 3) := by decide +kernel
theorem dL_741 : decode cL_law 741 = .ok (.iconst 0, 1) := by decide +kernel
theorem dL_742 : decode cL_law 742 = .ok (.ireturn, 1) := by decide +kernel
theorem dL_743 : decode cL_law 743 = .ok (.aload_n 1, 1) := by decide +kernel
theorem dL_744 : decode cL_law 744 = .ok (.aload_n 0, 1) := by decide +kernel
theorem dL_745 : decode cL_law 745 = .ok (.iload_n 3, 1) := by decide +kernel
theorem dL_746 : decode cL_law 746 = .ok (.iconst 1, 1) := by decide +kernel
theorem dL_747 : decode cL_law 747 = .ok (.iadd, 1) := by decide +kernel
theorem dL_748 : decode cL_law 748 = .ok (.iaload, 1) := by decide +kernel
theorem dL_749 : decode cL_law 749 = .ok (.aload_n 0, 1) := by decide +kernel
theorem dL_750 : decode cL_law 750 = .ok (.iload_n 3, 1) := by decide +kernel
theorem dL_751 : decode cL_law 751 = .ok (.iconst 2, 1) := by decide +kernel
theorem dL_752 : decode cL_law 752 = .ok (.iadd, 1) := by decide +kernel
theorem dL_753 : decode cL_law 753 = .ok (.iaload, 1) := by decide +kernel
theorem dL_754 : decode cL_law 754 = .ok (.invokevirtual 87, 3) := by decide +kernel
theorem dL_757 : decode cL_law 757 = .ok (.aload_n 2, 1) := by decide +kernel
theorem dL_758 : decode cL_law 758 = .ok (.aload_n 0, 1) := by decide +kernel
theorem dL_759 : decode cL_law 759 = .ok (.iload_n 3, 1) := by decide +kernel
theorem dL_760 : decode cL_law 760 = .ok (.iconst 1, 1) := by decide +kernel
theorem dL_761 : decode cL_law 761 = .ok (.iadd, 1) := by decide +kernel
theorem dL_762 : decode cL_law 762 = .ok (.iaload, 1) := by decide +kernel
theorem dL_763 : decode cL_law 763 = .ok (.aload_n 0, 1) := by decide +kernel
theorem dL_764 : decode cL_law 764 = .ok (.iload_n 3, 1) := by decide +kernel
theorem dL_765 : decode cL_law 765 = .ok (.iconst 2, 1) := by decide +kernel
theorem dL_766 : decode cL_law 766 = .ok (.iadd, 1) := by decide +kernel
theorem dL_767 : decode cL_law 767 = .ok (.iaload, 1) := by decide +kernel
theorem dL_768 : decode cL_law 768 = .ok (.invokevirtual 90, 3) := by decide +kernel
theorem dL_771 : decode cL_law 771 = .ok (.if_icmp .eq 849, 3) := by decide +kernel
theorem dL_774 : decode cL_law 774 = .ok (.iconst 0, 1) := by decide +kernel
theorem dL_775 : decode cL_law 775 = .ok (.ireturn, 1) := by decide +kernel
theorem dL_776 : decode cL_law 776 = .ok (.aload_n 1, 1) := by decide +kernel
theorem dL_777 : decode cL_law 777 = .ok (.aload_n 0, 1) := by decide +kernel
theorem dL_778 : decode cL_law 778 = .ok (.iload_n 3, 1) := by decide +kernel
theorem dL_779 : decode cL_law 779 = .ok (.iconst 1, 1) := by decide +kernel
theorem dL_780 : decode cL_law 780 = .ok (.iadd, 1) := by decide +kernel
theorem dL_781 : decode cL_law 781 = .ok (.iaload, 1) := by decide +kernel
theorem dL_782 : decode cL_law 782 = .ok (.aload_n 0, 1) := by decide +kernel
theorem dL_783 : decode cL_law 783 = .ok (.iload_n 3, 1) := by decide +kernel
theorem dL_784 : decode cL_law 784 = .ok (.iconst 2, 1) := by decide +kernel
theorem dL_785 : decode cL_law 785 = .ok (.iadd, 1) := by decide +kernel
theorem dL_786 : decode cL_law 786 = .ok (.iaload, 1) := by decide +kernel
theorem dL_787 : decode cL_law 787 = .ok (.aload_n 0, 1) := by decide +kernel
theorem dL_788 : decode cL_law 788 = .ok (.iload_n 3, 1) := by decide +kernel
theorem dL_789 : decode cL_law 789 = .ok (.iconst 3, 1) := by decide +kernel
theorem dL_790 : decode cL_law 790 = .ok (.iadd, 1) := by decide +kernel
theorem dL_791 : decode cL_law 791 = .ok (.iaload, 1) := by decide +kernel
theorem dL_792 : decode cL_law 792 = .ok (.aload_n 0, 1) := by decide +kernel
theorem dL_793 : decode cL_law 793 = .ok (.iload_n 3, 1) := by decide +kernel
theorem dL_794 : decode cL_law 794 = .ok (.iconst 4, 1) := by decide +kernel
theorem dL_795 : decode cL_law 795 = .ok (.iadd, 1) := by decide +kernel
theorem dL_796 : decode cL_law 796 = .ok (.iaload, 1) := by decide +kernel
theorem dL_797 : decode cL_law 797 = .ok (.invokevirtual 91, 3) := by decide +kernel
theorem dL_800 : decode cL_law 800 = .ok (.aload_n 2, 1) := by decide +kernel
theorem dL_801 : decode cL_law 801 = .ok (.aload_n 0, 1) := by decide +kernel
theorem dL_802 : decode cL_law 802 = .ok (.iload_n 3, 1) := by decide +kernel
theorem dL_803 : decode cL_law 803 = .ok (.iconst 1, 1) := by decide +kernel
theorem dL_804 : decode cL_law 804 = .ok (.iadd, 1) := by decide +kernel
theorem dL_805 : decode cL_law 805 = .ok (.iaload, 1) := by decide +kernel
theorem dL_806 : decode cL_law 806 = .ok (.aload_n 0, 1) := by decide +kernel
theorem dL_807 : decode cL_law 807 = .ok (.iload_n 3, 1) := by decide +kernel
theorem dL_808 : decode cL_law 808 = .ok (.iconst 2, 1) := by decide +kernel
theorem dL_809 : decode cL_law 809 = .ok (.iadd, 1) := by decide +kernel
theorem dL_810 : decode cL_law 810 = .ok (.iaload, 1) := by decide +kernel
theorem dL_811 : decode cL_law 811 = .ok (.aload_n 0, 1) := by decide +kernel
theorem dL_812 : decode cL_law 812 = .ok (.iload_n 3, 1) := by decide +kernel
theorem dL_813 : decode cL_law 813 = .ok (.iconst 3, 1) := by decide +kernel
theorem dL_814 : decode cL_law 814 = .ok (.iadd, 1) := by decide +kernel
theorem dL_815 : decode cL_law 815 = .ok (.iaload, 1) := by decide +kernel
theorem dL_816 : decode cL_law 816 = .ok (.aload_n 0, 1) := by decide +kernel
theorem dL_817 : decode cL_law 817 = .ok (.iload_n 3, 1) := by decide +kernel
theorem dL_818 : decode cL_law 818 = .ok (.iconst 4, 1) := by decide +kernel
theorem dL_819 : decode cL_law 819 = .ok (.iadd, 1) := by decide +kernel
theorem dL_820 : decode cL_law 820 = .ok (.iaload, 1) := by decide +kernel
theorem dL_821 : decode cL_law 821 = .ok (.invokevirtual 94, 3) := by decide +kernel
theorem dL_824 : decode cL_law 824 = .ok (.if_icmp .eq 796, 3) := by decide +kernel
theorem dL_827 : decode cL_law 827 = .ok (.iconst 0, 1) := by decide +kernel
theorem dL_828 : decode cL_law 828 = .ok (.ireturn, 1) := by decide +kernel
theorem dL_829 : decode cL_law 829 = .ok (.aload_n 1, 1) := by decide +kernel
theorem dL_830 : decode cL_law 830 = .ok (.aload_n 0, 1) := by decide +kernel
theorem dL_831 : decode cL_law 831 = .ok (.iload_n 3, 1) := by decide +kernel
theorem dL_832 : decode cL_law 832 = .ok (.iconst 1, 1) := by decide +kernel
theorem dL_833 : decode cL_law 833 = .ok (.iadd, 1) := by decide +kernel
theorem dL_834 : decode cL_law 834 = .ok (.iaload, 1) := by decide +kernel
theorem dL_835 : decode cL_law 835 = .ok (.invokevirtual 95, 3) := by decide +kernel
theorem dL_838 : decode cL_law 838 = .ok (.aload_n 2, 1) := by decide +kernel
theorem dL_839 : decode cL_law 839 = .ok (.aload_n 0, 1) := by decide +kernel
theorem dL_840 : decode cL_law 840 = .ok (.iload_n 3, 1) := by decide +kernel
theorem dL_841 : decode cL_law 841 = .ok (.iconst 1, 1) := by decide +kernel
theorem dL_842 : decode cL_law 842 = .ok (.iadd, 1) := by decide +kernel
theorem dL_843 : decode cL_law 843 = .ok (.iaload, 1) := by decide +kernel
theorem dL_844 : decode cL_law 844 = .ok (.invokevirtual 98, 3) := by decide +kernel
theorem dL_847 : decode cL_law 847 = .ok (.if_icmp .eq 773, 3) := by decide +kernel
theorem dL_850 : decode cL_law 850 = .ok (.iconst 0, 1) := by decide +kernel
theorem dL_851 : decode cL_law 851 = .ok (.ireturn, 1) := by decide +kernel
theorem dL_852 : decode cL_law 852 = .ok (.aload_n 1, 1) := by decide +kernel
theorem dL_853 : decode cL_law 853 = .ok (.aload_n 0, 1) := by decide +kernel
theorem dL_854 : decode cL_law 854 = .ok (.iload_n 3, 1) := by decide +kernel
theorem dL_855 : decode cL_law 855 = .ok (.iconst 1, 1) := by decide +kernel
theorem dL_856 : decode cL_law 856 = .ok (.iadd, 1) := by decide +kernel
theorem dL_857 : decode cL_law 857 = .ok (.iaload, 1) := by decide +kernel
theorem dL_858 : decode cL_law 858 = .ok (.aload_n 0, 1) := by decide +kernel
theorem dL_859 : decode cL_law 859 = .ok (.iload_n 3, 1) := by decide +kernel
theorem dL_860 : decode cL_law 860 = .ok (.iconst 2, 1) := by decide +kernel
theorem dL_861 : decode cL_law 861 = .ok (.iadd, 1) := by decide +kernel
theorem dL_862 : decode cL_law 862 = .ok (.iaload, 1) := by decide +kernel
theorem dL_863 : decode cL_law 863 = .ok (.invokevirtual 99, 3) := by decide +kernel
theorem dL_866 : decode cL_law 866 = .ok (.aload_n 2, 1) := by decide +kernel
theorem dL_867 : decode cL_law 867 = .ok (.aload_n 0, 1) := by decide +kernel
theorem dL_868 : decode cL_law 868 = .ok (.iload_n 3, 1) := by decide +kernel
theorem dL_869 : decode cL_law 869 = .ok (.iconst 1, 1) := by decide +kernel
theorem dL_870 : decode cL_law 870 = .ok (.iadd, 1) := by decide +kernel
theorem dL_871 : decode cL_law 871 = .ok (.iaload, 1) := by decide +kernel
theorem dL_872 : decode cL_law 872 = .ok (.aload_n 0, 1) := by decide +kernel
theorem dL_873 : decode cL_law 873 = .ok (.iload_n 3, 1) := by decide +kernel
theorem dL_874 : decode cL_law 874 = .ok (.iconst 2, 1) := by decide +kernel
theorem dL_875 : decode cL_law 875 = .ok (.iadd, 1) := by decide +kernel
theorem dL_876 : decode cL_law 876 = .ok (.iaload, 1) := by decide +kernel
theorem dL_877 : decode cL_law 877 = .ok (.invokevirtual 102, 3) := by decide +kernel
theorem dL_880 : decode cL_law 880 = .ok (.if_icmp .eq 740, 3) := by decide +kernel
theorem dL_883 : decode cL_law 883 = .ok (.iconst 0, 1) := by decide +kernel
theorem dL_884 : decode cL_law 884 = .ok (.ireturn, 1) := by decide +kernel
theorem dL_885 : decode cL_law 885 = .ok (.aload_n 1, 1) := by decide +kernel
theorem dL_886 : decode cL_law 886 = .ok (.aload_n 0, 1) := by decide +kernel
theorem dL_887 : decode cL_law 887 = .ok (.iload_n 3, 1) := by decide +kernel
theorem dL_888 : decode cL_law 888 = .ok (.iconst 1, 1) := by decide +kernel
theorem dL_889 : decode cL_law 889 = .ok (.iadd, 1) := by decide +kernel
theorem dL_890 : decode cL_law 890 = .ok (.iaload, 1) := by decide +kernel
theorem dL_891 : decode cL_law 891 = .ok (.aload_n 0, 1) := by decide +kernel
theorem dL_892 : decode cL_law 892 = .ok (.iload_n 3, 1) := by decide +kernel
theorem dL_893 : decode cL_law 893 = .ok (.iconst 2, 1) := by decide +kernel
theorem dL_894 : decode cL_law 894 = .ok (.iadd, 1) := by decide +kernel
theorem dL_895 : decode cL_law 895 = .ok (.iaload, 1) := by decide +kernel
theorem dL_896 : decode cL_law 896 = .ok (.invokevirtual 103, 3) := by decide +kernel
theorem dL_899 : decode cL_law 899 = .ok (.aload_n 2, 1) := by decide +kernel
theorem dL_900 : decode cL_law 900 = .ok (.aload_n 0, 1) := by decide +kernel
theorem dL_901 : decode cL_law 901 = .ok (.iload_n 3, 1) := by decide +kernel
theorem dL_902 : decode cL_law 902 = .ok (.iconst 1, 1) := by decide +kernel
theorem dL_903 : decode cL_law 903 = .ok (.iadd, 1) := by decide +kernel
theorem dL_904 : decode cL_law 904 = .ok (.iaload, 1) := by decide +kernel
theorem dL_905 : decode cL_law 905 = .ok (.aload_n 0, 1) := by decide +kernel
theorem dL_906 : decode cL_law 906 = .ok (.iload_n 3, 1) := by decide +kernel
theorem dL_907 : decode cL_law 907 = .ok (.iconst 2, 1) := by decide +kernel
theorem dL_908 : decode cL_law 908 = .ok (.iadd, 1) := by decide +kernel
theorem dL_909 : decode cL_law 909 = .ok (.iaload, 1) := by decide +kernel
theorem dL_910 : decode cL_law 910 = .ok (.invokevirtual 106, 3) := by decide +kernel
theorem dL_913 : decode cL_law 913 = .ok (.if_icmp .eq 707, 3) := by decide +kernel
theorem dL_916 : decode cL_law 916 = .ok (.iconst 0, 1) := by decide +kernel
theorem dL_917 : decode cL_law 917 = .ok (.ireturn, 1) := by decide +kernel
theorem dL_918 : decode cL_law 918 = .ok (.aload_n 1, 1) := by decide +kernel
theorem dL_919 : decode cL_law 919 = .ok (.aload_n 0, 1) := by decide +kernel
theorem dL_920 : decode cL_law 920 = .ok (.iload_n 3, 1) := by decide +kernel
theorem dL_921 : decode cL_law 921 = .ok (.iconst 1, 1) := by decide +kernel
theorem dL_922 : decode cL_law 922 = .ok (.iadd, 1) := by decide +kernel
theorem dL_923 : decode cL_law 923 = .ok (.iaload, 1) := by decide +kernel
theorem dL_924 : decode cL_law 924 = .ok (.invokevirtual 107, 3) := by decide +kernel
theorem dL_927 : decode cL_law 927 = .ok (.aload_n 2, 1) := by decide +kernel
theorem dL_928 : decode cL_law 928 = .ok (.aload_n 0, 1) := by decide +kernel
theorem dL_929 : decode cL_law 929 = .ok (.iload_n 3, 1) := by decide +kernel
theorem dL_930 : decode cL_law 930 = .ok (.iconst 1, 1) := by decide +kernel
theorem dL_931 : decode cL_law 931 = .ok (.iadd, 1) := by decide +kernel
theorem dL_932 : decode cL_law 932 = .ok (.iaload, 1) := by decide +kernel
theorem dL_933 : decode cL_law 933 = .ok (.invokevirtual 110, 3) := by decide +kernel
theorem dL_936 : decode cL_law 936 = .ok (.if_icmp .eq 684, 3) := by decide +kernel
theorem dL_939 : decode cL_law 939 = .ok (.iconst 0, 1) := by decide +kernel
theorem dL_940 : decode cL_law 940 = .ok (.ireturn, 1) := by decide +kernel
theorem dL_941 : decode cL_law 941 = .ok (.aload_n 1, 1) := by decide +kernel
theorem dL_942 : decode cL_law 942 = .ok (.aload_n 0, 1) := by decide +kernel
theorem dL_943 : decode cL_law 943 = .ok (.iload_n 3, 1) := by decide +kernel
theorem dL_944 : decode cL_law 944 = .ok (.iconst 1, 1) := by decide +kernel
theorem dL_945 : decode cL_law 945 = .ok (.iadd, 1) := by decide +kernel
theorem dL_946 : decode cL_law 946 = .ok (.iaload, 1) := by decide +kernel
theorem dL_947 : decode cL_law 947 = .ok (.aload_n 0, 1) := by decide +kernel
theorem dL_948 : decode cL_law 948 = .ok (.iload_n 3, 1) := by decide +kernel
theorem dL_949 : decode cL_law 949 = .ok (.iconst 2, 1) := by decide +kernel
theorem dL_950 : decode cL_law 950 = .ok (.iadd, 1) := by decide +kernel
theorem dL_951 : decode cL_law 951 = .ok (.iaload, 1) := by decide +kernel
theorem dL_952 : decode cL_law 952 = .ok (.invokevirtual 111, 3) := by decide +kernel
theorem dL_955 : decode cL_law 955 = .ok (.aload_n 2, 1) := by decide +kernel
theorem dL_956 : decode cL_law 956 = .ok (.aload_n 0, 1) := by decide +kernel
theorem dL_957 : decode cL_law 957 = .ok (.iload_n 3, 1) := by decide +kernel
theorem dL_958 : decode cL_law 958 = .ok (.iconst 1, 1) := by decide +kernel
theorem dL_959 : decode cL_law 959 = .ok (.iadd, 1) := by decide +kernel
theorem dL_960 : decode cL_law 960 = .ok (.iaload, 1) := by decide +kernel
theorem dL_961 : decode cL_law 961 = .ok (.aload_n 0, 1) := by decide +kernel
theorem dL_962 : decode cL_law 962 = .ok (.iload_n 3, 1) := by decide +kernel
theorem dL_963 : decode cL_law 963 = .ok (.iconst 2, 1) := by decide +kernel
theorem dL_964 : decode cL_law 964 = .ok (.iadd, 1) := by decide +kernel
theorem dL_965 : decode cL_law 965 = .ok (.iaload, 1) := by decide +kernel
theorem dL_966 : decode cL_law 966 = .ok (.invokevirtual 114, 3) := by decide +kernel
theorem dL_969 : decode cL_law 969 = .ok (.if_icmp .eq 651, 3) := by decide +kernel
theorem dL_972 : decode cL_law 972 = .ok (.iconst 0, 1) := by decide +kernel
theorem dL_973 : decode cL_law 973 = .ok (.ireturn, 1) := by decide +kernel
theorem dL_974 : decode cL_law 974 = .ok (.aload_n 1, 1) := by decide +kernel
theorem dL_975 : decode cL_law 975 = .ok (.aload_n 0, 1) := by decide +kernel
theorem dL_976 : decode cL_law 976 = .ok (.iload_n 3, 1) := by decide +kernel
theorem dL_977 : decode cL_law 977 = .ok (.iconst 1, 1) := by decide +kernel
theorem dL_978 : decode cL_law 978 = .ok (.iadd, 1) := by decide +kernel
theorem dL_979 : decode cL_law 979 = .ok (.iaload, 1) := by decide +kernel
theorem dL_980 : decode cL_law 980 = .ok (.aload_n 0, 1) := by decide +kernel
theorem dL_981 : decode cL_law 981 = .ok (.iload_n 3, 1) := by decide +kernel
theorem dL_982 : decode cL_law 982 = .ok (.iconst 2, 1) := by decide +kernel
theorem dL_983 : decode cL_law 983 = .ok (.iadd, 1) := by decide +kernel
theorem dL_984 : decode cL_law 984 = .ok (.iaload, 1) := by decide +kernel
theorem dL_985 : decode cL_law 985 = .ok (.invokevirtual 115, 3) := by decide +kernel
theorem dL_988 : decode cL_law 988 = .ok (.aload_n 2, 1) := by decide +kernel
theorem dL_989 : decode cL_law 989 = .ok (.aload_n 0, 1) := by decide +kernel
theorem dL_990 : decode cL_law 990 = .ok (.iload_n 3, 1) := by decide +kernel
theorem dL_991 : decode cL_law 991 = .ok (.iconst 1, 1) := by decide +kernel
theorem dL_992 : decode cL_law 992 = .ok (.iadd, 1) := by decide +kernel
theorem dL_993 : decode cL_law 993 = .ok (.iaload, 1) := by decide +kernel
theorem dL_994 : decode cL_law 994 = .ok (.aload_n 0, 1) := by decide +kernel
theorem dL_995 : decode cL_law 995 = .ok (.iload_n 3, 1) := by decide +kernel
theorem dL_996 : decode cL_law 996 = .ok (.iconst 2, 1) := by decide +kernel
theorem dL_997 : decode cL_law 997 = .ok (.iadd, 1) := by decide +kernel
theorem dL_998 : decode cL_law 998 = .ok (.iaload, 1) := by decide +kernel
theorem dL_999 : decode cL_law 999 = .ok (.invokevirtual 118, 3) := by decide +kernel
theorem dL_1002 : decode cL_law 1002 = .ok (.if_icmp .eq 618, 3) := by decide +kernel
theorem dL_1005 : decode cL_law 1005 = .ok (.iconst 0, 1) := by decide +kernel
theorem dL_1006 : decode cL_law 1006 = .ok (.ireturn, 1) := by decide +kernel
theorem dL_1007 : decode cL_law 1007 = .ok (.aload_n 1, 1) := by decide +kernel
theorem dL_1008 : decode cL_law 1008 = .ok (.aload_n 0, 1) := by decide +kernel
theorem dL_1009 : decode cL_law 1009 = .ok (.iload_n 3, 1) := by decide +kernel
theorem dL_1010 : decode cL_law 1010 = .ok (.iconst 1, 1) := by decide +kernel
theorem dL_1011 : decode cL_law 1011 = .ok (.iadd, 1) := by decide +kernel
theorem dL_1012 : decode cL_law 1012 = .ok (.iaload, 1) := by decide +kernel
theorem dL_1013 : decode cL_law 1013 = .ok (.invokevirtual 119, 3) := by decide +kernel
theorem dL_1016 : decode cL_law 1016 = .ok (.aload_n 2, 1) := by decide +kernel
theorem dL_1017 : decode cL_law 1017 = .ok (.aload_n 0, 1) := by decide +kernel
theorem dL_1018 : decode cL_law 1018 = .ok (.iload_n 3, 1) := by decide +kernel
theorem dL_1019 : decode cL_law 1019 = .ok (.iconst 1, 1) := by decide +kernel
theorem dL_1020 : decode cL_law 1020 = .ok (.iadd, 1) := by decide +kernel
theorem dL_1021 : decode cL_law 1021 = .ok (.iaload, 1) := by decide +kernel
theorem dL_1022 : decode cL_law 1022 = .ok (.invokevirtual 122, 3) := by decide +kernel
theorem dL_1025 : decode cL_law 1025 = .ok (.if_icmp .eq 595, 3) := by decide +kernel
theorem dL_1028 : decode cL_law 1028 = .ok (.iconst 0, 1) := by decide +kernel
theorem dL_1029 : decode cL_law 1029 = .ok (.ireturn, 1) := by decide +kernel
theorem dL_1030 : decode cL_law 1030 = .ok (.aload_n 1, 1) := by decide +kernel
theorem dL_1031 : decode cL_law 1031 = .ok (.aload_n 0, 1) := by decide +kernel
theorem dL_1032 : decode cL_law 1032 = .ok (.iload_n 3, 1) := by decide +kernel
theorem dL_1033 : decode cL_law 1033 = .ok (.iconst 1, 1) := by decide +kernel
theorem dL_1034 : decode cL_law 1034 = .ok (.iadd, 1) := by decide +kernel
theorem dL_1035 : decode cL_law 1035 = .ok (.iaload, 1) := by decide +kernel
theorem dL_1036 : decode cL_law 1036 = .ok (.aload_n 0, 1) := by decide +kernel
theorem dL_1037 : decode cL_law 1037 = .ok (.iload_n 3, 1) := by decide +kernel
theorem dL_1038 : decode cL_law 1038 = .ok (.iconst 2, 1) := by decide +kernel
theorem dL_1039 : decode cL_law 1039 = .ok (.iadd, 1) := by decide +kernel
theorem dL_1040 : decode cL_law 1040 = .ok (.iaload, 1) := by decide +kernel
theorem dL_1041 : decode cL_law 1041 = .ok (.invokevirtual 123, 3) := by decide +kernel
theorem dL_1044 : decode cL_law 1044 = .ok (.aload_n 2, 1) := by decide +kernel
theorem dL_1045 : decode cL_law 1045 = .ok (.aload_n 0, 1) := by decide +kernel
theorem dL_1046 : decode cL_law 1046 = .ok (.iload_n 3, 1) := by decide +kernel
theorem dL_1047 : decode cL_law 1047 = .ok (.iconst 1, 1) := by decide +kernel
theorem dL_1048 : decode cL_law 1048 = .ok (.iadd, 1) := by decide +kernel
theorem dL_1049 : decode cL_law 1049 = .ok (.iaload, 1) := by decide +kernel
theorem dL_1050 : decode cL_law 1050 = .ok (.aload_n 0, 1) := by decide +kernel
theorem dL_1051 : decode cL_law 1051 = .ok (.iload_n 3, 1) := by decide +kernel
theorem dL_1052 : decode cL_law 1052 = .ok (.iconst 2, 1) := by decide +kernel
theorem dL_1053 : decode cL_law 1053 = .ok (.iadd, 1) := by decide +kernel
theorem dL_1054 : decode cL_law 1054 = .ok (.iaload, 1) := by decide +kernel
theorem dL_1055 : decode cL_law 1055 = .ok (.invokevirtual 126, 3) := by decide +kernel
theorem dL_1058 : decode cL_law 1058 = .ok (.if_icmp .eq 562, 3) := by decide +kernel
theorem dL_1061 : decode cL_law 1061 = .ok (.iconst 0, 1) := by decide +kernel
theorem dL_1062 : decode cL_law 1062 = .ok (.ireturn, 1) := by decide +kernel
theorem dL_1063 : decode cL_law 1063 = .ok (.aload_n 1, 1) := by decide +kernel
theorem dL_1064 : decode cL_law 1064 = .ok (.aload_n 0, 1) := by decide +kernel
theorem dL_1065 : decode cL_law 1065 = .ok (.iload_n 3, 1) := by decide +kernel
theorem dL_1066 : decode cL_law 1066 = .ok (.iconst 1, 1) := by decide +kernel
theorem dL_1067 : decode cL_law 1067 = .ok (.iadd, 1) := by decide +kernel
theorem dL_1068 : decode cL_law 1068 = .ok (.iaload, 1) := by decide +kernel
theorem dL_1069 : decode cL_law 1069 = .ok (.aload_n 0, 1) := by decide +kernel
theorem dL_1070 : decode cL_law 1070 = .ok (.iload_n 3, 1) := by decide +kernel
theorem dL_1071 : decode cL_law 1071 = .ok (.iconst 2, 1) := by decide +kernel
theorem dL_1072 : decode cL_law 1072 = .ok (.iadd, 1) := by decide +kernel
theorem dL_1073 : decode cL_law 1073 = .ok (.iaload, 1) := by decide +kernel
theorem dL_1074 : decode cL_law 1074 = .ok (.invokevirtual 127, 3) := by decide +kernel
theorem dL_1077 : decode cL_law 1077 = .ok (.aload_n 2, 1) := by decide +kernel
theorem dL_1078 : decode cL_law 1078 = .ok (.aload_n 0, 1) := by decide +kernel
theorem dL_1079 : decode cL_law 1079 = .ok (.iload_n 3, 1) := by decide +kernel
theorem dL_1080 : decode cL_law 1080 = .ok (.iconst 1, 1) := by decide +kernel
theorem dL_1081 : decode cL_law 1081 = .ok (.iadd, 1) := by decide +kernel
theorem dL_1082 : decode cL_law 1082 = .ok (.iaload, 1) := by decide +kernel
theorem dL_1083 : decode cL_law 1083 = .ok (.aload_n 0, 1) := by decide +kernel
theorem dL_1084 : decode cL_law 1084 = .ok (.iload_n 3, 1) := by decide +kernel
theorem dL_1085 : decode cL_law 1085 = .ok (.iconst 2, 1) := by decide +kernel
theorem dL_1086 : decode cL_law 1086 = .ok (.iadd, 1) := by decide +kernel
theorem dL_1087 : decode cL_law 1087 = .ok (.iaload, 1) := by decide +kernel
theorem dL_1088 : decode cL_law 1088 = .ok (.invokevirtual 130, 3) := by decide +kernel
theorem dL_1091 : decode cL_law 1091 = .ok (.if_icmp .eq 529, 3) := by decide +kernel
theorem dL_1094 : decode cL_law 1094 = .ok (.iconst 0, 1) := by decide +kernel
theorem dL_1095 : decode cL_law 1095 = .ok (.ireturn, 1) := by decide +kernel
theorem dL_1096 : decode cL_law 1096 = .ok (.aload_n 1, 1) := by decide +kernel
theorem dL_1097 : decode cL_law 1097 = .ok (.aload_n 0, 1) := by decide +kernel
theorem dL_1098 : decode cL_law 1098 = .ok (.iload_n 3, 1) := by decide +kernel
theorem dL_1099 : decode cL_law 1099 = .ok (.iconst 1, 1) := by decide +kernel
theorem dL_1100 : decode cL_law 1100 = .ok (.iadd, 1) := by decide +kernel
theorem dL_1101 : decode cL_law 1101 = .ok (.iaload, 1) := by decide +kernel
theorem dL_1102 : decode cL_law 1102 = .ok (.invokevirtual 131, 3) := by decide +kernel
theorem dL_1105 : decode cL_law 1105 = .ok (.aload_n 2, 1) := by decide +kernel
theorem dL_1106 : decode cL_law 1106 = .ok (.aload_n 0, 1) := by decide +kernel
theorem dL_1107 : decode cL_law 1107 = .ok (.iload_n 3, 1) := by decide +kernel
theorem dL_1108 : decode cL_law 1108 = .ok (.iconst 1, 1) := by decide +kernel
theorem dL_1109 : decode cL_law 1109 = .ok (.iadd, 1) := by decide +kernel
theorem dL_1110 : decode cL_law 1110 = .ok (.iaload, 1) := by decide +kernel
theorem dL_1111 : decode cL_law 1111 = .ok (.invokevirtual 134, 3) := by decide +kernel
theorem dL_1114 : decode cL_law 1114 = .ok (.if_icmp .eq 506, 3) := by decide +kernel
theorem dL_1117 : decode cL_law 1117 = .ok (.iconst 0, 1) := by decide +kernel
theorem dL_1118 : decode cL_law 1118 = .ok (.ireturn, 1) := by decide +kernel
theorem dL_1119 : decode cL_law 1119 = .ok (.aload_n 1, 1) := by decide +kernel
theorem dL_1120 : decode cL_law 1120 = .ok (.invokevirtual 135, 3) := by decide +kernel
theorem dL_1123 : decode cL_law 1123 = .ok (.aload_n 2, 1) := by decide +kernel
theorem dL_1124 : decode cL_law 1124 = .ok (.invokevirtual 138, 3) := by decide +kernel
theorem dL_1127 : decode cL_law 1127 = .ok (.if_icmp .eq 493, 3) := by decide +kernel
theorem dL_1130 : decode cL_law 1130 = .ok (.iconst 0, 1) := by decide +kernel
theorem dL_1131 : decode cL_law 1131 = .ok (.ireturn, 1) := by decide +kernel
theorem dL_1132 : decode cL_law 1132 = .ok (.aload_n 1, 1) := by decide +kernel
theorem dL_1133 : decode cL_law 1133 = .ok (.aload_n 0, 1) := by decide +kernel
theorem dL_1134 : decode cL_law 1134 = .ok (.iload_n 3, 1) := by decide +kernel
theorem dL_1135 : decode cL_law 1135 = .ok (.iconst 1, 1) := by decide +kernel
theorem dL_1136 : decode cL_law 1136 = .ok (.iadd, 1) := by decide +kernel
theorem dL_1137 : decode cL_law 1137 = .ok (.iaload, 1) := by decide +kernel
theorem dL_1138 : decode cL_law 1138 = .ok (.aload_n 0, 1) := by decide +kernel
theorem dL_1139 : decode cL_law 1139 = .ok (.iload_n 3, 1) := by decide +kernel
theorem dL_1140 : decode cL_law 1140 = .ok (.iconst 2, 1) := by decide +kernel
theorem dL_1141 : decode cL_law 1141 = .ok (.iadd, 1) := by decide +kernel
theorem dL_1142 : decode cL_law 1142 = .ok (.iaload, 1) := by decide +kernel
theorem dL_1143 : decode cL_law 1143 = .ok (.aload_n 0, 1) := by decide +kernel
theorem dL_1144 : decode cL_law 1144 = .ok (.iload_n 3, 1) := by decide +kernel
theorem dL_1145 : decode cL_law 1145 = .ok (.iconst 3, 1) := by decide +kernel
theorem dL_1146 : decode cL_law 1146 = .ok (.iadd, 1) := by decide +kernel
theorem dL_1147 : decode cL_law 1147 = .ok (.iaload, 1) := by decide +kernel
theorem dL_1148 : decode cL_law 1148 = .ok (.invokevirtual 139, 3) := by decide +kernel
theorem dL_1151 : decode cL_law 1151 = .ok (.aload_n 2, 1) := by decide +kernel
theorem dL_1152 : decode cL_law 1152 = .ok (.aload_n 0, 1) := by decide +kernel
theorem dL_1153 : decode cL_law 1153 = .ok (.iload_n 3, 1) := by decide +kernel
theorem dL_1154 : decode cL_law 1154 = .ok (.iconst 1, 1) := by decide +kernel
theorem dL_1155 : decode cL_law 1155 = .ok (.iadd, 1) := by decide +kernel
theorem dL_1156 : decode cL_law 1156 = .ok (.iaload, 1) := by decide +kernel
theorem dL_1157 : decode cL_law 1157 = .ok (.aload_n 0, 1) := by decide +kernel
theorem dL_1158 : decode cL_law 1158 = .ok (.iload_n 3, 1) := by decide +kernel
theorem dL_1159 : decode cL_law 1159 = .ok (.iconst 2, 1) := by decide +kernel
theorem dL_1160 : decode cL_law 1160 = .ok (.iadd, 1) := by decide +kernel
theorem dL_1161 : decode cL_law 1161 = .ok (.iaload, 1) := by decide +kernel
theorem dL_1162 : decode cL_law 1162 = .ok (.aload_n 0, 1) := by decide +kernel
theorem dL_1163 : decode cL_law 1163 = .ok (.iload_n 3, 1) := by decide +kernel
theorem dL_1164 : decode cL_law 1164 = .ok (.iconst 3, 1) := by decide +kernel
theorem dL_1165 : decode cL_law 1165 = .ok (.iadd, 1) := by decide +kernel
theorem dL_1166 : decode cL_law 1166 = .ok (.iaload, 1) := by decide +kernel
theorem dL_1167 : decode cL_law 1167 = .ok (.invokevirtual 143, 3) := by decide +kernel
theorem dL_1170 : decode cL_law 1170 = .ok (.if_icmp .eq 450, 3) := by decide +kernel
theorem dL_1173 : decode cL_law 1173 = .ok (.iconst 0, 1) := by decide +kernel
theorem dL_1174 : decode cL_law 1174 = .ok (.ireturn, 1) := by decide +kernel
theorem dL_1175 : decode cL_law 1175 = .ok (.aload_n 1, 1) := by decide +kernel
theorem dL_1176 : decode cL_law 1176 = .ok (.aload_n 0, 1) := by decide +kernel
theorem dL_1177 : decode cL_law 1177 = .ok (.iload_n 3, 1) := by decide +kernel
theorem dL_1178 : decode cL_law 1178 = .ok (.iconst 1, 1) := by decide +kernel
theorem dL_1179 : decode cL_law 1179 = .ok (.iadd, 1) := by decide +kernel
theorem dL_1180 : decode cL_law 1180 = .ok (.iaload, 1) := by decide +kernel
theorem dL_1181 : decode cL_law 1181 = .ok (.aload_n 0, 1) := by decide +kernel
theorem dL_1182 : decode cL_law 1182 = .ok (.iload_n 3, 1) := by decide +kernel
theorem dL_1183 : decode cL_law 1183 = .ok (.iconst 2, 1) := by decide +kernel
theorem dL_1184 : decode cL_law 1184 = .ok (.iadd, 1) := by decide +kernel
theorem dL_1185 : decode cL_law 1185 = .ok (.iaload, 1) := by decide +kernel
theorem dL_1186 : decode cL_law 1186 = .ok (.invokevirtual 144, 3) := by decide +kernel
theorem dL_1189 : decode cL_law 1189 = .ok (.aload_n 2, 1) := by decide +kernel
theorem dL_1190 : decode cL_law 1190 = .ok (.aload_n 0, 1) := by decide +kernel
theorem dL_1191 : decode cL_law 1191 = .ok (.iload_n 3, 1) := by decide +kernel
theorem dL_1192 : decode cL_law 1192 = .ok (.iconst 1, 1) := by decide +kernel
theorem dL_1193 : decode cL_law 1193 = .ok (.iadd, 1) := by decide +kernel
theorem dL_1194 : decode cL_law 1194 = .ok (.iaload, 1) := by decide +kernel
theorem dL_1195 : decode cL_law 1195 = .ok (.aload_n 0, 1) := by decide +kernel
theorem dL_1196 : decode cL_law 1196 = .ok (.iload_n 3, 1) := by decide +kernel
theorem dL_1197 : decode cL_law 1197 = .ok (.iconst 2, 1) := by decide +kernel
theorem dL_1198 : decode cL_law 1198 = .ok (.iadd, 1) := by decide +kernel
theorem dL_1199 : decode cL_law 1199 = .ok (.iaload, 1) := by decide +kernel
theorem dL_1200 : decode cL_law 1200 = .ok (.invokevirtual 147, 3) := by decide +kernel
theorem dL_1203 : decode cL_law 1203 = .ok (.if_icmp .eq 417, 3) := by decide +kernel
theorem dL_1206 : decode cL_law 1206 = .ok (.iconst 0, 1) := by decide +kernel
theorem dL_1207 : decode cL_law 1207 = .ok (.ireturn, 1) := by decide +kernel
theorem dL_1208 : decode cL_law 1208 = .ok (.aload_n 1, 1) := by decide +kernel
theorem dL_1209 : decode cL_law 1209 = .ok (.aload_n 0, 1) := by decide +kernel
theorem dL_1210 : decode cL_law 1210 = .ok (.iload_n 3, 1) := by decide +kernel
theorem dL_1211 : decode cL_law 1211 = .ok (.iconst 1, 1) := by decide +kernel
theorem dL_1212 : decode cL_law 1212 = .ok (.iadd, 1) := by decide +kernel
theorem dL_1213 : decode cL_law 1213 = .ok (.iaload, 1) := by decide +kernel
theorem dL_1214 : decode cL_law 1214 = .ok (.aload_n 0, 1) := by decide +kernel
theorem dL_1215 : decode cL_law 1215 = .ok (.iload_n 3, 1) := by decide +kernel
theorem dL_1216 : decode cL_law 1216 = .ok (.iconst 2, 1) := by decide +kernel
theorem dL_1217 : decode cL_law 1217 = .ok (.iadd, 1) := by decide +kernel
theorem dL_1218 : decode cL_law 1218 = .ok (.iaload, 1) := by decide +kernel
theorem dL_1219 : decode cL_law 1219 = .ok (.invokevirtual 148, 3) := by decide +kernel
theorem dL_1222 : decode cL_law 1222 = .ok (.aload_n 2, 1) := by decide +kernel
theorem dL_1223 : decode cL_law 1223 = .ok (.aload_n 0, 1) := by decide +kernel
theorem dL_1224 : decode cL_law 1224 = .ok (.iload_n 3, 1) := by decide +kernel
theorem dL_1225 : decode cL_law 1225 = .ok (.iconst 1, 1) := by decide +kernel
theorem dL_1226 : decode cL_law 1226 = .ok (.iadd, 1) := by decide +kernel
theorem dL_1227 : decode cL_law 1227 = .ok (.iaload, 1) := by decide +kernel
theorem dL_1228 : decode cL_law 1228 = .ok (.aload_n 0, 1) := by decide +kernel
theorem dL_1229 : decode cL_law 1229 = .ok (.iload_n 3, 1) := by decide +kernel
theorem dL_1230 : decode cL_law 1230 = .ok (.iconst 2, 1) := by decide +kernel
theorem dL_1231 : decode cL_law 1231 = .ok (.iadd, 1) := by decide +kernel
theorem dL_1232 : decode cL_law 1232 = .ok (.iaload, 1) := by decide +kernel
theorem dL_1233 : decode cL_law 1233 = .ok (.invokevirtual 151, 3) := by decide +kernel
theorem dL_1236 : decode cL_law 1236 = .ok (.if_icmp .eq 384, 3) := by decide +kernel
theorem dL_1239 : decode cL_law 1239 = .ok (.iconst 0, 1) := by decide +kernel
theorem dL_1240 : decode cL_law 1240 = .ok (.ireturn, 1) := by decide +kernel
theorem dL_1241 : decode cL_law 1241 = .ok (.aload_n 1, 1) := by decide +kernel
theorem dL_1242 : decode cL_law 1242 = .ok (.aload_n 0, 1) := by decide +kernel
theorem dL_1243 : decode cL_law 1243 = .ok (.iload_n 3, 1) := by decide +kernel
theorem dL_1244 : decode cL_law 1244 = .ok (.iconst 1, 1) := by decide +kernel
theorem dL_1245 : decode cL_law 1245 = .ok (.iadd, 1) := by decide +kernel
theorem dL_1246 : decode cL_law 1246 = .ok (.iaload, 1) := by decide +kernel
theorem dL_1247 : decode cL_law 1247 = .ok (.aload_n 0, 1) := by decide +kernel
theorem dL_1248 : decode cL_law 1248 = .ok (.iload_n 3, 1) := by decide +kernel
theorem dL_1249 : decode cL_law 1249 = .ok (.iconst 2, 1) := by decide +kernel
theorem dL_1250 : decode cL_law 1250 = .ok (.iadd, 1) := by decide +kernel
theorem dL_1251 : decode cL_law 1251 = .ok (.iaload, 1) := by decide +kernel
theorem dL_1252 : decode cL_law 1252 = .ok (.aload_n 0, 1) := by decide +kernel
theorem dL_1253 : decode cL_law 1253 = .ok (.iload_n 3, 1) := by decide +kernel
theorem dL_1254 : decode cL_law 1254 = .ok (.iconst 3, 1) := by decide +kernel
theorem dL_1255 : decode cL_law 1255 = .ok (.iadd, 1) := by decide +kernel
theorem dL_1256 : decode cL_law 1256 = .ok (.iaload, 1) := by decide +kernel
theorem dL_1257 : decode cL_law 1257 = .ok (.invokevirtual 152, 3) := by decide +kernel
theorem dL_1260 : decode cL_law 1260 = .ok (.aload_n 2, 1) := by decide +kernel
theorem dL_1261 : decode cL_law 1261 = .ok (.aload_n 0, 1) := by decide +kernel
theorem dL_1262 : decode cL_law 1262 = .ok (.iload_n 3, 1) := by decide +kernel
theorem dL_1263 : decode cL_law 1263 = .ok (.iconst 1, 1) := by decide +kernel
theorem dL_1264 : decode cL_law 1264 = .ok (.iadd, 1) := by decide +kernel
theorem dL_1265 : decode cL_law 1265 = .ok (.iaload, 1) := by decide +kernel
theorem dL_1266 : decode cL_law 1266 = .ok (.aload_n 0, 1) := by decide +kernel
theorem dL_1267 : decode cL_law 1267 = .ok (.iload_n 3, 1) := by decide +kernel
theorem dL_1268 : decode cL_law 1268 = .ok (.iconst 2, 1) := by decide +kernel
theorem dL_1269 : decode cL_law 1269 = .ok (.iadd, 1) := by decide +kernel
theorem dL_1270 : decode cL_law 1270 = .ok (.iaload, 1) := by decide +kernel
theorem dL_1271 : decode cL_law 1271 = .ok (.aload_n 0, 1) := by decide +kernel
theorem dL_1272 : decode cL_law 1272 = .ok (.iload_n 3, 1) := by decide +kernel
theorem dL_1273 : decode cL_law 1273 = .ok (.iconst 3, 1) := by decide +kernel
theorem dL_1274 : decode cL_law 1274 = .ok (.iadd, 1) := by decide +kernel
theorem dL_1275 : decode cL_law 1275 = .ok (.iaload, 1) := by decide +kernel
theorem dL_1276 : decode cL_law 1276 = .ok (.invokevirtual 155, 3) := by decide +kernel
theorem dL_1279 : decode cL_law 1279 = .ok (.if_icmp .eq 341, 3) := by decide +kernel
theorem dL_1282 : decode cL_law 1282 = .ok (.iconst 0, 1) := by decide +kernel
theorem dL_1283 : decode cL_law 1283 = .ok (.ireturn, 1) := by decide +kernel
theorem dL_1284 : decode cL_law 1284 = .ok (.aload_n 1, 1) := by decide +kernel
theorem dL_1285 : decode cL_law 1285 = .ok (.aload_n 0, 1) := by decide +kernel
theorem dL_1286 : decode cL_law 1286 = .ok (.iload_n 3, 1) := by decide +kernel
theorem dL_1287 : decode cL_law 1287 = .ok (.iconst 1, 1) := by decide +kernel
theorem dL_1288 : decode cL_law 1288 = .ok (.iadd, 1) := by decide +kernel
theorem dL_1289 : decode cL_law 1289 = .ok (.iaload, 1) := by decide +kernel
theorem dL_1290 : decode cL_law 1290 = .ok (.invokevirtual 156, 3) := by decide +kernel
theorem dL_1293 : decode cL_law 1293 = .ok (.aload_n 2, 1) := by decide +kernel
theorem dL_1294 : decode cL_law 1294 = .ok (.aload_n 0, 1) := by decide +kernel
theorem dL_1295 : decode cL_law 1295 = .ok (.iload_n 3, 1) := by decide +kernel
theorem dL_1296 : decode cL_law 1296 = .ok (.iconst 1, 1) := by decide +kernel
theorem dL_1297 : decode cL_law 1297 = .ok (.iadd, 1) := by decide +kernel
theorem dL_1298 : decode cL_law 1298 = .ok (.iaload, 1) := by decide +kernel
theorem dL_1299 : decode cL_law 1299 = .ok (.invokevirtual 159, 3) := by decide +kernel
theorem dL_1302 : decode cL_law 1302 = .ok (.if_icmp .eq 318, 3) := by decide +kernel
theorem dL_1305 : decode cL_law 1305 = .ok (.iconst 0, 1) := by decide +kernel
theorem dL_1306 : decode cL_law 1306 = .ok (.ireturn, 1) := by decide +kernel
theorem dL_1307 : decode cL_law 1307 = .ok (.aload_n 1, 1) := by decide +kernel
theorem dL_1308 : decode cL_law 1308 = .ok (.aload_n 0, 1) := by decide +kernel
theorem dL_1309 : decode cL_law 1309 = .ok (.iload_n 3, 1) := by decide +kernel
theorem dL_1310 : decode cL_law 1310 = .ok (.iconst 1, 1) := by decide +kernel
theorem dL_1311 : decode cL_law 1311 = .ok (.iadd, 1) := by decide +kernel
theorem dL_1312 : decode cL_law 1312 = .ok (.iaload, 1) := by decide +kernel
theorem dL_1313 : decode cL_law 1313 = .ok (.aload_n 0, 1) := by decide +kernel
theorem dL_1314 : decode cL_law 1314 = .ok (.iload_n 3, 1) := by decide +kernel
theorem dL_1315 : decode cL_law 1315 = .ok (.iconst 2, 1) := by decide +kernel
theorem dL_1316 : decode cL_law 1316 = .ok (.iadd, 1) := by decide +kernel
theorem dL_1317 : decode cL_law 1317 = .ok (.iaload, 1) := by decide +kernel
theorem dL_1318 : decode cL_law 1318 = .ok (.invokevirtual 160, 3) := by decide +kernel
theorem dL_1321 : decode cL_law 1321 = .ok (.aload_n 2, 1) := by decide +kernel
theorem dL_1322 : decode cL_law 1322 = .ok (.aload_n 0, 1) := by decide +kernel
theorem dL_1323 : decode cL_law 1323 = .ok (.iload_n 3, 1) := by decide +kernel
theorem dL_1324 : decode cL_law 1324 = .ok (.iconst 1, 1) := by decide +kernel
theorem dL_1325 : decode cL_law 1325 = .ok (.iadd, 1) := by decide +kernel
theorem dL_1326 : decode cL_law 1326 = .ok (.iaload, 1) := by decide +kernel
theorem dL_1327 : decode cL_law 1327 = .ok (.aload_n 0, 1) := by decide +kernel
theorem dL_1328 : decode cL_law 1328 = .ok (.iload_n 3, 1) := by decide +kernel
theorem dL_1329 : decode cL_law 1329 = .ok (.iconst 2, 1) := by decide +kernel
theorem dL_1330 : decode cL_law 1330 = .ok (.iadd, 1) := by decide +kernel
theorem dL_1331 : decode cL_law 1331 = .ok (.iaload, 1) := by decide +kernel
theorem dL_1332 : decode cL_law 1332 = .ok (.invokevirtual 163, 3) := by decide +kernel
theorem dL_1335 : decode cL_law 1335 = .ok (.if_icmp .eq 285, 3) := by decide +kernel
theorem dL_1338 : decode cL_law 1338 = .ok (.iconst 0, 1) := by decide +kernel
theorem dL_1339 : decode cL_law 1339 = .ok (.ireturn, 1) := by decide +kernel
theorem dL_1340 : decode cL_law 1340 = .ok (.aload_n 1, 1) := by decide +kernel
theorem dL_1341 : decode cL_law 1341 = .ok (.aload_n 0, 1) := by decide +kernel
theorem dL_1342 : decode cL_law 1342 = .ok (.iload_n 3, 1) := by decide +kernel
theorem dL_1343 : decode cL_law 1343 = .ok (.iconst 1, 1) := by decide +kernel
theorem dL_1344 : decode cL_law 1344 = .ok (.iadd, 1) := by decide +kernel
theorem dL_1345 : decode cL_law 1345 = .ok (.iaload, 1) := by decide +kernel
theorem dL_1346 : decode cL_law 1346 = .ok (.aload_n 0, 1) := by decide +kernel
theorem dL_1347 : decode cL_law 1347 = .ok (.iload_n 3, 1) := by decide +kernel
theorem dL_1348 : decode cL_law 1348 = .ok (.iconst 2, 1) := by decide +kernel
theorem dL_1349 : decode cL_law 1349 = .ok (.iadd, 1) := by decide +kernel
theorem dL_1350 : decode cL_law 1350 = .ok (.iaload, 1) := by decide +kernel
theorem dL_1351 : decode cL_law 1351 = .ok (.invokevirtual 164, 3) := by decide +kernel
theorem dL_1354 : decode cL_law 1354 = .ok (.aload_n 2, 1) := by decide +kernel
theorem dL_1355 : decode cL_law 1355 = .ok (.aload_n 0, 1) := by decide +kernel
theorem dL_1356 : decode cL_law 1356 = .ok (.iload_n 3, 1) := by decide +kernel
theorem dL_1357 : decode cL_law 1357 = .ok (.iconst 1, 1) := by decide +kernel
theorem dL_1358 : decode cL_law 1358 = .ok (.iadd, 1) := by decide +kernel
theorem dL_1359 : decode cL_law 1359 = .ok (.iaload, 1) := by decide +kernel
theorem dL_1360 : decode cL_law 1360 = .ok (.aload_n 0, 1) := by decide +kernel
theorem dL_1361 : decode cL_law 1361 = .ok (.iload_n 3, 1) := by decide +kernel
theorem dL_1362 : decode cL_law 1362 = .ok (.iconst 2, 1) := by decide +kernel
theorem dL_1363 : decode cL_law 1363 = .ok (.iadd, 1) := by decide +kernel
theorem dL_1364 : decode cL_law 1364 = .ok (.iaload, 1) := by decide +kernel
theorem dL_1365 : decode cL_law 1365 = .ok (.invokevirtual 167, 3) := by decide +kernel
theorem dL_1368 : decode cL_law 1368 = .ok (.if_icmp .eq 252, 3) := by decide +kernel
theorem dL_1371 : decode cL_law 1371 = .ok (.iconst 0, 1) := by decide +kernel
theorem dL_1372 : decode cL_law 1372 = .ok (.ireturn, 1) := by decide +kernel
theorem dL_1373 : decode cL_law 1373 = .ok (.aload_n 1, 1) := by decide +kernel
theorem dL_1374 : decode cL_law 1374 = .ok (.aload_n 0, 1) := by decide +kernel
theorem dL_1375 : decode cL_law 1375 = .ok (.iload_n 3, 1) := by decide +kernel
theorem dL_1376 : decode cL_law 1376 = .ok (.iconst 1, 1) := by decide +kernel
theorem dL_1377 : decode cL_law 1377 = .ok (.iadd, 1) := by decide +kernel
theorem dL_1378 : decode cL_law 1378 = .ok (.iaload, 1) := by decide +kernel
theorem dL_1379 : decode cL_law 1379 = .ok (.invokevirtual 168, 3) := by decide +kernel
theorem dL_1382 : decode cL_law 1382 = .ok (.aload_n 2, 1) := by decide +kernel
theorem dL_1383 : decode cL_law 1383 = .ok (.aload_n 0, 1) := by decide +kernel
theorem dL_1384 : decode cL_law 1384 = .ok (.iload_n 3, 1) := by decide +kernel
theorem dL_1385 : decode cL_law 1385 = .ok (.iconst 1, 1) := by decide +kernel
theorem dL_1386 : decode cL_law 1386 = .ok (.iadd, 1) := by decide +kernel
theorem dL_1387 : decode cL_law 1387 = .ok (.iaload, 1) := by decide +kernel
theorem dL_1388 : decode cL_law 1388 = .ok (.invokevirtual 171, 3) := by decide +kernel
theorem dL_1391 : decode cL_law 1391 = .ok (.if_icmp .eq 229, 3) := by decide +kernel
theorem dL_1394 : decode cL_law 1394 = .ok (.iconst 0, 1) := by decide +kernel
theorem dL_1395 : decode cL_law 1395 = .ok (.ireturn, 1) := by decide +kernel
theorem dL_1396 : decode cL_law 1396 = .ok (.aload_n 1, 1) := by decide +kernel
theorem dL_1397 : decode cL_law 1397 = .ok (.aload_n 0, 1) := by decide +kernel
theorem dL_1398 : decode cL_law 1398 = .ok (.iload_n 3, 1) := by decide +kernel
theorem dL_1399 : decode cL_law 1399 = .ok (.iconst 1, 1) := by decide +kernel
theorem dL_1400 : decode cL_law 1400 = .ok (.iadd, 1) := by decide +kernel
theorem dL_1401 : decode cL_law 1401 = .ok (.iaload, 1) := by decide +kernel
theorem dL_1402 : decode cL_law 1402 = .ok (.aload_n 0, 1) := by decide +kernel
theorem dL_1403 : decode cL_law 1403 = .ok (.iload_n 3, 1) := by decide +kernel
theorem dL_1404 : decode cL_law 1404 = .ok (.iconst 2, 1) := by decide +kernel
theorem dL_1405 : decode cL_law 1405 = .ok (.iadd, 1) := by decide +kernel
theorem dL_1406 : decode cL_law 1406 = .ok (.iaload, 1) := by decide +kernel
theorem dL_1407 : decode cL_law 1407 = .ok (.aload_n 0, 1) := by decide +kernel
theorem dL_1408 : decode cL_law 1408 = .ok (.iload_n 3, 1) := by decide +kernel
theorem dL_1409 : decode cL_law 1409 = .ok (.iconst 3, 1) := by decide +kernel
theorem dL_1410 : decode cL_law 1410 = .ok (.iadd, 1) := by decide +kernel
theorem dL_1411 : decode cL_law 1411 = .ok (.iaload, 1) := by decide +kernel
theorem dL_1412 : decode cL_law 1412 = .ok (.aload_n 0, 1) := by decide +kernel
theorem dL_1413 : decode cL_law 1413 = .ok (.iload_n 3, 1) := by decide +kernel
theorem dL_1414 : decode cL_law 1414 = .ok (.iconst 4, 1) := by decide +kernel
theorem dL_1415 : decode cL_law 1415 = .ok (.iadd, 1) := by decide +kernel
theorem dL_1416 : decode cL_law 1416 = .ok (.iaload, 1) := by decide +kernel
theorem dL_1417 : decode cL_law 1417 = .ok (.invokevirtual 172, 3) := by decide +kernel
theorem dL_1420 : decode cL_law 1420 = .ok (.aload_n 2, 1) := by decide +kernel
theorem dL_1421 : decode cL_law 1421 = .ok (.aload_n 0, 1) := by decide +kernel
theorem dL_1422 : decode cL_law 1422 = .ok (.iload_n 3, 1) := by decide +kernel
theorem dL_1423 : decode cL_law 1423 = .ok (.iconst 1, 1) := by decide +kernel
theorem dL_1424 : decode cL_law 1424 = .ok (.iadd, 1) := by decide +kernel
theorem dL_1425 : decode cL_law 1425 = .ok (.iaload, 1) := by decide +kernel
theorem dL_1426 : decode cL_law 1426 = .ok (.aload_n 0, 1) := by decide +kernel
theorem dL_1427 : decode cL_law 1427 = .ok (.iload_n 3, 1) := by decide +kernel
theorem dL_1428 : decode cL_law 1428 = .ok (.iconst 2, 1) := by decide +kernel
theorem dL_1429 : decode cL_law 1429 = .ok (.iadd, 1) := by decide +kernel
theorem dL_1430 : decode cL_law 1430 = .ok (.iaload, 1) := by decide +kernel
theorem dL_1431 : decode cL_law 1431 = .ok (.aload_n 0, 1) := by decide +kernel
theorem dL_1432 : decode cL_law 1432 = .ok (.iload_n 3, 1) := by decide +kernel
theorem dL_1433 : decode cL_law 1433 = .ok (.iconst 3, 1) := by decide +kernel
theorem dL_1434 : decode cL_law 1434 = .ok (.iadd, 1) := by decide +kernel
theorem dL_1435 : decode cL_law 1435 = .ok (.iaload, 1) := by decide +kernel
theorem dL_1436 : decode cL_law 1436 = .ok (.aload_n 0, 1) := by decide +kernel
theorem dL_1437 : decode cL_law 1437 = .ok (.iload_n 3, 1) := by decide +kernel
theorem dL_1438 : decode cL_law 1438 = .ok (.iconst 4, 1) := by decide +kernel
theorem dL_1439 : decode cL_law 1439 = .ok (.iadd, 1) := by decide +kernel
theorem dL_1440 : decode cL_law 1440 = .ok (.iaload, 1) := by decide +kernel
theorem dL_1441 : decode cL_law 1441 = .ok (.invokevirtual 175, 3) := by decide +kernel
theorem dL_1444 : decode cL_law 1444 = .ok (.if_icmp .eq 176, 3) := by decide +kernel
theorem dL_1447 : decode cL_law 1447 = .ok (.iconst 0, 1) := by decide +kernel
theorem dL_1448 : decode cL_law 1448 = .ok (.ireturn, 1) := by decide +kernel
theorem dL_1449 : decode cL_law 1449 = .ok (.aload_n 1, 1) := by decide +kernel
theorem dL_1450 : decode cL_law 1450 = .ok (.aload_n 0, 1) := by decide +kernel
theorem dL_1451 : decode cL_law 1451 = .ok (.iload_n 3, 1) := by decide +kernel
theorem dL_1452 : decode cL_law 1452 = .ok (.iconst 1, 1) := by decide +kernel
theorem dL_1453 : decode cL_law 1453 = .ok (.iadd, 1) := by decide +kernel
theorem dL_1454 : decode cL_law 1454 = .ok (.iaload, 1) := by decide +kernel
theorem dL_1455 : decode cL_law 1455 = .ok (.aload_n 0, 1) := by decide +kernel
theorem dL_1456 : decode cL_law 1456 = .ok (.iload_n 3, 1) := by decide +kernel
theorem dL_1457 : decode cL_law 1457 = .ok (.iconst 2, 1) := by decide +kernel
theorem dL_1458 : decode cL_law 1458 = .ok (.iadd, 1) := by decide +kernel
theorem dL_1459 : decode cL_law 1459 = .ok (.iaload, 1) := by decide +kernel
theorem dL_1460 : decode cL_law 1460 = .ok (.aload_n 0, 1) := by decide +kernel
theorem dL_1461 : decode cL_law 1461 = .ok (.iload_n 3, 1) := by decide +kernel
theorem dL_1462 : decode cL_law 1462 = .ok (.iconst 3, 1) := by decide +kernel
theorem dL_1463 : decode cL_law 1463 = .ok (.iadd, 1) := by decide +kernel
theorem dL_1464 : decode cL_law 1464 = .ok (.iaload, 1) := by decide +kernel
theorem dL_1465 : decode cL_law 1465 = .ok (.invokevirtual 176, 3) := by decide +kernel
theorem dL_1468 : decode cL_law 1468 = .ok (.aload_n 2, 1) := by decide +kernel
theorem dL_1469 : decode cL_law 1469 = .ok (.aload_n 0, 1) := by decide +kernel
theorem dL_1470 : decode cL_law 1470 = .ok (.iload_n 3, 1) := by decide +kernel
theorem dL_1471 : decode cL_law 1471 = .ok (.iconst 1, 1) := by decide +kernel
theorem dL_1472 : decode cL_law 1472 = .ok (.iadd, 1) := by decide +kernel
theorem dL_1473 : decode cL_law 1473 = .ok (.iaload, 1) := by decide +kernel
theorem dL_1474 : decode cL_law 1474 = .ok (.aload_n 0, 1) := by decide +kernel
theorem dL_1475 : decode cL_law 1475 = .ok (.iload_n 3, 1) := by decide +kernel
theorem dL_1476 : decode cL_law 1476 = .ok (.iconst 2, 1) := by decide +kernel
theorem dL_1477 : decode cL_law 1477 = .ok (.iadd, 1) := by decide +kernel
theorem dL_1478 : decode cL_law 1478 = .ok (.iaload, 1) := by decide +kernel
theorem dL_1479 : decode cL_law 1479 = .ok (.aload_n 0, 1) := by decide +kernel
theorem dL_1480 : decode cL_law 1480 = .ok (.iload_n 3, 1) := by decide +kernel
theorem dL_1481 : decode cL_law 1481 = .ok (.iconst 3, 1) := by decide +kernel
theorem dL_1482 : decode cL_law 1482 = .ok (.iadd, 1) := by decide +kernel
theorem dL_1483 : decode cL_law 1483 = .ok (.iaload, 1) := by decide +kernel
theorem dL_1484 : decode cL_law 1484 = .ok (.invokevirtual 179, 3) := by decide +kernel
theorem dL_1487 : decode cL_law 1487 = .ok (.if_icmp .eq 133, 3) := by decide +kernel
theorem dL_1490 : decode cL_law 1490 = .ok (.iconst 0, 1) := by decide +kernel
theorem dL_1491 : decode cL_law 1491 = .ok (.ireturn, 1) := by decide +kernel
theorem dL_1492 : decode cL_law 1492 = .ok (.aload_n 1, 1) := by decide +kernel
theorem dL_1493 : decode cL_law 1493 = .ok (.aload_n 0, 1) := by decide +kernel
theorem dL_1494 : decode cL_law 1494 = .ok (.iload_n 3, 1) := by decide +kernel
theorem dL_1495 : decode cL_law 1495 = .ok (.iconst 1, 1) := by decide +kernel
theorem dL_1496 : decode cL_law 1496 = .ok (.iadd, 1) := by decide +kernel
theorem dL_1497 : decode cL_law 1497 = .ok (.iaload, 1) := by decide +kernel
theorem dL_1498 : decode cL_law 1498 = .ok (.aload_n 0, 1) := by decide +kernel
theorem dL_1499 : decode cL_law 1499 = .ok (.iload_n 3, 1) := by decide +kernel
theorem dL_1500 : decode cL_law 1500 = .ok (.iconst 2, 1) := by decide +kernel
theorem dL_1501 : decode cL_law 1501 = .ok (.iadd, 1) := by decide +kernel
theorem dL_1502 : decode cL_law 1502 = .ok (.iaload, 1) := by decide +kernel
theorem dL_1503 : decode cL_law 1503 = .ok (.invokevirtual 180, 3) := by decide +kernel
theorem dL_1506 : decode cL_law 1506 = .ok (.aload_n 2, 1) := by decide +kernel
theorem dL_1507 : decode cL_law 1507 = .ok (.aload_n 0, 1) := by decide +kernel
theorem dL_1508 : decode cL_law 1508 = .ok (.iload_n 3, 1) := by decide +kernel
theorem dL_1509 : decode cL_law 1509 = .ok (.iconst 1, 1) := by decide +kernel
theorem dL_1510 : decode cL_law 1510 = .ok (.iadd, 1) := by decide +kernel
theorem dL_1511 : decode cL_law 1511 = .ok (.iaload, 1) := by decide +kernel
theorem dL_1512 : decode cL_law 1512 = .ok (.aload_n 0, 1) := by decide +kernel
theorem dL_1513 : decode cL_law 1513 = .ok (.iload_n 3, 1) := by decide +kernel
theorem dL_1514 : decode cL_law 1514 = .ok (.iconst 2, 1) := by decide +kernel
theorem dL_1515 : decode cL_law 1515 = .ok (.iadd, 1) := by decide +kernel
theorem dL_1516 : decode cL_law 1516 = .ok (.iaload, 1) := by decide +kernel
theorem dL_1517 : decode cL_law 1517 = .ok (.invokevirtual 183, 3) := by decide +kernel
theorem dL_1520 : decode cL_law 1520 = .ok (.if_icmp .eq 100, 3) := by decide +kernel
theorem dL_1523 : decode cL_law 1523 = .ok (.iconst 0, 1) := by decide +kernel
theorem dL_1524 : decode cL_law 1524 = .ok (.ireturn, 1) := by decide +kernel
theorem dL_1525 : decode cL_law 1525 = .ok (.aload_n 1, 1) := by decide +kernel
theorem dL_1526 : decode cL_law 1526 = .ok (.aload_n 0, 1) := by decide +kernel
theorem dL_1527 : decode cL_law 1527 = .ok (.iload_n 3, 1) := by decide +kernel
theorem dL_1528 : decode cL_law 1528 = .ok (.iconst 1, 1) := by decide +kernel
theorem dL_1529 : decode cL_law 1529 = .ok (.iadd, 1) := by decide +kernel
theorem dL_1530 : decode cL_law 1530 = .ok (.iaload, 1) := by decide +kernel
theorem dL_1531 : decode cL_law 1531 = .ok (.invokevirtual 184, 3) := by decide +kernel
theorem dL_1534 : decode cL_law 1534 = .ok (.aload_n 2, 1) := by decide +kernel
theorem dL_1535 : decode cL_law 1535 = .ok (.aload_n 0, 1) := by decide +kernel
theorem dL_1536 : decode cL_law 1536 = .ok (.iload_n 3, 1) := by decide +kernel
theorem dL_1537 : decode cL_law 1537 = .ok (.iconst 1, 1) := by decide +kernel
theorem dL_1538 : decode cL_law 1538 = .ok (.iadd, 1) := by decide +kernel
theorem dL_1539 : decode cL_law 1539 = .ok (.iaload, 1) := by decide +kernel
theorem dL_1540 : decode cL_law 1540 = .ok (.invokevirtual 187, 3) := by decide +kernel
theorem dL_1543 : decode cL_law 1543 = .ok (.if_icmp .eq 77, 3) := by decide +kernel
theorem dL_1546 : decode cL_law 1546 = .ok (.iconst 0, 1) := by decide +kernel
theorem dL_1547 : decode cL_law 1547 = .ok (.ireturn, 1) := by decide +kernel
theorem dL_1548 : decode cL_law 1548 = .ok (.aload_n 1, 1) := by decide +kernel
theorem dL_1549 : decode cL_law 1549 = .ok (.aload_n 0, 1) := by decide +kernel
theorem dL_1550 : decode cL_law 1550 = .ok (.iload_n 3, 1) := by decide +kernel
theorem dL_1551 : decode cL_law 1551 = .ok (.iconst 1, 1) := by decide +kernel
theorem dL_1552 : decode cL_law 1552 = .ok (.iadd, 1) := by decide +kernel
theorem dL_1553 : decode cL_law 1553 = .ok (.iaload, 1) := by decide +kernel
theorem dL_1554 : decode cL_law 1554 = .ok (.invokevirtual 188, 3) := by decide +kernel
theorem dL_1557 : decode cL_law 1557 = .ok (.aload_n 2, 1) := by decide +kernel
theorem dL_1558 : decode cL_law 1558 = .ok (.aload_n 0, 1) := by decide +kernel
theorem dL_1559 : decode cL_law 1559 = .ok (.iload_n 3, 1) := by decide +kernel
theorem dL_1560 : decode cL_law 1560 = .ok (.iconst 1, 1) := by decide +kernel
theorem dL_1561 : decode cL_law 1561 = .ok (.iadd, 1) := by decide +kernel
theorem dL_1562 : decode cL_law 1562 = .ok (.iaload, 1) := by decide +kernel
theorem dL_1563 : decode cL_law 1563 = .ok (.invokevirtual 191, 3) := by decide +kernel
theorem dL_1566 : decode cL_law 1566 = .ok (.if_icmp .eq 54, 3) := by decide +kernel
theorem dL_1569 : decode cL_law 1569 = .ok (.iconst 0, 1) := by decide +kernel
theorem dL_1570 : decode cL_law 1570 = .ok (.ireturn, 1) := by decide +kernel
theorem dL_1571 : decode cL_law 1571 = .ok (.aload_n 1, 1) := by decide +kernel
theorem dL_1572 : decode cL_law 1572 = .ok (.aload_n 0, 1) := by decide +kernel
theorem dL_1573 : decode cL_law 1573 = .ok (.iload_n 3, 1) := by decide +kernel
theorem dL_1574 : decode cL_law 1574 = .ok (.iconst 1, 1) := by decide +kernel
theorem dL_1575 : decode cL_law 1575 = .ok (.iadd, 1) := by decide +kernel
theorem dL_1576 : decode cL_law 1576 = .ok (.iaload, 1) := by decide +kernel
theorem dL_1577 : decode cL_law 1577 = .ok (.invokevirtual 192, 3) := by decide +kernel
theorem dL_1580 : decode cL_law 1580 = .ok (.aload_n 2, 1) := by decide +kernel
theorem dL_1581 : decode cL_law 1581 = .ok (.aload_n 0, 1) := by decide +kernel
theorem dL_1582 : decode cL_law 1582 = .ok (.iload_n 3, 1) := by decide +kernel
theorem dL_1583 : decode cL_law 1583 = .ok (.iconst 1, 1) := by decide +kernel
theorem dL_1584 : decode cL_law 1584 = .ok (.iadd, 1) := by decide +kernel
theorem dL_1585 : decode cL_law 1585 = .ok (.iaload, 1) := by decide +kernel
theorem dL_1586 : decode cL_law 1586 = .ok (.invokevirtual 195, 3) := by decide +kernel
theorem dL_1589 : decode cL_law 1589 = .ok (.if_icmp .eq 31, 3) := by decide +kernel
theorem dL_1592 : decode cL_law 1592 = .ok (.iconst 0, 1) := by decide +kernel
theorem dL_1593 : decode cL_law 1593 = .ok (.ireturn, 1) := by decide +kernel
theorem dL_1594 : decode cL_law 1594 = .ok (.aload_n 1, 1) := by decide +kernel
theorem dL_1595 : decode cL_law 1595 = .ok (.invokevirtual 196, 3) := by decide +kernel
theorem dL_1598 : decode cL_law 1598 = .ok (.aload_n 2, 1) := by decide +kernel
theorem dL_1599 : decode cL_law 1599 = .ok (.invokevirtual 199, 3) := by decide +kernel
theorem dL_1602 : decode cL_law 1602 = .ok (.if_icmp .eq 18, 3) := by decide +kernel
theorem dL_1605 : decode cL_law 1605 = .ok (.iconst 0, 1) := by decide +kernel
theorem dL_1606 : decode cL_law 1606 = .ok (.ireturn, 1) := by decide +kernel
theorem dL_1607 : decode cL_law 1607 = .ok (.aload_n 1, 1) := by decide +kernel
theorem dL_1608 : decode cL_law 1608 = .ok (.invokevirtual 200, 3) := by decide +kernel
theorem dL_1611 : decode cL_law 1611 = .ok (.aload_n 2, 1) := by decide +kernel
theorem dL_1612 : decode cL_law 1612 = .ok (.invokevirtual 203, 3) := by decide +kernel
theorem dL_1615 : decode cL_law 1615 = .ok (.if_icmp .eq 5, 3) := by decide +kernel
theorem dL_1618 : decode cL_law 1618 = .ok (.iconst 0, 1) := by decide +kernel
theorem dL_1619 : decode cL_law 1619 = .ok (.ireturn, 1) := by decide +kernel
theorem dL_1620 : decode cL_law 1620 = .ok (.iinc 3 6, 3) := by decide +kernel
theorem dL_1623 : decode cL_law 1623 = .ok (.goto (-1605), 3) := by decide +kernel
theorem dL_1626 : decode cL_law 1626 = .ok (.iconst 1, 1) := by decide +kernel
theorem dL_1627 : decode cL_law 1627 = .ok (.ireturn, 1) := by decide +kernel
