/-! decode rows and regions (by program): L_law -/
theorem d_L_law_0 : decode code 0 = .ok (.new 7, 3) := by decide +kernel
theorem d_L_law_3 : decode code 3 = .ok (.dup, 1) := by decide +kernel
theorem d_L_law_4 : decode code 4 = .ok (.invokespecial 9, 3) := by decide +kernel
theorem d_L_law_7 : decode code 7 = .ok (.astore_n 1, 1) := by decide +kernel
theorem d_L_law_8 : decode code 8 = .ok (.new 10, 3) := by decide +kernel
theorem d_L_law_11 : decode code 11 = .ok (.dup, 1) := by decide +kernel
theorem d_L_law_12 : decode code 12 = .ok (.invokespecial 12, 3) := by decide +kernel
theorem d_L_law_15 : decode code 15 = .ok (.astore_n 2, 1) := by decide +kernel
theorem d_L_law_16 : decode code 16 = .ok (.iconst 0, 1) := by decide +kernel
theorem d_L_law_17 : decode code 17 = .ok (.istore_n 3, 1) := by decide +kernel
theorem d_L_law_18 : decode code 18 = .ok (.iload_n 3, 1) := by decide +kernel
theorem d_L_law_19 : decode code 19 = .ok (.aload_n 0, 1) := by decide +kernel
theorem d_L_law_20 : decode code 20 = .ok (.arraylength, 1) := by decide +kernel
theorem d_L_law_21 : decode code 21 = .ok (.bipush 6, 2) := by decide +kernel
theorem d_L_law_23 : decode code 23 = .ok (.isub, 1) := by decide +kernel
theorem d_L_law_24 : decode code 24 = .ok (.if_icmp .gt 2356, 3) := by decide +kernel
theorem d_L_law_27 : decode code 27 = .ok (.aload_n 0, 1) := by decide +kernel
theorem d_L_law_28 : decode code 28 = .ok (.iload_n 3, 1) := by decide +kernel
theorem d_L_law_29 : decode code 29 = .ok (.iaload, 1) := by decide +kernel
theorem d_L_law_30 : decode code 30 = .ok (.bipush 127, 2) := by decide +kernel
theorem d_L_law_32 : decode code 32 = .ok (.iand, 1) := by decide +kernel
theorem d_L_law_33 : decode code 33 = .ok (.tableswitch 2341 0 64 #[275, 338, 361, 394, 417, 430, 443, 466, 499, 522, 575, 618, 662, 705, 739, 782, 816, 859, 918, 961, 994, 1028, 1062, 1085, 1108, 1151, 1174, 1197, 1231, 1254, 1287, 1310, 1343, 1412, 1445, 1478, 1501, 1545, 1578, 1627, 1650, 1673, 1696, 1740, 1794, 1837, 1870, 1923, 1946, 1969, 2003, 2037, 2100, 2123, 2146, 2169, 2183, 2197, 2220, 2243, 2256, 2269, 2292, 2315, 2328], 275) := by decide +kernel
theorem d_L_law_308 : decode code 308 = .ok (.aload_n 1, 1) := by decide +kernel
theorem d_L_law_309 : decode code 309 = .ok (.aload_n 0, 1) := by decide +kernel
theorem d_L_law_310 : decode code 310 = .ok (.iload_n 3, 1) := by decide +kernel
theorem d_L_law_311 : decode code 311 = .ok (.iconst 1, 1) := by decide +kernel
theorem d_L_law_312 : decode code 312 = .ok (.iadd, 1) := by decide +kernel
theorem d_L_law_313 : decode code 313 = .ok (.iaload, 1) := by decide +kernel
theorem d_L_law_314 : decode code 314 = .ok (.i2l, 1) := by decide +kernel
theorem d_L_law_315 : decode code 315 = .ok (.bipush 32, 2) := by decide +kernel
theorem d_L_law_317 : decode code 317 = .ok (.lshl, 1) := by decide +kernel
theorem d_L_law_318 : decode code 318 = .ok (.aload_n 0, 1) := by decide +kernel
theorem d_L_law_319 : decode code 319 = .ok (.iload_n 3, 1) := by decide +kernel
theorem d_L_law_320 : decode code 320 = .ok (.iconst 2, 1) := by decide +kernel
theorem d_L_law_321 : decode code 321 = .ok (.iadd, 1) := by decide +kernel
theorem d_L_law_322 : decode code 322 = .ok (.iaload, 1) := by decide +kernel
theorem d_L_law_323 : decode code 323 = .ok (.i2l, 1) := by decide +kernel
theorem d_L_law_324 : decode code 324 = .ok (.ldc2_w 13, 3) := by decide +kernel
theorem d_L_law_327 : decode code 327 = .ok (.land, 1) := by decide +kernel
theorem d_L_law_328 : decode code 328 = .ok (.lor, 1) := by decide +kernel
theorem d_L_law_329 : decode code 329 = .ok (.aload_n 0, 1) := by decide +kernel
theorem d_L_law_330 : decode code 330 = .ok (.iload_n 3, 1) := by decide +kernel
theorem d_L_law_331 : decode code 331 = .ok (.iconst 3, 1) := by decide +kernel
theorem d_L_law_332 : decode code 332 = .ok (.iadd, 1) := by decide +kernel
theorem d_L_law_333 : decode code 333 = .ok (.iaload, 1) := by decide +kernel
theorem d_L_law_334 : decode code 334 = .ok (.invokevirtual 15, 3) := by decide +kernel
theorem d_L_law_337 : decode code 337 = .ok (.aload_n 2, 1) := by decide +kernel
theorem d_L_law_338 : decode code 338 = .ok (.aload_n 0, 1) := by decide +kernel
theorem d_L_law_339 : decode code 339 = .ok (.iload_n 3, 1) := by decide +kernel
theorem d_L_law_340 : decode code 340 = .ok (.iconst 1, 1) := by decide +kernel
theorem d_L_law_341 : decode code 341 = .ok (.iadd, 1) := by decide +kernel
theorem d_L_law_342 : decode code 342 = .ok (.iaload, 1) := by decide +kernel
theorem d_L_law_343 : decode code 343 = .ok (.i2l, 1) := by decide +kernel
theorem d_L_law_344 : decode code 344 = .ok (.bipush 32, 2) := by decide +kernel
theorem d_L_law_346 : decode code 346 = .ok (.lshl, 1) := by decide +kernel
theorem d_L_law_347 : decode code 347 = .ok (.aload_n 0, 1) := by decide +kernel
theorem d_L_law_348 : decode code 348 = .ok (.iload_n 3, 1) := by decide +kernel
theorem d_L_law_349 : decode code 349 = .ok (.iconst 2, 1) := by decide +kernel
theorem d_L_law_350 : decode code 350 = .ok (.iadd, 1) := by decide +kernel
theorem d_L_law_351 : decode code 351 = .ok (.iaload, 1) := by decide +kernel
theorem d_L_law_352 : decode code 352 = .ok (.i2l, 1) := by decide +kernel
theorem d_L_law_353 : decode code 353 = .ok (.ldc2_w 13, 3) := by decide +kernel
theorem d_L_law_356 : decode code 356 = .ok (.land, 1) := by decide +kernel
theorem d_L_law_357 : decode code 357 = .ok (.lor, 1) := by decide +kernel
theorem d_L_law_358 : decode code 358 = .ok (.aload_n 0, 1) := by decide +kernel
theorem d_L_law_359 : decode code 359 = .ok (.iload_n 3, 1) := by decide +kernel
theorem d_L_law_360 : decode code 360 = .ok (.iconst 3, 1) := by decide +kernel
theorem d_L_law_361 : decode code 361 = .ok (.iadd, 1) := by decide +kernel
theorem d_L_law_362 : decode code 362 = .ok (.iaload, 1) := by decide +kernel
theorem d_L_law_363 : decode code 363 = .ok (.invokevirtual 19, 3) := by decide +kernel
theorem d_L_law_366 : decode code 366 = .ok (.if_icmp .eq 2008, 3) := by decide +kernel
theorem d_L_law_369 : decode code 369 = .ok (.iconst 0, 1) := by decide +kernel
theorem d_L_law_370 : decode code 370 = .ok (.ireturn, 1) := by decide +kernel
theorem d_L_law_371 : decode code 371 = .ok (.aload_n 1, 1) := by decide +kernel
theorem d_L_law_372 : decode code 372 = .ok (.aload_n 0, 1) := by decide +kernel
theorem d_L_law_373 : decode code 373 = .ok (.iload_n 3, 1) := by decide +kernel
theorem d_L_law_374 : decode code 374 = .ok (.iconst 1, 1) := by decide +kernel
theorem d_L_law_375 : decode code 375 = .ok (.iadd, 1) := by decide +kernel
theorem d_L_law_376 : decode code 376 = .ok (.iaload, 1) := by decide +kernel
theorem d_L_law_377 : decode code 377 = .ok (.invokevirtual 20, 3) := by decide +kernel
theorem d_L_law_380 : decode code 380 = .ok (.aload_n 2, 1) := by decide +kernel
theorem d_L_law_381 : decode code 381 = .ok (.aload_n 0, 1) := by decide +kernel
theorem d_L_law_382 : decode code 382 = .ok (.iload_n 3, 1) := by decide +kernel
theorem d_L_law_383 : decode code 383 = .ok (.iconst 1, 1) := by decide +kernel
theorem d_L_law_384 : decode code 384 = .ok (.iadd, 1) := by decide +kernel
theorem d_L_law_385 : decode code 385 = .ok (.iaload, 1) := by decide +kernel
theorem d_L_law_386 : decode code 386 = .ok (.invokevirtual 24, 3) := by decide +kernel
theorem d_L_law_389 : decode code 389 = .ok (.if_icmp .eq 1985, 3) := by decide +kernel
theorem d_L_law_392 : decode code 392 = .ok (.iconst 0, 1) := by decide +kernel
theorem d_L_law_393 : decode code 393 = .ok (.ireturn, 1) := by decide +kernel
theorem d_L_law_394 : decode code 394 = .ok (.aload_n 1, 1) := by decide +kernel
theorem d_L_law_395 : decode code 395 = .ok (.aload_n 0, 1) := by decide +kernel
theorem d_L_law_396 : decode code 396 = .ok (.iload_n 3, 1) := by decide +kernel
theorem d_L_law_397 : decode code 397 = .ok (.iconst 1, 1) := by decide +kernel
theorem d_L_law_398 : decode code 398 = .ok (.iadd, 1) := by decide +kernel
theorem d_L_law_399 : decode code 399 = .ok (.iaload, 1) := by decide +kernel
theorem d_L_law_400 : decode code 400 = .ok (.aload_n 0, 1) := by decide +kernel
theorem d_L_law_401 : decode code 401 = .ok (.iload_n 3, 1) := by decide +kernel
theorem d_L_law_402 : decode code 402 = .ok (.iconst 2, 1) := by decide +kernel
theorem d_L_law_403 : decode code 403 = .ok (.iadd, 1) := by decide +kernel
theorem d_L_law_404 : decode code 404 = .ok (.iaload, 1) := by decide +kernel
theorem d_L_law_405 : decode code 405 = .ok (.invokevirtual 25, 3) := by decide +kernel
theorem d_L_law_408 : decode code 408 = .ok (.aload_n 2, 1) := by decide +kernel
theorem d_L_law_409 : decode code 409 = .ok (.aload_n 0, 1) := by decide +kernel
theorem d_L_law_410 : decode code 410 = .ok (.iload_n 3, 1) := by decide +kernel
theorem d_L_law_411 : decode code 411 = .ok (.iconst 1, 1) := by decide +kernel
theorem d_L_law_412 : decode code 412 = .ok (.iadd, 1) := by decide +kernel
theorem d_L_law_413 : decode code 413 = .ok (.iaload, 1) := by decide +kernel
theorem d_L_law_414 : decode code 414 = .ok (.aload_n 0, 1) := by decide +kernel
theorem d_L_law_415 : decode code 415 = .ok (.iload_n 3, 1) := by decide +kernel
theorem d_L_law_416 : decode code 416 = .ok (.iconst 2, 1) := by decide +kernel
theorem d_L_law_417 : decode code 417 = .ok (.iadd, 1) := by decide +kernel
theorem d_L_law_418 : decode code 418 = .ok (.iaload, 1) := by decide +kernel
theorem d_L_law_419 : decode code 419 = .ok (.invokevirtual 29, 3) := by decide +kernel
theorem d_L_law_422 : decode code 422 = .ok (.if_icmp .eq 1952, 3) := by decide +kernel
theorem d_L_law_425 : decode code 425 = .ok (.iconst 0, 1) := by decide +kernel
theorem d_L_law_426 : decode code 426 = .ok (.ireturn, 1) := by decide +kernel
theorem d_L_law_427 : decode code 427 = .ok (.aload_n 1, 1) := by decide +kernel
theorem d_L_law_428 : decode code 428 = .ok (.aload_n 0, 1) := by decide +kernel
theorem d_L_law_429 : decode code 429 = .ok (.iload_n 3, 1) := by decide +kernel
theorem d_L_law_430 : decode code 430 = .ok (.iconst 1, 1) := by decide +kernel
theorem d_L_law_431 : decode code 431 = .ok (.iadd, 1) := by decide +kernel
theorem d_L_law_432 : decode code 432 = .ok (.iaload, 1) := by decide +kernel
theorem d_L_law_433 : decode code 433 = .ok (.invokevirtual 30, 3) := by decide +kernel
theorem d_L_law_436 : decode code 436 = .ok (.aload_n 2, 1) := by decide +kernel
theorem d_L_law_437 : decode code 437 = .ok (.aload_n 0, 1) := by decide +kernel
theorem d_L_law_438 : decode code 438 = .ok (.iload_n 3, 1) := by decide +kernel
theorem d_L_law_439 : decode code 439 = .ok (.iconst 1, 1) := by decide +kernel
theorem d_L_law_440 : decode code 440 = .ok (.iadd, 1) := by decide +kernel
theorem d_L_law_441 : decode code 441 = .ok (.iaload, 1) := by decide +kernel
theorem d_L_law_442 : decode code 442 = .ok (.invokevirtual 33, 3) := by decide +kernel
theorem d_L_law_445 : decode code 445 = .ok (.if_icmp .eq 1929, 3) := by decide +kernel
theorem d_L_law_448 : decode code 448 = .ok (.iconst 0, 1) := by decide +kernel
theorem d_L_law_449 : decode code 449 = .ok (.ireturn, 1) := by decide +kernel
theorem d_L_law_450 : decode code 450 = .ok (.aload_n 1, 1) := by decide +kernel
theorem d_L_law_451 : decode code 451 = .ok (.invokevirtual 34, 3) := by decide +kernel
theorem d_L_law_454 : decode code 454 = .ok (.aload_n 2, 1) := by decide +kernel
theorem d_L_law_455 : decode code 455 = .ok (.invokevirtual 38, 3) := by decide +kernel
theorem d_L_law_458 : decode code 458 = .ok (.if_icmp .eq 1916, 3) := by decide +kernel
theorem d_L_law_461 : decode code 461 = .ok (.iconst 0, 1) := by decide +kernel
theorem d_L_law_462 : decode code 462 = .ok (.ireturn, 1) := by decide +kernel
theorem d_L_law_463 : decode code 463 = .ok (.aload_n 1, 1) := by decide +kernel
theorem d_L_law_464 : decode code 464 = .ok (.invokevirtual 39, 3) := by decide +kernel
theorem d_L_law_467 : decode code 467 = .ok (.aload_n 2, 1) := by decide +kernel
theorem d_L_law_468 : decode code 468 = .ok (.invokevirtual 42, 3) := by decide +kernel
theorem d_L_law_471 : decode code 471 = .ok (.if_icmp .eq 1903, 3) := by decide +kernel
theorem d_L_law_474 : decode code 474 = .ok (.iconst 0, 1) := by decide +kernel
theorem d_L_law_475 : decode code 475 = .ok (.ireturn, 1) := by decide +kernel
theorem d_L_law_476 : decode code 476 = .ok (.aload_n 1, 1) := by decide +kernel
theorem d_L_law_477 : decode code 477 = .ok (.aload_n 0, 1) := by decide +kernel
theorem d_L_law_478 : decode code 478 = .ok (.iload_n 3, 1) := by decide +kernel
theorem d_L_law_479 : decode code 479 = .ok (.iconst 1, 1) := by decide +kernel
theorem d_L_law_480 : decode code 480 = .ok (.iadd, 1) := by decide +kernel
theorem d_L_law_481 : decode code 481 = .ok (.iaload, 1) := by decide +kernel
theorem d_L_law_482 : decode code 482 = .ok (.invokevirtual 43, 3) := by decide +kernel
theorem d_L_law_485 : decode code 485 = .ok (.aload_n 2, 1) := by decide +kernel
theorem d_L_law_486 : decode code 486 = .ok (.aload_n 0, 1) := by decide +kernel
theorem d_L_law_487 : decode code 487 = .ok (.iload_n 3, 1) := by decide +kernel
theorem d_L_law_488 : decode code 488 = .ok (.iconst 1, 1) := by decide +kernel
theorem d_L_law_489 : decode code 489 = .ok (.iadd, 1) := by decide +kernel
theorem d_L_law_490 : decode code 490 = .ok (.iaload, 1) := by decide +kernel
theorem d_L_law_491 : decode code 491 = .ok (.invokevirtual 47, 3) := by decide +kernel
theorem d_L_law_494 : decode code 494 = .ok (.if_icmp .eq 1880, 3) := by decide +kernel
theorem d_L_law_497 : decode code 497 = .ok (.iconst 0, 1) := by decide +kernel
theorem d_L_law_498 : decode code 498 = .ok (.ireturn, 1) := by decide +kernel
theorem d_L_law_499 : decode code 499 = .ok (.aload_n 1, 1) := by decide +kernel
theorem d_L_law_500 : decode code 500 = .ok (.aload_n 0, 1) := by decide +kernel
theorem d_L_law_501 : decode code 501 = .ok (.iload_n 3, 1) := by decide +kernel
theorem d_L_law_502 : decode code 502 = .ok (.iconst 1, 1) := by decide +kernel
theorem d_L_law_503 : decode code 503 = .ok (.iadd, 1) := by decide +kernel
theorem d_L_law_504 : decode code 504 = .ok (.iaload, 1) := by decide +kernel
theorem d_L_law_505 : decode code 505 = .ok (.aload_n 0, 1) := by decide +kernel
theorem d_L_law_506 : decode code 506 = .ok (.iload_n 3, 1) := by decide +kernel
theorem d_L_law_507 : decode code 507 = .ok (.iconst 2, 1) := by decide +kernel
theorem d_L_law_508 : decode code 508 = .ok (.iadd, 1) := by decide +kernel
theorem d_L_law_509 : decode code 509 = .ok (.iaload, 1) := by decide +kernel
theorem d_L_law_510 : decode code 510 = .ok (.invokevirtual 48, 3) := by decide +kernel
theorem d_L_law_513 : decode code 513 = .ok (.aload_n 2, 1) := by decide +kernel
theorem d_L_law_514 : decode code 514 = .ok (.aload_n 0, 1) := by decide +kernel
theorem d_L_law_515 : decode code 515 = .ok (.iload_n 3, 1) := by decide +kernel
theorem d_L_law_516 : decode code 516 = .ok (.iconst 1, 1) := by decide +kernel
theorem d_L_law_517 : decode code 517 = .ok (.iadd, 1) := by decide +kernel
theorem d_L_law_518 : decode code 518 = .ok (.iaload, 1) := by decide +kernel
theorem d_L_law_519 : decode code 519 = .ok (.aload_n 0, 1) := by decide +kernel
theorem d_L_law_520 : decode code 520 = .ok (.iload_n 3, 1) := by decide +kernel
theorem d_L_law_521 : decode code 521 = .ok (.iconst 2, 1) := by decide +kernel
theorem d_L_law_522 : decode code 522 = .ok (.iadd, 1) := by decide +kernel
theorem d_L_law_523 : decode code 523 = .ok (.iaload, 1) := by decide +kernel
theorem d_L_law_524 : decode code 524 = .ok (.invokevirtual 51, 3) := by decide +kernel
theorem d_L_law_527 : decode code 527 = .ok (.if_icmp .eq 1847, 3) := by decide +kernel
theorem d_L_law_530 : decode code 530 = .ok (.iconst 0, 1) := by decide +kernel
theorem d_L_law_531 : decode code 531 = .ok (.ireturn, 1) := by decide +kernel
theorem d_L_law_532 : decode code 532 = .ok (.aload_n 1, 1) := by decide +kernel
theorem d_L_law_533 : decode code 533 = .ok (.aload_n 0, 1) := by decide +kernel
theorem d_L_law_534 : decode code 534 = .ok (.iload_n 3, 1) := by decide +kernel
theorem d_L_law_535 : decode code 535 = .ok (.iconst 1, 1) := by decide +kernel
theorem d_L_law_536 : decode code 536 = .ok (.iadd, 1) := by decide +kernel
theorem d_L_law_537 : decode code 537 = .ok (.iaload, 1) := by decide +kernel
theorem d_L_law_538 : decode code 538 = .ok (.invokevirtual 52, 3) := by decide +kernel
theorem d_L_law_541 : decode code 541 = .ok (.aload_n 2, 1) := by decide +kernel
theorem d_L_law_542 : decode code 542 = .ok (.aload_n 0, 1) := by decide +kernel
theorem d_L_law_543 : decode code 543 = .ok (.iload_n 3, 1) := by decide +kernel
theorem d_L_law_544 : decode code 544 = .ok (.iconst 1, 1) := by decide +kernel
theorem d_L_law_545 : decode code 545 = .ok (.iadd, 1) := by decide +kernel
theorem d_L_law_546 : decode code 546 = .ok (.iaload, 1) := by decide +kernel
theorem d_L_law_547 : decode code 547 = .ok (.invokevirtual 55, 3) := by decide +kernel
theorem d_L_law_550 : decode code 550 = .ok (.if_icmp .eq 1824, 3) := by decide +kernel
theorem d_L_law_553 : decode code 553 = .ok (.iconst 0, 1) := by decide +kernel
theorem d_L_law_554 : decode code 554 = .ok (.ireturn, 1) := by decide +kernel
theorem d_L_law_555 : decode code 555 = .ok (.aload_n 1, 1) := by decide +kernel
theorem d_L_law_556 : decode code 556 = .ok (.aload_n 0, 1) := by decide +kernel
theorem d_L_law_557 : decode code 557 = .ok (.iload_n 3, 1) := by decide +kernel
theorem d_L_law_558 : decode code 558 = .ok (.iconst 1, 1) := by decide +kernel
theorem d_L_law_559 : decode code 559 = .ok (.iadd, 1) := by decide +kernel
theorem d_L_law_560 : decode code 560 = .ok (.iaload, 1) := by decide +kernel
theorem d_L_law_561 : decode code 561 = .ok (.aload_n 0, 1) := by decide +kernel
theorem d_L_law_562 : decode code 562 = .ok (.iload_n 3, 1) := by decide +kernel
theorem d_L_law_563 : decode code 563 = .ok (.iconst 2, 1) := by decide +kernel
theorem d_L_law_564 : decode code 564 = .ok (.iadd, 1) := by decide +kernel
theorem d_L_law_565 : decode code 565 = .ok (.iaload, 1) := by decide +kernel
theorem d_L_law_566 : decode code 566 = .ok (.aload_n 0, 1) := by decide +kernel
theorem d_L_law_567 : decode code 567 = .ok (.iload_n 3, 1) := by decide +kernel
theorem d_L_law_568 : decode code 568 = .ok (.iconst 3, 1) := by decide +kernel
theorem d_L_law_569 : decode code 569 = .ok (.iadd, 1) := by decide +kernel
theorem d_L_law_570 : decode code 570 = .ok (.iaload, 1) := by decide +kernel
theorem d_L_law_571 : decode code 571 = .ok (.aload_n 0, 1) := by decide +kernel
theorem d_L_law_572 : decode code 572 = .ok (.iload_n 3, 1) := by decide +kernel
theorem d_L_law_573 : decode code 573 = .ok (.iconst 4, 1) := by decide +kernel
theorem d_L_law_574 : decode code 574 = .ok (.iadd, 1) := by decide +kernel
theorem d_L_law_575 : decode code 575 = .ok (.iaload, 1) := by decide +kernel
theorem d_L_law_576 : decode code 576 = .ok (.invokevirtual 56, 3) := by decide +kernel
theorem d_L_law_579 : decode code 579 = .ok (.aload_n 2, 1) := by decide +kernel
theorem d_L_law_580 : decode code 580 = .ok (.aload_n 0, 1) := by decide +kernel
theorem d_L_law_581 : decode code 581 = .ok (.iload_n 3, 1) := by decide +kernel
theorem d_L_law_582 : decode code 582 = .ok (.iconst 1, 1) := by decide +kernel
theorem d_L_law_583 : decode code 583 = .ok (.iadd, 1) := by decide +kernel
theorem d_L_law_584 : decode code 584 = .ok (.iaload, 1) := by decide +kernel
theorem d_L_law_585 : decode code 585 = .ok (.aload_n 0, 1) := by decide +kernel
theorem d_L_law_586 : decode code 586 = .ok (.iload_n 3, 1) := by decide +kernel
theorem d_L_law_587 : decode code 587 = .ok (.iconst 2, 1) := by decide +kernel
theorem d_L_law_588 : decode code 588 = .ok (.iadd, 1) := by decide +kernel
theorem d_L_law_589 : decode code 589 = .ok (.iaload, 1) := by decide +kernel
theorem d_L_law_590 : decode code 590 = .ok (.aload_n 0, 1) := by decide +kernel
theorem d_L_law_591 : decode code 591 = .ok (.iload_n 3, 1) := by decide +kernel
theorem d_L_law_592 : decode code 592 = .ok (.iconst 3, 1) := by decide +kernel
theorem d_L_law_593 : decode code 593 = .ok (.iadd, 1) := by decide +kernel
theorem d_L_law_594 : decode code 594 = .ok (.iaload, 1) := by decide +kernel
theorem d_L_law_595 : decode code 595 = .ok (.aload_n 0, 1) := by decide +kernel
theorem d_L_law_596 : decode code 596 = .ok (.iload_n 3, 1) := by decide +kernel
theorem d_L_law_597 : decode code 597 = .ok (.iconst 4, 1) := by decide +kernel
theorem d_L_law_598 : decode code 598 = .ok (.iadd, 1) := by decide +kernel
theorem d_L_law_599 : decode code 599 = .ok (.iaload, 1) := by decide +kernel
theorem d_L_law_600 : decode code 600 = .ok (.invokevirtual 60, 3) := by decide +kernel
theorem d_L_law_603 : decode code 603 = .ok (.if_icmp .eq 1771, 3) := by decide +kernel
theorem d_L_law_606 : decode code 606 = .ok (.iconst 0, 1) := by decide +kernel
theorem d_L_law_607 : decode code 607 = .ok (.ireturn, 1) := by decide +kernel
theorem d_L_law_608 : decode code 608 = .ok (.aload_n 1, 1) := by decide +kernel
theorem d_L_law_609 : decode code 609 = .ok (.aload_n 0, 1) := by decide +kernel
theorem d_L_law_610 : decode code 610 = .ok (.iload_n 3, 1) := by decide +kernel
theorem d_L_law_611 : decode code 611 = .ok (.iconst 1, 1) := by decide +kernel
theorem d_L_law_612 : decode code 612 = .ok (.iadd, 1) := by decide +kernel
theorem d_L_law_613 : decode code 613 = .ok (.iaload, 1) := by decide +kernel
theorem d_L_law_614 : decode code 614 = .ok (.aload_n 0, 1) := by decide +kernel
theorem d_L_law_615 : decode code 615 = .ok (.iload_n 3, 1) := by decide +kernel
theorem d_L_law_616 : decode code 616 = .ok (.iconst 2, 1) := by decide +kernel
theorem d_L_law_617 : decode code 617 = .ok (.iadd, 1) := by decide +kernel
theorem d_L_law_618 : decode code 618 = .ok (.iaload, 1) := by decide +kernel
theorem d_L_law_619 : decode code 619 = .ok (.aload_n 0, 1) := by decide +kernel
theorem d_L_law_620 : decode code 620 = .ok (.iload_n 3, 1) := by decide +kernel
theorem d_L_law_621 : decode code 621 = .ok (.iconst 3, 1) := by decide +kernel
theorem d_L_law_622 : decode code 622 = .ok (.iadd, 1) := by decide +kernel
theorem d_L_law_623 : decode code 623 = .ok (.iaload, 1) := by decide +kernel
theorem d_L_law_624 : decode code 624 = .ok (.invokevirtual 61, 3) := by decide +kernel
theorem d_L_law_627 : decode code 627 = .ok (.aload_n 2, 1) := by decide +kernel
theorem d_L_law_628 : decode code 628 = .ok (.aload_n 0, 1) := by decide +kernel
theorem d_L_law_629 : decode code 629 = .ok (.iload_n 3, 1) := by decide +kernel
theorem d_L_law_630 : decode code 630 = .ok (.iconst 1, 1) := by decide +kernel
theorem d_L_law_631 : decode code 631 = .ok (.iadd, 1) := by decide +kernel
theorem d_L_law_632 : decode code 632 = .ok (.iaload, 1) := by decide +kernel
theorem d_L_law_633 : decode code 633 = .ok (.aload_n 0, 1) := by decide +kernel
theorem d_L_law_634 : decode code 634 = .ok (.iload_n 3, 1) := by decide +kernel
theorem d_L_law_635 : decode code 635 = .ok (.iconst 2, 1) := by decide +kernel
theorem d_L_law_636 : decode code 636 = .ok (.iadd, 1) := by decide +kernel
theorem d_L_law_637 : decode code 637 = .ok (.iaload, 1) := by decide +kernel
theorem d_L_law_638 : decode code 638 = .ok (.aload_n 0, 1) := by decide +kernel
theorem d_L_law_639 : decode code 639 = .ok (.iload_n 3, 1) := by decide +kernel
theorem d_L_law_640 : decode code 640 = .ok (.iconst 3, 1) := by decide +kernel
theorem d_L_law_641 : decode code 641 = .ok (.iadd, 1) := by decide +kernel
theorem d_L_law_642 : decode code 642 = .ok (.iaload, 1) := by decide +kernel
theorem d_L_law_643 : decode code 643 = .ok (.invokevirtual 65, 3) := by decide +kernel
theorem d_L_law_646 : decode code 646 = .ok (.if_icmp .eq 1728, 3) := by decide +kernel
theorem d_L_law_649 : decode code 649 = .ok (.iconst 0, 1) := by decide +kernel
theorem d_L_law_650 : decode code 650 = .ok (.ireturn, 1) := by decide +kernel
theorem d_L_law_651 : decode code 651 = .ok (.aload_n 1, 1) := by decide +kernel
theorem d_L_law_652 : decode code 652 = .ok (.aload_n 0, 1) := by decide +kernel
theorem d_L_law_653 : decode code 653 = .ok (.iload_n 3, 1) := by decide +kernel
theorem d_L_law_654 : decode code 654 = .ok (.iconst 1, 1) := by decide +kernel
theorem d_L_law_655 : decode code 655 = .ok (.iadd, 1) := by decide +kernel
theorem d_L_law_656 : decode code 656 = .ok (.iaload, 1) := by decide +kernel
theorem d_L_law_657 : decode code 657 = .ok (.aload_n 0, 1) := by decide +kernel
theorem d_L_law_658 : decode code 658 = .ok (.iload_n 3, 1) := by decide +kernel
theorem d_L_law_659 : decode code 659 = .ok (.iconst 2, 1) := by decide +kernel
theorem d_L_law_660 : decode code 660 = .ok (.iadd, 1) := by decide +kernel
theorem d_L_law_661 : decode code 661 = .ok (.iaload, 1) := by decide +kernel
theorem d_L_law_662 : decode code 662 = .ok (.aload_n 0, 1) := by decide +kernel
theorem d_L_law_663 : decode code 663 = .ok (.iload_n 3, 1) := by decide +kernel
theorem d_L_law_664 : decode code 664 = .ok (.iconst 3, 1) := by decide +kernel
theorem d_L_law_665 : decode code 665 = .ok (.iadd, 1) := by decide +kernel
theorem d_L_law_666 : decode code 666 = .ok (.iaload, 1) := by decide +kernel
theorem d_L_law_667 : decode code 667 = .ok (.invokevirtual 66, 3) := by decide +kernel
theorem d_L_law_670 : decode code 670 = .ok (.aload_n 2, 1) := by decide +kernel
theorem d_L_law_671 : decode code 671 = .ok (.aload_n 0, 1) := by decide +kernel
theorem d_L_law_672 : decode code 672 = .ok (.iload_n 3, 1) := by decide +kernel
theorem d_L_law_673 : decode code 673 = .ok (.iconst 1, 1) := by decide +kernel
theorem d_L_law_674 : decode code 674 = .ok (.iadd, 1) := by decide +kernel
theorem d_L_law_675 : decode code 675 = .ok (.iaload, 1) := by decide +kernel
theorem d_L_law_676 : decode code 676 = .ok (.aload_n 0, 1) := by decide +kernel
theorem d_L_law_677 : decode code 677 = .ok (.iload_n 3, 1) := by decide +kernel
theorem d_L_law_678 : decode code 678 = .ok (.iconst 2, 1) := by decide +kernel
theorem d_L_law_679 : decode code 679 = .ok (.iadd, 1) := by decide +kernel
theorem d_L_law_680 : decode code 680 = .ok (.iaload, 1) := by decide +kernel
theorem d_L_law_681 : decode code 681 = .ok (.aload_n 0, 1) := by decide +kernel
theorem d_L_law_682 : decode code 682 = .ok (.iload_n 3, 1) := by decide +kernel
theorem d_L_law_683 : decode code 683 = .ok (.iconst 3, 1) := by decide +kernel
theorem d_L_law_684 : decode code 684 = .ok (.iadd, 1) := by decide +kernel
theorem d_L_law_685 : decode code 685 = .ok (.iaload, 1) := by decide +kernel
theorem d_L_law_686 : decode code 686 = .ok (.invokevirtual 70, 3) := by decide +kernel
theorem d_L_law_689 : decode code 689 = .ok (.lcmp, 1) := by decide +kernel
theorem d_L_law_690 : decode code 690 = .ok (.ifCond .eq 1684, 3) := by decide +kernel
theorem d_L_law_693 : decode code 693 = .ok (.iconst 0, 1) := by decide +kernel
theorem d_L_law_694 : decode code 694 = .ok (.ireturn, 1) := by decide +kernel
theorem d_L_law_695 : decode code 695 = .ok (.aload_n 1, 1) := by decide +kernel
theorem d_L_law_696 : decode code 696 = .ok (.aload_n 0, 1) := by decide +kernel
theorem d_L_law_697 : decode code 697 = .ok (.iload_n 3, 1) := by decide +kernel
theorem d_L_law_698 : decode code 698 = .ok (.iconst 1, 1) := by decide +kernel
theorem d_L_law_699 : decode code 699 = .ok (.iadd, 1) := by decide +kernel
theorem d_L_law_700 : decode code 700 = .ok (.iaload, 1) := by decide +kernel
theorem d_L_law_701 : decode code 701 = .ok (.aload_n 0, 1) := by decide +kernel
theorem d_L_law_702 : decode code 702 = .ok (.iload_n 3, 1) := by decide +kernel
theorem d_L_law_703 : decode code 703 = .ok (.iconst 2, 1) := by decide +kernel
theorem d_L_law_704 : decode code 704 = .ok (.iadd, 1) := by decide +kernel
theorem d_L_law_705 : decode code 705 = .ok (.iaload, 1) := by decide +kernel
theorem d_L_law_706 : decode code 706 = .ok (.aload_n 0, 1) := by decide +kernel
theorem d_L_law_707 : decode code 707 = .ok (.iload_n 3, 1) := by decide +kernel
theorem d_L_law_708 : decode code 708 = .ok (.iconst 3, 1) := by decide +kernel
theorem d_L_law_709 : decode code 709 = .ok (.iadd, 1) := by decide +kernel
theorem d_L_law_710 : decode code 710 = .ok (.iaload, 1) := by decide +kernel
theorem d_L_law_711 : decode code 711 = .ok (.invokevirtual 71, 3) := by decide +kernel
theorem d_L_law_714 : decode code 714 = .ok (.aload_n 2, 1) := by decide +kernel
theorem d_L_law_715 : decode code 715 = .ok (.aload_n 0, 1) := by decide +kernel
theorem d_L_law_716 : decode code 716 = .ok (.iload_n 3, 1) := by decide +kernel
theorem d_L_law_717 : decode code 717 = .ok (.iconst 1, 1) := by decide +kernel
theorem d_L_law_718 : decode code 718 = .ok (.iadd, 1) := by decide +kernel
theorem d_L_law_719 : decode code 719 = .ok (.iaload, 1) := by decide +kernel
theorem d_L_law_720 : decode code 720 = .ok (.aload_n 0, 1) := by decide +kernel
theorem d_L_law_721 : decode code 721 = .ok (.iload_n 3, 1) := by decide +kernel
theorem d_L_law_722 : decode code 722 = .ok (.iconst 2, 1) := by decide +kernel
theorem d_L_law_723 : decode code 723 = .ok (.iadd, 1) := by decide +kernel
theorem d_L_law_724 : decode code 724 = .ok (.iaload, 1) := by decide +kernel
theorem d_L_law_725 : decode code 725 = .ok (.aload_n 0, 1) := by decide +kernel
theorem d_L_law_726 : decode code 726 = .ok (.iload_n 3, 1) := by decide +kernel
theorem d_L_law_727 : decode code 727 = .ok (.iconst 3, 1) := by decide +kernel
theorem d_L_law_728 : decode code 728 = .ok (.iadd, 1) := by decide +kernel
theorem d_L_law_729 : decode code 729 = .ok (.iaload, 1) := by decide +kernel
theorem d_L_law_730 : decode code 730 = .ok (.invokevirtual 74, 3) := by decide +kernel
theorem d_L_law_733 : decode code 733 = .ok (.if_icmp .eq 1641, 3) := by decide +kernel
theorem d_L_law_736 : decode code 736 = .ok (.iconst 0, 1) := by decide +kernel
theorem d_L_law_737 : decode code 737 = .ok (.ireturn, 1) := by decide +kernel
theorem d_L_law_738 : decode code 738 = .ok (.aload_n 1, 1) := by decide +kernel
theorem d_L_law_739 : decode code 739 = .ok (.aload_n 0, 1) := by decide +kernel
theorem d_L_law_740 : decode code 740 = .ok (.iload_n 3, 1) := by decide +kernel
theorem d_L_law_741 : decode code 741 = .ok (.iconst 1, 1) := by decide +kernel
theorem d_L_law_742 : decode code 742 = .ok (.iadd, 1) := by decide +kernel
theorem d_L_law_743 : decode code 743 = .ok (.iaload, 1) := by decide +kernel
theorem d_L_law_744 : decode code 744 = .ok (.aload_n 0, 1) := by decide +kernel
theorem d_L_law_745 : decode code 745 = .ok (.iload_n 3, 1) := by decide +kernel
theorem d_L_law_746 : decode code 746 = .ok (.iconst 2, 1) := by decide +kernel
theorem d_L_law_747 : decode code 747 = .ok (.iadd, 1) := by decide +kernel
theorem d_L_law_748 : decode code 748 = .ok (.iaload, 1) := by decide +kernel
theorem d_L_law_749 : decode code 749 = .ok (.invokevirtual 75, 3) := by decide +kernel
theorem d_L_law_752 : decode code 752 = .ok (.aload_n 2, 1) := by decide +kernel
theorem d_L_law_753 : decode code 753 = .ok (.aload_n 0, 1) := by decide +kernel
theorem d_L_law_754 : decode code 754 = .ok (.iload_n 3, 1) := by decide +kernel
theorem d_L_law_755 : decode code 755 = .ok (.iconst 1, 1) := by decide +kernel
theorem d_L_law_756 : decode code 756 = .ok (.iadd, 1) := by decide +kernel
theorem d_L_law_757 : decode code 757 = .ok (.iaload, 1) := by decide +kernel
theorem d_L_law_758 : decode code 758 = .ok (.aload_n 0, 1) := by decide +kernel
theorem d_L_law_759 : decode code 759 = .ok (.iload_n 3, 1) := by decide +kernel
theorem d_L_law_760 : decode code 760 = .ok (.iconst 2, 1) := by decide +kernel
theorem d_L_law_761 : decode code 761 = .ok (.iadd, 1) := by decide +kernel
theorem d_L_law_762 : decode code 762 = .ok (.iaload, 1) := by decide +kernel
theorem d_L_law_763 : decode code 763 = .ok (.invokevirtual 79, 3) := by decide +kernel
theorem d_L_law_766 : decode code 766 = .ok (.lcmp, 1) := by decide +kernel
theorem d_L_law_767 : decode code 767 = .ok (.ifCond .eq 1607, 3) := by decide +kernel
theorem d_L_law_770 : decode code 770 = .ok (.iconst 0, 1) := by decide +kernel
theorem d_L_law_771 : decode code 771 = .ok (.ireturn, 1) := by decide +kernel
theorem d_L_law_772 : decode code 772 = .ok (.aload_n 1, 1) := by decide +kernel
theorem d_L_law_773 : decode code 773 = .ok (.aload_n 0, 1) := by decide +kernel
theorem d_L_law_774 : decode code 774 = .ok (.iload_n 3, 1) := by decide +kernel
theorem d_L_law_775 : decode code 775 = .ok (.iconst 1, 1) := by decide +kernel
theorem d_L_law_776 : decode code 776 = .ok (.iadd, 1) := by decide +kernel
theorem d_L_law_777 : decode code 777 = .ok (.iaload, 1) := by decide +kernel
theorem d_L_law_778 : decode code 778 = .ok (.aload_n 0, 1) := by decide +kernel
theorem d_L_law_779 : decode code 779 = .ok (.iload_n 3, 1) := by decide +kernel
theorem d_L_law_780 : decode code 780 = .ok (.iconst 2, 1) := by decide +kernel
theorem d_L_law_781 : decode code 781 = .ok (.iadd, 1) := by decide +kernel
theorem d_L_law_782 : decode code 782 = .ok (.iaload, 1) := by decide +kernel
theorem d_L_law_783 : decode code 783 = .ok (.aload_n 0, 1) := by decide +kernel
theorem d_L_law_784 : decode code 784 = .ok (.iload_n 3, 1) := by decide +kernel
theorem d_L_law_785 : decode code 785 = .ok (.iconst 3, 1) := by decide +kernel
theorem d_L_law_786 : decode code 786 = .ok (.iadd, 1) := by decide +kernel
theorem d_L_law_787 : decode code 787 = .ok (.iaload, 1) := by decide +kernel
theorem d_L_law_788 : decode code 788 = .ok (.invokevirtual 80, 3) := by decide +kernel
theorem d_L_law_791 : decode code 791 = .ok (.aload_n 2, 1) := by decide +kernel
theorem d_L_law_792 : decode code 792 = .ok (.aload_n 0, 1) := by decide +kernel
theorem d_L_law_793 : decode code 793 = .ok (.iload_n 3, 1) := by decide +kernel
theorem d_L_law_794 : decode code 794 = .ok (.iconst 1, 1) := by decide +kernel
theorem d_L_law_795 : decode code 795 = .ok (.iadd, 1) := by decide +kernel
theorem d_L_law_796 : decode code 796 = .ok (.iaload, 1) := by decide +kernel
theorem d_L_law_797 : decode code 797 = .ok (.aload_n 0, 1) := by decide +kernel
theorem d_L_law_798 : decode code 798 = .ok (.iload_n 3, 1) := by decide +kernel
theorem d_L_law_799 : decode code 799 = .ok (.iconst 2, 1) := by decide +kernel
theorem d_L_law_800 : decode code 800 = .ok (.iadd, 1) := by decide +kernel
theorem d_L_law_801 : decode code 801 = .ok (.iaload, 1) := by decide +kernel
theorem d_L_law_802 : decode code 802 = .ok (.aload_n 0, 1) := by decide +kernel
theorem d_L_law_803 : decode code 803 = .ok (.iload_n 3, 1) := by decide +kernel
theorem d_L_law_804 : decode code 804 = .ok (.iconst 3, 1) := by decide +kernel
theorem d_L_law_805 : decode code 805 = .ok (.iadd, 1) := by decide +kernel
theorem d_L_law_806 : decode code 806 = .ok (.iaload, 1) := by decide +kernel
theorem d_L_law_807 : decode code 807 = .ok (.invokevirtual 84, 3) := by decide +kernel
theorem d_L_law_810 : decode code 810 = .ok (.if_icmp .eq 1564, 3) := by decide +kernel
theorem d_L_law_813 : decode code 813 = .ok (.iconst 0, 1) := by decide +kernel
theorem d_L_law_814 : decode code 814 = .ok (.ireturn, 1) := by decide +kernel
theorem d_L_law_815 : decode code 815 = .ok (.aload_n 1, 1) := by decide +kernel
theorem d_L_law_816 : decode code 816 = .ok (.aload_n 0, 1) := by decide +kernel
theorem d_L_law_817 : decode code 817 = .ok (.iload_n 3, 1) := by decide +kernel
theorem d_L_law_818 : decode code 818 = .ok (.iconst 1, 1) := by decide +kernel
theorem d_L_law_819 : decode code 819 = .ok (.iadd, 1) := by decide +kernel
theorem d_L_law_820 : decode code 820 = .ok (.iaload, 1) := by decide +kernel
theorem d_L_law_821 : decode code 821 = .ok (.aload_n 0, 1) := by decide +kernel
theorem d_L_law_822 : decode code 822 = .ok (.iload_n 3, 1) := by decide +kernel
theorem d_L_law_823 : decode code 823 = .ok (.iconst 2, 1) := by decide +kernel
theorem d_L_law_824 : decode code 824 = .ok (.iadd, 1) := by decide +kernel
theorem d_L_law_825 : decode code 825 = .ok (.iaload, 1) := by decide +kernel
theorem d_L_law_826 : decode code 826 = .ok (.invokevirtual 85, 3) := by decide +kernel
theorem d_L_law_829 : decode code 829 = .ok (.aload_n 2, 1) := by decide +kernel
theorem d_L_law_830 : decode code 830 = .ok (.aload_n 0, 1) := by decide +kernel
theorem d_L_law_831 : decode code 831 = .ok (.iload_n 3, 1) := by decide +kernel
theorem d_L_law_832 : decode code 832 = .ok (.iconst 1, 1) := by decide +kernel
theorem d_L_law_833 : decode code 833 = .ok (.iadd, 1) := by decide +kernel
theorem d_L_law_834 : decode code 834 = .ok (.iaload, 1) := by decide +kernel
theorem d_L_law_835 : decode code 835 = .ok (.aload_n 0, 1) := by decide +kernel
theorem d_L_law_836 : decode code 836 = .ok (.iload_n 3, 1) := by decide +kernel
theorem d_L_law_837 : decode code 837 = .ok (.iconst 2, 1) := by decide +kernel
theorem d_L_law_838 : decode code 838 = .ok (.iadd, 1) := by decide +kernel
theorem d_L_law_839 : decode code 839 = .ok (.iaload, 1) := by decide +kernel
theorem d_L_law_840 : decode code 840 = .ok (.invokevirtual 88, 3) := by decide +kernel
theorem d_L_law_843 : decode code 843 = .ok (.lcmp, 1) := by decide +kernel
theorem d_L_law_844 : decode code 844 = .ok (.ifCond .eq 1530, 3) := by decide +kernel
theorem d_L_law_847 : decode code 847 = .ok (.iconst 0, 1) := by decide +kernel
theorem d_L_law_848 : decode code 848 = .ok (.ireturn, 1) := by decide +kernel
theorem d_L_law_849 : decode code 849 = .ok (.aload_n 1, 1) := by decide +kernel
theorem d_L_law_850 : decode code 850 = .ok (.aload_n 0, 1) := by decide +kernel
theorem d_L_law_851 : decode code 851 = .ok (.iload_n 3, 1) := by decide +kernel
theorem d_L_law_852 : decode code 852 = .ok (.iconst 1, 1) := by decide +kernel
theorem d_L_law_853 : decode code 853 = .ok (.iadd, 1) := by decide +kernel
theorem d_L_law_854 : decode code 854 = .ok (.iaload, 1) := by decide +kernel
theorem d_L_law_855 : decode code 855 = .ok (.aload_n 0, 1) := by decide +kernel
theorem d_L_law_856 : decode code 856 = .ok (.iload_n 3, 1) := by decide +kernel
theorem d_L_law_857 : decode code 857 = .ok (.iconst 2, 1) := by decide +kernel
theorem d_L_law_858 : decode code 858 = .ok (.iadd, 1) := by decide +kernel
theorem d_L_law_859 : decode code 859 = .ok (.iaload, 1) := by decide +kernel
theorem d_L_law_860 : decode code 860 = .ok (.aload_n 0, 1) := by decide +kernel
theorem d_L_law_861 : decode code 861 = .ok (.iload_n 3, 1) := by decide +kernel
theorem d_L_law_862 : decode code 862 = .ok (.iconst 3, 1) := by decide +kernel
theorem d_L_law_863 : decode code 863 = .ok (.iadd, 1) := by decide +kernel
theorem d_L_law_864 : decode code 864 = .ok (.iaload, 1) := by decide +kernel
theorem d_L_law_865 : decode code 865 = .ok (.invokevirtual 89, 3) := by decide +kernel
theorem d_L_law_868 : decode code 868 = .ok (.aload_n 2, 1) := by decide +kernel
theorem d_L_law_869 : decode code 869 = .ok (.aload_n 0, 1) := by decide +kernel
theorem d_L_law_870 : decode code 870 = .ok (.iload_n 3, 1) := by decide +kernel
theorem d_L_law_871 : decode code 871 = .ok (.iconst 1, 1) := by decide +kernel
theorem d_L_law_872 : decode code 872 = .ok (.iadd, 1) := by decide +kernel
theorem d_L_law_873 : decode code 873 = .ok (.iaload, 1) := by decide +kernel
theorem d_L_law_874 : decode code 874 = .ok (.aload_n 0, 1) := by decide +kernel
theorem d_L_law_875 : decode code 875 = .ok (.iload_n 3, 1) := by decide +kernel
theorem d_L_law_876 : decode code 876 = .ok (.iconst 2, 1) := by decide +kernel
theorem d_L_law_877 : decode code 877 = .ok (.iadd, 1) := by decide +kernel
theorem d_L_law_878 : decode code 878 = .ok (.iaload, 1) := by decide +kernel
theorem d_L_law_879 : decode code 879 = .ok (.aload_n 0, 1) := by decide +kernel
theorem d_L_law_880 : decode code 880 = .ok (.iload_n 3, 1) := by decide +kernel
theorem d_L_law_881 : decode code 881 = .ok (.iconst 3, 1) := by decide +kernel
theorem d_L_law_882 : decode code 882 = .ok (.iadd, 1) := by decide +kernel
theorem d_L_law_883 : decode code 883 = .ok (.iaload, 1) := by decide +kernel
theorem d_L_law_884 : decode code 884 = .ok (.invokevirtual 92, 3) := by decide +kernel
theorem d_L_law_887 : decode code 887 = .ok (.if_icmp .eq 1487, 3) := by decide +kernel
theorem d_L_law_890 : decode code 890 = .ok (.iconst 0, 1) := by decide +kernel
theorem d_L_law_891 : decode code 891 = .ok (.ireturn, 1) := by decide +kernel
theorem d_L_law_892 : decode code 892 = .ok (.aload_n 1, 1) := by decide +kernel
theorem d_L_law_893 : decode code 893 = .ok (.aload_n 0, 1) := by decide +kernel
theorem d_L_law_894 : decode code 894 = .ok (.iload_n 3, 1) := by decide +kernel
theorem d_L_law_895 : decode code 895 = .ok (.iconst 1, 1) := by decide +kernel
theorem d_L_law_896 : decode code 896 = .ok (.iadd, 1) := by decide +kernel
theorem d_L_law_897 : decode code 897 = .ok (.iaload, 1) := by decide +kernel
theorem d_L_law_898 : decode code 898 = .ok (.aload_n 0, 1) := by decide +kernel
theorem d_L_law_899 : decode code 899 = .ok (.iload_n 3, 1) := by decide +kernel
theorem d_L_law_900 : decode code 900 = .ok (.iconst 2, 1) := by decide +kernel
theorem d_L_law_901 : decode code 901 = .ok (.iadd, 1) := by decide +kernel
theorem d_L_law_902 : decode code 902 = .ok (.iaload, 1) := by decide +kernel
theorem d_L_law_903 : decode code 903 = .ok (.aload_n 0, 1) := by decide +kernel
theorem d_L_law_904 : decode code 904 = .ok (.iload_n 3, 1) := by decide +kernel
theorem d_L_law_905 : decode code 905 = .ok (.iconst 3, 1) := by decide +kernel
theorem d_L_law_906 : decode code 906 = .ok (.iadd, 1) := by decide +kernel
theorem d_L_law_907 : decode code 907 = .ok (.iaload, 1) := by decide +kernel
theorem d_L_law_908 : decode code 908 = .ok (.ifCond .eq 7, 3) := by decide +kernel
theorem d_L_law_911 : decode code 911 = .ok (.iconst 1, 1) := by decide +kernel
theorem d_L_law_912 : decode code 912 = .ok (.goto 4, 3) := by decide +kernel
theorem d_L_law_915 : decode code 915 = .ok (.iconst 0, 1) := by decide +kernel
theorem d_L_law_916 : decode code 916 = .ok (.invokevirtual 93, 3) := by decide +kernel
theorem d_L_law_919 : decode code 919 = .ok (.aload_n 2, 1) := by decide +kernel
theorem d_L_law_920 : decode code 920 = .ok (.aload_n 0, 1) := by decide +kernel
theorem d_L_law_921 : decode code 921 = .ok (.iload_n 3, 1) := by decide +kernel
theorem d_L_law_922 : decode code 922 = .ok (.iconst 1, 1) := by decide +kernel
theorem d_L_law_923 : decode code 923 = .ok (.iadd, 1) := by decide +kernel
theorem d_L_law_924 : decode code 924 = .ok (.iaload, 1) := by decide +kernel
theorem d_L_law_925 : decode code 925 = .ok (.aload_n 0, 1) := by decide +kernel
theorem d_L_law_926 : decode code 926 = .ok (.iload_n 3, 1) := by decide +kernel
theorem d_L_law_927 : decode code 927 = .ok (.iconst 2, 1) := by decide +kernel
theorem d_L_law_928 : decode code 928 = .ok (.iadd, 1) := by decide +kernel
theorem d_L_law_929 : decode code 929 = .ok (.iaload, 1) := by decide +kernel
theorem d_L_law_930 : decode code 930 = .ok (.aload_n 0, 1) := by decide +kernel
theorem d_L_law_931 : decode code 931 = .ok (.iload_n 3, 1) := by decide +kernel
theorem d_L_law_932 : decode code 932 = .ok (.iconst 3, 1) := by decide +kernel
theorem d_L_law_933 : decode code 933 = .ok (.iadd, 1) := by decide +kernel
theorem d_L_law_934 : decode code 934 = .ok (.iaload, 1) := by decide +kernel
theorem d_L_law_935 : decode code 935 = .ok (.ifCond .eq 7, 3) := by decide +kernel
theorem d_L_law_938 : decode code 938 = .ok (.iconst 1, 1) := by decide +kernel
theorem d_L_law_939 : decode code 939 = .ok (.goto 4, 3) := by decide +kernel
theorem d_L_law_942 : decode code 942 = .ok (.iconst 0, 1) := by decide +kernel
theorem d_L_law_943 : decode code 943 = .ok (.invokevirtual 97, 3) := by decide +kernel
theorem d_L_law_946 : decode code 946 = .ok (.if_icmp .eq 1428, 3) := by decide +kernel
theorem d_L_law_949 : decode code 949 = .ok (.iconst 0, 1) := by decide +kernel
theorem d_L_law_950 : decode code 950 = .ok (.ireturn, 1) := by decide +kernel
theorem d_L_law_951 : decode code 951 = .ok (.aload_n 1, 1) := by decide +kernel
theorem d_L_law_952 : decode code 952 = .ok (.aload_n 0, 1) := by decide +kernel
theorem d_L_law_953 : decode code 953 = .ok (.iload_n 3, 1) := by decide +kernel
theorem d_L_law_954 : decode code 954 = .ok (.iconst 1, 1) := by decide +kernel
theorem d_L_law_955 : decode code 955 = .ok (.iadd, 1) := by decide +kernel
theorem d_L_law_956 : decode code 956 = .ok (.iaload, 1) := by decide +kernel
theorem d_L_law_957 : decode code 957 = .ok (.aload_n 0, 1) := by decide +kernel
theorem d_L_law_958 : decode code 958 = .ok (.iload_n 3, 1) := by decide +kernel
theorem d_L_law_959 : decode code 959 = .ok (.iconst 2, 1) := by decide +kernel
theorem d_L_law_960 : decode code 960 = .ok (.iadd, 1) := by decide +kernel
theorem d_L_law_961 : decode code 961 = .ok (.iaload, 1) := by decide +kernel
theorem d_L_law_962 : decode code 962 = .ok (.aload_n 0, 1) := by decide +kernel
theorem d_L_law_963 : decode code 963 = .ok (.iload_n 3, 1) := by decide +kernel
theorem d_L_law_964 : decode code 964 = .ok (.iconst 3, 1) := by decide +kernel
theorem d_L_law_965 : decode code 965 = .ok (.iadd, 1) := by decide +kernel
theorem d_L_law_966 : decode code 966 = .ok (.iaload, 1) := by decide +kernel
theorem d_L_law_967 : decode code 967 = .ok (.invokevirtual 98, 3) := by decide +kernel
theorem d_L_law_970 : decode code 970 = .ok (.aload_n 2, 1) := by decide +kernel
theorem d_L_law_971 : decode code 971 = .ok (.aload_n 0, 1) := by decide +kernel
theorem d_L_law_972 : decode code 972 = .ok (.iload_n 3, 1) := by decide +kernel
theorem d_L_law_973 : decode code 973 = .ok (.iconst 1, 1) := by decide +kernel
theorem d_L_law_974 : decode code 974 = .ok (.iadd, 1) := by decide +kernel
theorem d_L_law_975 : decode code 975 = .ok (.iaload, 1) := by decide +kernel
theorem d_L_law_976 : decode code 976 = .ok (.aload_n 0, 1) := by decide +kernel
theorem d_L_law_977 : decode code 977 = .ok (.iload_n 3, 1) := by decide +kernel
theorem d_L_law_978 : decode code 978 = .ok (.iconst 2, 1) := by decide +kernel
theorem d_L_law_979 : decode code 979 = .ok (.iadd, 1) := by decide +kernel
theorem d_L_law_980 : decode code 980 = .ok (.iaload, 1) := by decide +kernel
theorem d_L_law_981 : decode code 981 = .ok (.aload_n 0, 1) := by decide +kernel
theorem d_L_law_982 : decode code 982 = .ok (.iload_n 3, 1) := by decide +kernel
theorem d_L_law_983 : decode code 983 = .ok (.iconst 3, 1) := by decide +kernel
theorem d_L_law_984 : decode code 984 = .ok (.iadd, 1) := by decide +kernel
theorem d_L_law_985 : decode code 985 = .ok (.iaload, 1) := by decide +kernel
theorem d_L_law_986 : decode code 986 = .ok (.invokevirtual 101, 3) := by decide +kernel
theorem d_L_law_989 : decode code 989 = .ok (.if_icmp .eq 1385, 3) := by decide +kernel
theorem d_L_law_992 : decode code 992 = .ok (.iconst 0, 1) := by decide +kernel
theorem d_L_law_993 : decode code 993 = .ok (.ireturn, 1) := by decide +kernel
theorem d_L_law_994 : decode code 994 = .ok (.aload_n 1, 1) := by decide +kernel
theorem d_L_law_995 : decode code 995 = .ok (.aload_n 0, 1) := by decide +kernel
theorem d_L_law_996 : decode code 996 = .ok (.iload_n 3, 1) := by decide +kernel
theorem d_L_law_997 : decode code 997 = .ok (.iconst 1, 1) := by decide +kernel
theorem d_L_law_998 : decode code 998 = .ok (.iadd, 1) := by decide +kernel
theorem d_L_law_999 : decode code 999 = .ok (.iaload, 1) := by decide +kernel
theorem d_L_law_1000 : decode code 1000 = .ok (.aload_n 0, 1) := by decide +kernel
theorem d_L_law_1001 : decode code 1001 = .ok (.iload_n 3, 1) := by decide +kernel
theorem d_L_law_1002 : decode code 1002 = .ok (.iconst 2, 1) := by decide +kernel
theorem d_L_law_1003 : decode code 1003 = .ok (.iadd, 1) := by decide +kernel
theorem d_L_law_1004 : decode code 1004 = .ok (.iaload, 1) := by decide +kernel
theorem d_L_law_1005 : decode code 1005 = .ok (.invokevirtual 102, 3) := by decide +kernel
theorem d_L_law_1008 : decode code 1008 = .ok (.aload_n 2, 1) := by decide +kernel
theorem d_L_law_1009 : decode code 1009 = .ok (.aload_n 0, 1) := by decide +kernel
theorem d_L_law_1010 : decode code 1010 = .ok (.iload_n 3, 1) := by decide +kernel
theorem d_L_law_1011 : decode code 1011 = .ok (.iconst 1, 1) := by decide +kernel
theorem d_L_law_1012 : decode code 1012 = .ok (.iadd, 1) := by decide +kernel
theorem d_L_law_1013 : decode code 1013 = .ok (.iaload, 1) := by decide +kernel
theorem d_L_law_1014 : decode code 1014 = .ok (.aload_n 0, 1) := by decide +kernel
theorem d_L_law_1015 : decode code 1015 = .ok (.iload_n 3, 1) := by decide +kernel
theorem d_L_law_1016 : decode code 1016 = .ok (.iconst 2, 1) := by decide +kernel
theorem d_L_law_1017 : decode code 1017 = .ok (.iadd, 1) := by decide +kernel
theorem d_L_law_1018 : decode code 1018 = .ok (.iaload, 1) := by decide +kernel
theorem d_L_law_1019 : decode code 1019 = .ok (.invokevirtual 105, 3) := by decide +kernel
theorem d_L_law_1022 : decode code 1022 = .ok (.if_icmp .eq 1352, 3) := by decide +kernel
theorem d_L_law_1025 : decode code 1025 = .ok (.iconst 0, 1) := by decide +kernel
theorem d_L_law_1026 : decode code 1026 = .ok (.ireturn, 1) := by decide +kernel
theorem d_L_law_1027 : decode code 1027 = .ok (.aload_n 1, 1) := by decide +kernel
theorem d_L_law_1028 : decode code 1028 = .ok (.aload_n 0, 1) := by decide +kernel
theorem d_L_law_1029 : decode code 1029 = .ok (.iload_n 3, 1) := by decide +kernel
theorem d_L_law_1030 : decode code 1030 = .ok (.iconst 1, 1) := by decide +kernel
theorem d_L_law_1031 : decode code 1031 = .ok (.iadd, 1) := by decide +kernel
theorem d_L_law_1032 : decode code 1032 = .ok (.iaload, 1) := by decide +kernel
theorem d_L_law_1033 : decode code 1033 = .ok (.aload_n 0, 1) := by decide +kernel
theorem d_L_law_1034 : decode code 1034 = .ok (.iload_n 3, 1) := by decide +kernel
theorem d_L_law_1035 : decode code 1035 = .ok (.iconst 2, 1) := by decide +kernel
theorem d_L_law_1036 : decode code 1036 = .ok (.iadd, 1) := by decide +kernel
theorem d_L_law_1037 : decode code 1037 = .ok (.iaload, 1) := by decide +kernel
theorem d_L_law_1038 : decode code 1038 = .ok (.invokevirtual 106, 3) := by decide +kernel
theorem d_L_law_1041 : decode code 1041 = .ok (.aload_n 2, 1) := by decide +kernel
theorem d_L_law_1042 : decode code 1042 = .ok (.aload_n 0, 1) := by decide +kernel
theorem d_L_law_1043 : decode code 1043 = .ok (.iload_n 3, 1) := by decide +kernel
theorem d_L_law_1044 : decode code 1044 = .ok (.iconst 1, 1) := by decide +kernel
theorem d_L_law_1045 : decode code 1045 = .ok (.iadd, 1) := by decide +kernel
theorem d_L_law_1046 : decode code 1046 = .ok (.iaload, 1) := by decide +kernel
theorem d_L_law_1047 : decode code 1047 = .ok (.aload_n 0, 1) := by decide +kernel
theorem d_L_law_1048 : decode code 1048 = .ok (.iload_n 3, 1) := by decide +kernel
theorem d_L_law_1049 : decode code 1049 = .ok (.iconst 2, 1) := by decide +kernel
theorem d_L_law_1050 : decode code 1050 = .ok (.iadd, 1) := by decide +kernel
theorem d_L_law_1051 : decode code 1051 = .ok (.iaload, 1) := by decide +kernel
theorem d_L_law_1052 : decode code 1052 = .ok (.invokevirtual 109, 3) := by decide +kernel
theorem d_L_law_1055 : decode code 1055 = .ok (.lcmp, 1) := by decide +kernel
theorem d_L_law_1056 : decode code 1056 = .ok (.ifCond .eq 1318, 3) := by decide +kernel
theorem d_L_law_1059 : decode code 1059 = .ok (.iconst 0, 1) := by decide +kernel
theorem d_L_law_1060 : decode code 1060 = .ok (.ireturn, 1) := by decide +kernel
theorem d_L_law_1061 : decode code 1061 = .ok (.aload_n 1, 1) := by decide +kernel
theorem d_L_law_1062 : decode code 1062 = .ok (.aload_n 0, 1) := by decide +kernel
theorem d_L_law_1063 : decode code 1063 = .ok (.iload_n 3, 1) := by decide +kernel
theorem d_L_law_1064 : decode code 1064 = .ok (.iconst 1, 1) := by decide +kernel
theorem d_L_law_1065 : decode code 1065 = .ok (.iadd, 1) := by decide +kernel
theorem d_L_law_1066 : decode code 1066 = .ok (.iaload, 1) := by decide +kernel
theorem d_L_law_1067 : decode code 1067 = .ok (.aload_n 0, 1) := by decide +kernel
theorem d_L_law_1068 : decode code 1068 = .ok (.iload_n 3, 1) := by decide +kernel
theorem d_L_law_1069 : decode code 1069 = .ok (.iconst 2, 1) := by decide +kernel
theorem d_L_law_1070 : decode code 1070 = .ok (.iadd, 1) := by decide +kernel
theorem d_L_law_1071 : decode code 1071 = .ok (.iaload, 1) := by decide +kernel
theorem d_L_law_1072 : decode code 1072 = .ok (.invokevirtual 110, 3) := by decide +kernel
theorem d_L_law_1075 : decode code 1075 = .ok (.aload_n 2, 1) := by decide +kernel
theorem d_L_law_1076 : decode code 1076 = .ok (.aload_n 0, 1) := by decide +kernel
theorem d_L_law_1077 : decode code 1077 = .ok (.iload_n 3, 1) := by decide +kernel
theorem d_L_law_1078 : decode code 1078 = .ok (.iconst 1, 1) := by decide +kernel
theorem d_L_law_1079 : decode code 1079 = .ok (.iadd, 1) := by decide +kernel
theorem d_L_law_1080 : decode code 1080 = .ok (.iaload, 1) := by decide +kernel
theorem d_L_law_1081 : decode code 1081 = .ok (.aload_n 0, 1) := by decide +kernel
theorem d_L_law_1082 : decode code 1082 = .ok (.iload_n 3, 1) := by decide +kernel
theorem d_L_law_1083 : decode code 1083 = .ok (.iconst 2, 1) := by decide +kernel
theorem d_L_law_1084 : decode code 1084 = .ok (.iadd, 1) := by decide +kernel
theorem d_L_law_1085 : decode code 1085 = .ok (.iaload, 1) := by decide +kernel
theorem d_L_law_1086 : decode code 1086 = .ok (.invokevirtual 113, 3) := by decide +kernel
theorem d_L_law_1089 : decode code 1089 = .ok (.lcmp, 1) := by decide +kernel
theorem d_L_law_1090 : decode code 1090 = .ok (.ifCond .eq 1284, 3) := by decide +kernel
theorem d_L_law_1093 : decode code 1093 = .ok (.iconst 0, 1) := by decide +kernel
theorem d_L_law_1094 : decode code 1094 = .ok (.ireturn, 1) := by decide +kernel
theorem d_L_law_1095 : decode code 1095 = .ok (.aload_n 1, 1) := by decide +kernel
theorem d_L_law_1096 : decode code 1096 = .ok (.aload_n 0, 1) := by decide +kernel
theorem d_L_law_1097 : decode code 1097 = .ok (.iload_n 3, 1) := by decide +kernel
theorem d_L_law_1098 : decode code 1098 = .ok (.iconst 1, 1) := by decide +kernel
theorem d_L_law_1099 : decode code 1099 = .ok (.iadd, 1) := by decide +kernel
theorem d_L_law_1100 : decode code 1100 = .ok (.iaload, 1) := by decide +kernel
theorem d_L_law_1101 : decode code 1101 = .ok (.invokevirtual 114, 3) := by decide +kernel
theorem d_L_law_1104 : decode code 1104 = .ok (.aload_n 2, 1) := by decide +kernel
theorem d_L_law_1105 : decode code 1105 = .ok (.aload_n 0, 1) := by decide +kernel
theorem d_L_law_1106 : decode code 1106 = .ok (.iload_n 3, 1) := by decide +kernel
theorem d_L_law_1107 : decode code 1107 = .ok (.iconst 1, 1) := by decide +kernel
theorem d_L_law_1108 : decode code 1108 = .ok (.iadd, 1) := by decide +kernel
theorem d_L_law_1109 : decode code 1109 = .ok (.iaload, 1) := by decide +kernel
theorem d_L_law_1110 : decode code 1110 = .ok (.invokevirtual 117, 3) := by decide +kernel
theorem d_L_law_1113 : decode code 1113 = .ok (.if_icmp .eq 1261, 3) := by decide +kernel
theorem d_L_law_1116 : decode code 1116 = .ok (.iconst 0, 1) := by decide +kernel
theorem d_L_law_1117 : decode code 1117 = .ok (.ireturn, 1) := by decide +kernel
theorem d_L_law_1118 : decode code 1118 = .ok (.aload_n 1, 1) := by decide +kernel
theorem d_L_law_1119 : decode code 1119 = .ok (.aload_n 0, 1) := by decide +kernel
theorem d_L_law_1120 : decode code 1120 = .ok (.iload_n 3, 1) := by decide +kernel
theorem d_L_law_1121 : decode code 1121 = .ok (.iconst 1, 1) := by decide +kernel
theorem d_L_law_1122 : decode code 1122 = .ok (.iadd, 1) := by decide +kernel
theorem d_L_law_1123 : decode code 1123 = .ok (.iaload, 1) := by decide +kernel
theorem d_L_law_1124 : decode code 1124 = .ok (.invokevirtual 118, 3) := by decide +kernel
theorem d_L_law_1127 : decode code 1127 = .ok (.aload_n 2, 1) := by decide +kernel
theorem d_L_law_1128 : decode code 1128 = .ok (.aload_n 0, 1) := by decide +kernel
theorem d_L_law_1129 : decode code 1129 = .ok (.iload_n 3, 1) := by decide +kernel
theorem d_L_law_1130 : decode code 1130 = .ok (.iconst 1, 1) := by decide +kernel
theorem d_L_law_1131 : decode code 1131 = .ok (.iadd, 1) := by decide +kernel
theorem d_L_law_1132 : decode code 1132 = .ok (.iaload, 1) := by decide +kernel
theorem d_L_law_1133 : decode code 1133 = .ok (.invokevirtual 121, 3) := by decide +kernel
theorem d_L_law_1136 : decode code 1136 = .ok (.if_icmp .eq 1238, 3) := by decide +kernel
theorem d_L_law_1139 : decode code 1139 = .ok (.iconst 0, 1) := by decide +kernel
theorem d_L_law_1140 : decode code 1140 = .ok (.ireturn, 1) := by decide +kernel
theorem d_L_law_1141 : decode code 1141 = .ok (.aload_n 1, 1) := by decide +kernel
theorem d_L_law_1142 : decode code 1142 = .ok (.aload_n 0, 1) := by decide +kernel
theorem d_L_law_1143 : decode code 1143 = .ok (.iload_n 3, 1) := by decide +kernel
theorem d_L_law_1144 : decode code 1144 = .ok (.iconst 1, 1) := by decide +kernel
theorem d_L_law_1145 : decode code 1145 = .ok (.iadd, 1) := by decide +kernel
theorem d_L_law_1146 : decode code 1146 = .ok (.iaload, 1) := by decide +kernel
theorem d_L_law_1147 : decode code 1147 = .ok (.aload_n 0, 1) := by decide +kernel
theorem d_L_law_1148 : decode code 1148 = .ok (.iload_n 3, 1) := by decide +kernel
theorem d_L_law_1149 : decode code 1149 = .ok (.iconst 2, 1) := by decide +kernel
theorem d_L_law_1150 : decode code 1150 = .ok (.iadd, 1) := by decide +kernel
theorem d_L_law_1151 : decode code 1151 = .ok (.iaload, 1) := by decide +kernel
theorem d_L_law_1152 : decode code 1152 = .ok (.aload_n 0, 1) := by decide +kernel
theorem d_L_law_1153 : decode code 1153 = .ok (.iload_n 3, 1) := by decide +kernel
theorem d_L_law_1154 : decode code 1154 = .ok (.iconst 3, 1) := by decide +kernel
theorem d_L_law_1155 : decode code 1155 = .ok (.iadd, 1) := by decide +kernel
theorem d_L_law_1156 : decode code 1156 = .ok (.iaload, 1) := by decide +kernel
theorem d_L_law_1157 : decode code 1157 = .ok (.invokevirtual 122, 3) := by decide +kernel
theorem d_L_law_1160 : decode code 1160 = .ok (.aload_n 2, 1) := by decide +kernel
theorem d_L_law_1161 : decode code 1161 = .ok (.aload_n 0, 1) := by decide +kernel
theorem d_L_law_1162 : decode code 1162 = .ok (.iload_n 3, 1) := by decide +kernel
theorem d_L_law_1163 : decode code 1163 = .ok (.iconst 1, 1) := by decide +kernel
theorem d_L_law_1164 : decode code 1164 = .ok (.iadd, 1) := by decide +kernel
theorem d_L_law_1165 : decode code 1165 = .ok (.iaload, 1) := by decide +kernel
theorem d_L_law_1166 : decode code 1166 = .ok (.aload_n 0, 1) := by decide +kernel
theorem d_L_law_1167 : decode code 1167 = .ok (.iload_n 3, 1) := by decide +kernel
theorem d_L_law_1168 : decode code 1168 = .ok (.iconst 2, 1) := by decide +kernel
theorem d_L_law_1169 : decode code 1169 = .ok (.iadd, 1) := by decide +kernel
theorem d_L_law_1170 : decode code 1170 = .ok (.iaload, 1) := by decide +kernel
theorem d_L_law_1171 : decode code 1171 = .ok (.aload_n 0, 1) := by decide +kernel
theorem d_L_law_1172 : decode code 1172 = .ok (.iload_n 3, 1) := by decide +kernel
theorem d_L_law_1173 : decode code 1173 = .ok (.iconst 3, 1) := by decide +kernel
theorem d_L_law_1174 : decode code 1174 = .ok (.iadd, 1) := by decide +kernel
theorem d_L_law_1175 : decode code 1175 = .ok (.iaload, 1) := by decide +kernel
theorem d_L_law_1176 : decode code 1176 = .ok (.invokevirtual 125, 3) := by decide +kernel
theorem d_L_law_1179 : decode code 1179 = .ok (.if_icmp .eq 1195, 3) := by decide +kernel
theorem d_L_law_1182 : decode code 1182 = .ok (.iconst 0, 1) := by decide +kernel
theorem d_L_law_1183 : decode code 1183 = .ok (.ireturn, 1) := by decide +kernel
theorem d_L_law_1184 : decode code 1184 = .ok (.aload_n 1, 1) := by decide +kernel
theorem d_L_law_1185 : decode code 1185 = .ok (.aload_n 0, 1) := by decide +kernel
theorem d_L_law_1186 : decode code 1186 = .ok (.iload_n 3, 1) := by decide +kernel
theorem d_L_law_1187 : decode code 1187 = .ok (.iconst 1, 1) := by decide +kernel
theorem d_L_law_1188 : decode code 1188 = .ok (.iadd, 1) := by decide +kernel
theorem d_L_law_1189 : decode code 1189 = .ok (.iaload, 1) := by decide +kernel
theorem d_L_law_1190 : decode code 1190 = .ok (.invokevirtual 126, 3) := by decide +kernel
theorem d_L_law_1193 : decode code 1193 = .ok (.aload_n 2, 1) := by decide +kernel
theorem d_L_law_1194 : decode code 1194 = .ok (.aload_n 0, 1) := by decide +kernel
theorem d_L_law_1195 : decode code 1195 = .ok (.iload_n 3, 1) := by decide +kernel
theorem d_L_law_1196 : decode code 1196 = .ok (.iconst 1, 1) := by decide +kernel
theorem d_L_law_1197 : decode code 1197 = .ok (.iadd, 1) := by decide +kernel
theorem d_L_law_1198 : decode code 1198 = .ok (.iaload, 1) := by decide +kernel
theorem d_L_law_1199 : decode code 1199 = .ok (.invokevirtual 129, 3) := by decide +kernel
theorem d_L_law_1202 : decode code 1202 = .ok (.if_icmp .eq 1172, 3) := by decide +kernel
theorem d_L_law_1205 : decode code 1205 = .ok (.iconst 0, 1) := by decide +kernel
theorem d_L_law_1206 : decode code 1206 = .ok (.ireturn, 1) := by decide +kernel
theorem d_L_law_1207 : decode code 1207 = .ok (.aload_n 1, 1) := by decide +kernel
theorem d_L_law_1208 : decode code 1208 = .ok (.aload_n 0, 1) := by decide +kernel
theorem d_L_law_1209 : decode code 1209 = .ok (.iload_n 3, 1) := by decide +kernel
theorem d_L_law_1210 : decode code 1210 = .ok (.iconst 1, 1) := by decide +kernel
theorem d_L_law_1211 : decode code 1211 = .ok (.iadd, 1) := by decide +kernel
theorem d_L_law_1212 : decode code 1212 = .ok (.iaload, 1) := by decide +kernel
theorem d_L_law_1213 : decode code 1213 = .ok (.invokevirtual 130, 3) := by decide +kernel
theorem d_L_law_1216 : decode code 1216 = .ok (.aload_n 2, 1) := by decide +kernel
theorem d_L_law_1217 : decode code 1217 = .ok (.aload_n 0, 1) := by decide +kernel
theorem d_L_law_1218 : decode code 1218 = .ok (.iload_n 3, 1) := by decide +kernel
theorem d_L_law_1219 : decode code 1219 = .ok (.iconst 1, 1) := by decide +kernel
theorem d_L_law_1220 : decode code 1220 = .ok (.iadd, 1) := by decide +kernel
theorem d_L_law_1221 : decode code 1221 = .ok (.iaload, 1) := by decide +kernel
theorem d_L_law_1222 : decode code 1222 = .ok (.invokevirtual 133, 3) := by decide +kernel
theorem d_L_law_1225 : decode code 1225 = .ok (.if_icmp .eq 1149, 3) := by decide +kernel
theorem d_L_law_1228 : decode code 1228 = .ok (.iconst 0, 1) := by decide +kernel
theorem d_L_law_1229 : decode code 1229 = .ok (.ireturn, 1) := by decide +kernel
theorem d_L_law_1230 : decode code 1230 = .ok (.aload_n 1, 1) := by decide +kernel
theorem d_L_law_1231 : decode code 1231 = .ok (.aload_n 0, 1) := by decide +kernel
theorem d_L_law_1232 : decode code 1232 = .ok (.iload_n 3, 1) := by decide +kernel
theorem d_L_law_1233 : decode code 1233 = .ok (.iconst 1, 1) := by decide +kernel
theorem d_L_law_1234 : decode code 1234 = .ok (.iadd, 1) := by decide +kernel
theorem d_L_law_1235 : decode code 1235 = .ok (.iaload, 1) := by decide +kernel
theorem d_L_law_1236 : decode code 1236 = .ok (.aload_n 0, 1) := by decide +kernel
theorem d_L_law_1237 : decode code 1237 = .ok (.iload_n 3, 1) := by decide +kernel
theorem d_L_law_1238 : decode code 1238 = .ok (.iconst 2, 1) := by decide +kernel
theorem d_L_law_1239 : decode code 1239 = .ok (.iadd, 1) := by decide +kernel
theorem d_L_law_1240 : decode code 1240 = .ok (.iaload, 1) := by decide +kernel
theorem d_L_law_1241 : decode code 1241 = .ok (.invokevirtual 134, 3) := by decide +kernel
theorem d_L_law_1244 : decode code 1244 = .ok (.aload_n 2, 1) := by decide +kernel
theorem d_L_law_1245 : decode code 1245 = .ok (.aload_n 0, 1) := by decide +kernel
theorem d_L_law_1246 : decode code 1246 = .ok (.iload_n 3, 1) := by decide +kernel
theorem d_L_law_1247 : decode code 1247 = .ok (.iconst 1, 1) := by decide +kernel
theorem d_L_law_1248 : decode code 1248 = .ok (.iadd, 1) := by decide +kernel
theorem d_L_law_1249 : decode code 1249 = .ok (.iaload, 1) := by decide +kernel
theorem d_L_law_1250 : decode code 1250 = .ok (.aload_n 0, 1) := by decide +kernel
theorem d_L_law_1251 : decode code 1251 = .ok (.iload_n 3, 1) := by decide +kernel
theorem d_L_law_1252 : decode code 1252 = .ok (.iconst 2, 1) := by decide +kernel
theorem d_L_law_1253 : decode code 1253 = .ok (.iadd, 1) := by decide +kernel
theorem d_L_law_1254 : decode code 1254 = .ok (.iaload, 1) := by decide +kernel
theorem d_L_law_1255 : decode code 1255 = .ok (.invokevirtual 137, 3) := by decide +kernel
theorem d_L_law_1258 : decode code 1258 = .ok (.lcmp, 1) := by decide +kernel
theorem d_L_law_1259 : decode code 1259 = .ok (.ifCond .eq 1115, 3) := by decide +kernel
theorem d_L_law_1262 : decode code 1262 = .ok (.iconst 0, 1) := by decide +kernel
theorem d_L_law_1263 : decode code 1263 = .ok (.ireturn, 1) := by decide +kernel
theorem d_L_law_1264 : decode code 1264 = .ok (.aload_n 1, 1) := by decide +kernel
theorem d_L_law_1265 : decode code 1265 = .ok (.aload_n 0, 1) := by decide +kernel
theorem d_L_law_1266 : decode code 1266 = .ok (.iload_n 3, 1) := by decide +kernel
theorem d_L_law_1267 : decode code 1267 = .ok (.iconst 1, 1) := by decide +kernel
theorem d_L_law_1268 : decode code 1268 = .ok (.iadd, 1) := by decide +kernel
theorem d_L_law_1269 : decode code 1269 = .ok (.iaload, 1) := by decide +kernel
theorem d_L_law_1270 : decode code 1270 = .ok (.invokevirtual 138, 3) := by decide +kernel
theorem d_L_law_1273 : decode code 1273 = .ok (.aload_n 2, 1) := by decide +kernel
theorem d_L_law_1274 : decode code 1274 = .ok (.aload_n 0, 1) := by decide +kernel
theorem d_L_law_1275 : decode code 1275 = .ok (.iload_n 3, 1) := by decide +kernel
theorem d_L_law_1276 : decode code 1276 = .ok (.iconst 1, 1) := by decide +kernel
theorem d_L_law_1277 : decode code 1277 = .ok (.iadd, 1) := by decide +kernel
theorem d_L_law_1278 : decode code 1278 = .ok (.iaload, 1) := by decide +kernel
theorem d_L_law_1279 : decode code 1279 = .ok (.invokevirtual 141, 3) := by decide +kernel
theorem d_L_law_1282 : decode code 1282 = .ok (.if_icmp .eq 1092, 3) := by decide +kernel
theorem d_L_law_1285 : decode code 1285 = .ok (.iconst 0, 1) := by decide +kernel
theorem d_L_law_1286 : decode code 1286 = .ok (.ireturn, 1) := by decide +kernel
theorem d_L_law_1287 : decode code 1287 = .ok (.aload_n 1, 1) := by decide +kernel
theorem d_L_law_1288 : decode code 1288 = .ok (.aload_n 0, 1) := by decide +kernel
theorem d_L_law_1289 : decode code 1289 = .ok (.iload_n 3, 1) := by decide +kernel
theorem d_L_law_1290 : decode code 1290 = .ok (.iconst 1, 1) := by decide +kernel
theorem d_L_law_1291 : decode code 1291 = .ok (.iadd, 1) := by decide +kernel
theorem d_L_law_1292 : decode code 1292 = .ok (.iaload, 1) := by decide +kernel
theorem d_L_law_1293 : decode code 1293 = .ok (.aload_n 0, 1) := by decide +kernel
theorem d_L_law_1294 : decode code 1294 = .ok (.iload_n 3, 1) := by decide +kernel
theorem d_L_law_1295 : decode code 1295 = .ok (.iconst 2, 1) := by decide +kernel
theorem d_L_law_1296 : decode code 1296 = .ok (.iadd, 1) := by decide +kernel
theorem d_L_law_1297 : decode code 1297 = .ok (.iaload, 1) := by decide +kernel
theorem d_L_law_1298 : decode code 1298 = .ok (.invokevirtual 142, 3) := by decide +kernel
theorem d_L_law_1301 : decode code 1301 = .ok (.aload_n 2, 1) := by decide +kernel
theorem d_L_law_1302 : decode code 1302 = .ok (.aload_n 0, 1) := by decide +kernel
theorem d_L_law_1303 : decode code 1303 = .ok (.iload_n 3, 1) := by decide +kernel
theorem d_L_law_1304 : decode code 1304 = .ok (.iconst 1, 1) := by decide +kernel
theorem d_L_law_1305 : decode code 1305 = .ok (.iadd, 1) := by decide +kernel
theorem d_L_law_1306 : decode code 1306 = .ok (.iaload, 1) := by decide +kernel
theorem d_L_law_1307 : decode code 1307 = .ok (.aload_n 0, 1) := by decide +kernel
theorem d_L_law_1308 : decode code 1308 = .ok (.iload_n 3, 1) := by decide +kernel
theorem d_L_law_1309 : decode code 1309 = .ok (.iconst 2, 1) := by decide +kernel
theorem d_L_law_1310 : decode code 1310 = .ok (.iadd, 1) := by decide +kernel
theorem d_L_law_1311 : decode code 1311 = .ok (.iaload, 1) := by decide +kernel
theorem d_L_law_1312 : decode code 1312 = .ok (.invokevirtual 146, 3) := by decide +kernel
theorem d_L_law_1315 : decode code 1315 = .ok (.if_icmp .eq 1059, 3) := by decide +kernel
theorem d_L_law_1318 : decode code 1318 = .ok (.iconst 0, 1) := by decide +kernel
theorem d_L_law_1319 : decode code 1319 = .ok (.ireturn, 1) := by decide +kernel
theorem d_L_law_1320 : decode code 1320 = .ok (.aload_n 1, 1) := by decide +kernel
theorem d_L_law_1321 : decode code 1321 = .ok (.aload_n 0, 1) := by decide +kernel
theorem d_L_law_1322 : decode code 1322 = .ok (.iload_n 3, 1) := by decide +kernel
theorem d_L_law_1323 : decode code 1323 = .ok (.iconst 1, 1) := by decide +kernel
theorem d_L_law_1324 : decode code 1324 = .ok (.iadd, 1) := by decide +kernel
theorem d_L_law_1325 : decode code 1325 = .ok (.iaload, 1) := by decide +kernel
theorem d_L_law_1326 : decode code 1326 = .ok (.invokevirtual 147, 3) := by decide +kernel
theorem d_L_law_1329 : decode code 1329 = .ok (.aload_n 2, 1) := by decide +kernel
theorem d_L_law_1330 : decode code 1330 = .ok (.aload_n 0, 1) := by decide +kernel
theorem d_L_law_1331 : decode code 1331 = .ok (.iload_n 3, 1) := by decide +kernel
theorem d_L_law_1332 : decode code 1332 = .ok (.iconst 1, 1) := by decide +kernel
theorem d_L_law_1333 : decode code 1333 = .ok (.iadd, 1) := by decide +kernel
theorem d_L_law_1334 : decode code 1334 = .ok (.iaload, 1) := by decide +kernel
theorem d_L_law_1335 : decode code 1335 = .ok (.invokevirtual 150, 3) := by decide +kernel
theorem d_L_law_1338 : decode code 1338 = .ok (.if_icmp .eq 1036, 3) := by decide +kernel
theorem d_L_law_1341 : decode code 1341 = .ok (.iconst 0, 1) := by decide +kernel
theorem d_L_law_1342 : decode code 1342 = .ok (.ireturn, 1) := by decide +kernel
theorem d_L_law_1343 : decode code 1343 = .ok (.aload_n 1, 1) := by decide +kernel
theorem d_L_law_1344 : decode code 1344 = .ok (.aload_n 0, 1) := by decide +kernel
theorem d_L_law_1345 : decode code 1345 = .ok (.iload_n 3, 1) := by decide +kernel
theorem d_L_law_1346 : decode code 1346 = .ok (.iconst 1, 1) := by decide +kernel
theorem d_L_law_1347 : decode code 1347 = .ok (.iadd, 1) := by decide +kernel
theorem d_L_law_1348 : decode code 1348 = .ok (.iaload, 1) := by decide +kernel
theorem d_L_law_1349 : decode code 1349 = .ok (.aload_n 0, 1) := by decide +kernel
theorem d_L_law_1350 : decode code 1350 = .ok (.iload_n 3, 1) := by decide +kernel
theorem d_L_law_1351 : decode code 1351 = .ok (.iconst 2, 1) := by decide +kernel
theorem d_L_law_1352 : decode code 1352 = .ok (.iadd, 1) := by decide +kernel
theorem d_L_law_1353 : decode code 1353 = .ok (.iaload, 1) := by decide +kernel
theorem d_L_law_1354 : decode code 1354 = .ok (.invokevirtual 151, 3) := by decide +kernel
theorem d_L_law_1357 : decode code 1357 = .ok (.aload_n 2, 1) := by decide +kernel
theorem d_L_law_1358 : decode code 1358 = .ok (.aload_n 0, 1) := by decide +kernel
theorem d_L_law_1359 : decode code 1359 = .ok (.iload_n 3, 1) := by decide +kernel
theorem d_L_law_1360 : decode code 1360 = .ok (.iconst 1, 1) := by decide +kernel
theorem d_L_law_1361 : decode code 1361 = .ok (.iadd, 1) := by decide +kernel
theorem d_L_law_1362 : decode code 1362 = .ok (.iaload, 1) := by decide +kernel
theorem d_L_law_1363 : decode code 1363 = .ok (.aload_n 0, 1) := by decide +kernel
theorem d_L_law_1364 : decode code 1364 = .ok (.iload_n 3, 1) := by decide +kernel
theorem d_L_law_1365 : decode code 1365 = .ok (.iconst 2, 1) := by decide +kernel
theorem d_L_law_1366 : decode code 1366 = .ok (.iadd, 1) := by decide +kernel
theorem d_L_law_1367 : decode code 1367 = .ok (.iaload, 1) := by decide +kernel
theorem d_L_law_1368 : decode code 1368 = .ok (.invokevirtual 154, 3) := by decide +kernel
theorem d_L_law_1371 : decode code 1371 = .ok (.if_icmp .eq 1003, 3) := by decide +kernel
theorem d_L_law_1374 : decode code 1374 = .ok (.iconst 0, 1) := by decide +kernel
theorem d_L_law_1375 : decode code 1375 = .ok (.ireturn, 1) := by decide +kernel
theorem d_L_law_1376 : decode code 1376 = .ok (.aload_n 1, 1) := by decide +kernel
theorem d_L_law_1377 : decode code 1377 = .ok (.aload_n 0, 1) := by decide +kernel
theorem d_L_law_1378 : decode code 1378 = .ok (.iload_n 3, 1) := by decide +kernel
theorem d_L_law_1379 : decode code 1379 = .ok (.iconst 1, 1) := by decide +kernel
theorem d_L_law_1380 : decode code 1380 = .ok (.iadd, 1) := by decide +kernel
theorem d_L_law_1381 : decode code 1381 = .ok (.iaload, 1) := by decide +kernel
theorem d_L_law_1382 : decode code 1382 = .ok (.aload_n 0, 1) := by decide +kernel
theorem d_L_law_1383 : decode code 1383 = .ok (.iload_n 3, 1) := by decide +kernel
theorem d_L_law_1384 : decode code 1384 = .ok (.iconst 2, 1) := by decide +kernel
theorem d_L_law_1385 : decode code 1385 = .ok (.iadd, 1) := by decide +kernel
theorem d_L_law_1386 : decode code 1386 = .ok (.iaload, 1) := by decide +kernel
theorem d_L_law_1387 : decode code 1387 = .ok (.aload_n 0, 1) := by decide +kernel
theorem d_L_law_1388 : decode code 1388 = .ok (.iload_n 3, 1) := by decide +kernel
theorem d_L_law_1389 : decode code 1389 = .ok (.iconst 3, 1) := by decide +kernel
theorem d_L_law_1390 : decode code 1390 = .ok (.iadd, 1) := by decide +kernel
theorem d_L_law_1391 : decode code 1391 = .ok (.iaload, 1) := by decide +kernel
theorem d_L_law_1392 : decode code 1392 = .ok (.aload_n 0, 1) := by decide +kernel
theorem d_L_law_1393 : decode code 1393 = .ok (.iload_n 3, 1) := by decide +kernel
theorem d_L_law_1394 : decode code 1394 = .ok (.iconst 4, 1) := by decide +kernel
theorem d_L_law_1395 : decode code 1395 = .ok (.iadd, 1) := by decide +kernel
theorem d_L_law_1396 : decode code 1396 = .ok (.iaload, 1) := by decide +kernel
theorem d_L_law_1397 : decode code 1397 = .ok (.ifCond .eq 7, 3) := by decide +kernel
theorem d_L_law_1400 : decode code 1400 = .ok (.iconst 1, 1) := by decide +kernel
theorem d_L_law_1401 : decode code 1401 = .ok (.goto 4, 3) := by decide +kernel
theorem d_L_law_1404 : decode code 1404 = .ok (.iconst 0, 1) := by decide +kernel
theorem d_L_law_1405 : decode code 1405 = .ok (.invokevirtual 155, 3) := by decide +kernel
theorem d_L_law_1408 : decode code 1408 = .ok (.aload_n 2, 1) := by decide +kernel
theorem d_L_law_1409 : decode code 1409 = .ok (.aload_n 0, 1) := by decide +kernel
theorem d_L_law_1410 : decode code 1410 = .ok (.iload_n 3, 1) := by decide +kernel
theorem d_L_law_1411 : decode code 1411 = .ok (.iconst 1, 1) := by decide +kernel
theorem d_L_law_1412 : decode code 1412 = .ok (.iadd, 1) := by decide +kernel
theorem d_L_law_1413 : decode code 1413 = .ok (.iaload, 1) := by decide +kernel
theorem d_L_law_1414 : decode code 1414 = .ok (.aload_n 0, 1) := by decide +kernel
theorem d_L_law_1415 : decode code 1415 = .ok (.iload_n 3, 1) := by decide +kernel
theorem d_L_law_1416 : decode code 1416 = .ok (.iconst 2, 1) := by decide +kernel
theorem d_L_law_1417 : decode code 1417 = .ok (.iadd, 1) := by decide +kernel
theorem d_L_law_1418 : decode code 1418 = .ok (.iaload, 1) := by decide +kernel
theorem d_L_law_1419 : decode code 1419 = .ok (.aload_n 0, 1) := by decide +kernel
theorem d_L_law_1420 : decode code 1420 = .ok (.iload_n 3, 1) := by decide +kernel
theorem d_L_law_1421 : decode code 1421 = .ok (.iconst 3, 1) := by decide +kernel
theorem d_L_law_1422 : decode code 1422 = .ok (.iadd, 1) := by decide +kernel
theorem d_L_law_1423 : decode code 1423 = .ok (.iaload, 1) := by decide +kernel
theorem d_L_law_1424 : decode code 1424 = .ok (.aload_n 0, 1) := by decide +kernel
theorem d_L_law_1425 : decode code 1425 = .ok (.iload_n 3, 1) := by decide +kernel
theorem d_L_law_1426 : decode code 1426 = .ok (.iconst 4, 1) := by decide +kernel
theorem d_L_law_1427 : decode code 1427 = .ok (.iadd, 1) := by decide +kernel
theorem d_L_law_1428 : decode code 1428 = .ok (.iaload, 1) := by decide +kernel
theorem d_L_law_1429 : decode code 1429 = .ok (.ifCond .eq 7, 3) := by decide +kernel
theorem d_L_law_1432 : decode code 1432 = .ok (.iconst 1, 1) := by decide +kernel
theorem d_L_law_1433 : decode code 1433 = .ok (.goto 4, 3) := by decide +kernel
theorem d_L_law_1436 : decode code 1436 = .ok (.iconst 0, 1) := by decide +kernel
theorem d_L_law_1437 : decode code 1437 = .ok (.invokevirtual 159, 3) := by decide +kernel
theorem d_L_law_1440 : decode code 1440 = .ok (.if_icmp .eq 934, 3) := by decide +kernel
theorem d_L_law_1443 : decode code 1443 = .ok (.iconst 0, 1) := by decide +kernel
theorem d_L_law_1444 : decode code 1444 = .ok (.ireturn, 1) := by decide +kernel
theorem d_L_law_1445 : decode code 1445 = .ok (.aload_n 1, 1) := by decide +kernel
theorem d_L_law_1446 : decode code 1446 = .ok (.aload_n 0, 1) := by decide +kernel
theorem d_L_law_1447 : decode code 1447 = .ok (.iload_n 3, 1) := by decide +kernel
theorem d_L_law_1448 : decode code 1448 = .ok (.iconst 1, 1) := by decide +kernel
theorem d_L_law_1449 : decode code 1449 = .ok (.iadd, 1) := by decide +kernel
theorem d_L_law_1450 : decode code 1450 = .ok (.iaload, 1) := by decide +kernel
theorem d_L_law_1451 : decode code 1451 = .ok (.aload_n 0, 1) := by decide +kernel
theorem d_L_law_1452 : decode code 1452 = .ok (.iload_n 3, 1) := by decide +kernel
theorem d_L_law_1453 : decode code 1453 = .ok (.iconst 2, 1) := by decide +kernel
theorem d_L_law_1454 : decode code 1454 = .ok (.iadd, 1) := by decide +kernel
theorem d_L_law_1455 : decode code 1455 = .ok (.iaload, 1) := by decide +kernel
theorem d_L_law_1456 : decode code 1456 = .ok (.invokevirtual 160, 3) := by decide +kernel
theorem d_L_law_1459 : decode code 1459 = .ok (.aload_n 2, 1) := by decide +kernel
theorem d_L_law_1460 : decode code 1460 = .ok (.aload_n 0, 1) := by decide +kernel
theorem d_L_law_1461 : decode code 1461 = .ok (.iload_n 3, 1) := by decide +kernel
theorem d_L_law_1462 : decode code 1462 = .ok (.iconst 1, 1) := by decide +kernel
theorem d_L_law_1463 : decode code 1463 = .ok (.iadd, 1) := by decide +kernel
theorem d_L_law_1464 : decode code 1464 = .ok (.iaload, 1) := by decide +kernel
theorem d_L_law_1465 : decode code 1465 = .ok (.aload_n 0, 1) := by decide +kernel
theorem d_L_law_1466 : decode code 1466 = .ok (.iload_n 3, 1) := by decide +kernel
theorem d_L_law_1467 : decode code 1467 = .ok (.iconst 2, 1) := by decide +kernel
theorem d_L_law_1468 : decode code 1468 = .ok (.iadd, 1) := by decide +kernel
theorem d_L_law_1469 : decode code 1469 = .ok (.iaload, 1) := by decide +kernel
theorem d_L_law_1470 : decode code 1470 = .ok (.invokevirtual 163, 3) := by decide +kernel
theorem d_L_law_1473 : decode code 1473 = .ok (.if_icmp .eq 901, 3) := by decide +kernel
theorem d_L_law_1476 : decode code 1476 = .ok (.iconst 0, 1) := by decide +kernel
theorem d_L_law_1477 : decode code 1477 = .ok (.ireturn, 1) := by decide +kernel
theorem d_L_law_1478 : decode code 1478 = .ok (.aload_n 1, 1) := by decide +kernel
theorem d_L_law_1479 : decode code 1479 = .ok (.aload_n 0, 1) := by decide +kernel
theorem d_L_law_1480 : decode code 1480 = .ok (.iload_n 3, 1) := by decide +kernel
theorem d_L_law_1481 : decode code 1481 = .ok (.iconst 1, 1) := by decide +kernel
theorem d_L_law_1482 : decode code 1482 = .ok (.iadd, 1) := by decide +kernel
theorem d_L_law_1483 : decode code 1483 = .ok (.iaload, 1) := by decide +kernel
theorem d_L_law_1484 : decode code 1484 = .ok (.aload_n 0, 1) := by decide +kernel
theorem d_L_law_1485 : decode code 1485 = .ok (.iload_n 3, 1) := by decide +kernel
theorem d_L_law_1486 : decode code 1486 = .ok (.iconst 2, 1) := by decide +kernel
theorem d_L_law_1487 : decode code 1487 = .ok (.iadd, 1) := by decide +kernel
theorem d_L_law_1488 : decode code 1488 = .ok (.iaload, 1) := by decide +kernel
theorem d_L_law_1489 : decode code 1489 = .ok (.invokevirtual 164, 3) := by decide +kernel
theorem d_L_law_1492 : decode code 1492 = .ok (.aload_n 2, 1) := by decide +kernel
theorem d_L_law_1493 : decode code 1493 = .ok (.aload_n 0, 1) := by decide +kernel
theorem d_L_law_1494 : decode code 1494 = .ok (.iload_n 3, 1) := by decide +kernel
theorem d_L_law_1495 : decode code 1495 = .ok (.iconst 1, 1) := by decide +kernel
theorem d_L_law_1496 : decode code 1496 = .ok (.iadd, 1) := by decide +kernel
theorem d_L_law_1497 : decode code 1497 = .ok (.iaload, 1) := by decide +kernel
theorem d_L_law_1498 : decode code 1498 = .ok (.aload_n 0, 1) := by decide +kernel
theorem d_L_law_1499 : decode code 1499 = .ok (.iload_n 3, 1) := by decide +kernel
theorem d_L_law_1500 : decode code 1500 = .ok (.iconst 2, 1) := by decide +kernel
theorem d_L_law_1501 : decode code 1501 = .ok (.iadd, 1) := by decide +kernel
theorem d_L_law_1502 : decode code 1502 = .ok (.iaload, 1) := by decide +kernel
theorem d_L_law_1503 : decode code 1503 = .ok (.invokevirtual 167, 3) := by decide +kernel
theorem d_L_law_1506 : decode code 1506 = .ok (.if_icmp .eq 868, 3) := by decide +kernel
theorem d_L_law_1509 : decode code 1509 = .ok (.iconst 0, 1) := by decide +kernel
theorem d_L_law_1510 : decode code 1510 = .ok (.ireturn, 1) := by decide +kernel
theorem d_L_law_1511 : decode code 1511 = .ok (.aload_n 1, 1) := by decide +kernel
theorem d_L_law_1512 : decode code 1512 = .ok (.aload_n 0, 1) := by decide +kernel
theorem d_L_law_1513 : decode code 1513 = .ok (.iload_n 3, 1) := by decide +kernel
theorem d_L_law_1514 : decode code 1514 = .ok (.iconst 1, 1) := by decide +kernel
theorem d_L_law_1515 : decode code 1515 = .ok (.iadd, 1) := by decide +kernel
theorem d_L_law_1516 : decode code 1516 = .ok (.iaload, 1) := by decide +kernel
theorem d_L_law_1517 : decode code 1517 = .ok (.invokevirtual 168, 3) := by decide +kernel
theorem d_L_law_1520 : decode code 1520 = .ok (.aload_n 2, 1) := by decide +kernel
theorem d_L_law_1521 : decode code 1521 = .ok (.aload_n 0, 1) := by decide +kernel
theorem d_L_law_1522 : decode code 1522 = .ok (.iload_n 3, 1) := by decide +kernel
theorem d_L_law_1523 : decode code 1523 = .ok (.iconst 1, 1) := by decide +kernel
theorem d_L_law_1524 : decode code 1524 = .ok (.iadd, 1) := by decide +kernel
theorem d_L_law_1525 : decode code 1525 = .ok (.iaload, 1) := by decide +kernel
theorem d_L_law_1526 : decode code 1526 = .ok (.invokevirtual 171, 3) := by decide +kernel
theorem d_L_law_1529 : decode code 1529 = .ok (.if_icmp .eq 845, 3) := by decide +kernel
theorem d_L_law_1532 : decode code 1532 = .ok (.iconst 0, 1) := by decide +kernel
theorem d_L_law_1533 : decode code 1533 = .ok (.ireturn, 1) := by decide +kernel
theorem d_L_law_1534 : decode code 1534 = .ok (.aload_n 1, 1) := by decide +kernel
theorem d_L_law_1535 : decode code 1535 = .ok (.aload_n 0, 1) := by decide +kernel
theorem d_L_law_1536 : decode code 1536 = .ok (.iload_n 3, 1) := by decide +kernel
theorem d_L_law_1537 : decode code 1537 = .ok (.iconst 1, 1) := by decide +kernel
theorem d_L_law_1538 : decode code 1538 = .ok (.iadd, 1) := by decide +kernel
theorem d_L_law_1539 : decode code 1539 = .ok (.iaload, 1) := by decide +kernel
theorem d_L_law_1540 : decode code 1540 = .ok (.aload_n 0, 1) := by decide +kernel
theorem d_L_law_1541 : decode code 1541 = .ok (.iload_n 3, 1) := by decide +kernel
theorem d_L_law_1542 : decode code 1542 = .ok (.iconst 2, 1) := by decide +kernel
theorem d_L_law_1543 : decode code 1543 = .ok (.iadd, 1) := by decide +kernel
theorem d_L_law_1544 : decode code 1544 = .ok (.iaload, 1) := by decide +kernel
theorem d_L_law_1545 : decode code 1545 = .ok (.aload_n 0, 1) := by decide +kernel
theorem d_L_law_1546 : decode code 1546 = .ok (.iload_n 3, 1) := by decide +kernel
theorem d_L_law_1547 : decode code 1547 = .ok (.iconst 3, 1) := by decide +kernel
theorem d_L_law_1548 : decode code 1548 = .ok (.iadd, 1) := by decide +kernel
theorem d_L_law_1549 : decode code 1549 = .ok (.iaload, 1) := by decide +kernel
theorem d_L_law_1550 : decode code 1550 = .ok (.invokevirtual 172, 3) := by decide +kernel
theorem d_L_law_1553 : decode code 1553 = .ok (.aload_n 2, 1) := by decide +kernel
theorem d_L_law_1554 : decode code 1554 = .ok (.aload_n 0, 1) := by decide +kernel
theorem d_L_law_1555 : decode code 1555 = .ok (.iload_n 3, 1) := by decide +kernel
theorem d_L_law_1556 : decode code 1556 = .ok (.iconst 1, 1) := by decide +kernel
theorem d_L_law_1557 : decode code 1557 = .ok (.iadd, 1) := by decide +kernel
theorem d_L_law_1558 : decode code 1558 = .ok (.iaload, 1) := by decide +kernel
theorem d_L_law_1559 : decode code 1559 = .ok (.aload_n 0, 1) := by decide +kernel
theorem d_L_law_1560 : decode code 1560 = .ok (.iload_n 3, 1) := by decide +kernel
theorem d_L_law_1561 : decode code 1561 = .ok (.iconst 2, 1) := by decide +kernel
theorem d_L_law_1562 : decode code 1562 = .ok (.iadd, 1) := by decide +kernel
theorem d_L_law_1563 : decode code 1563 = .ok (.iaload, 1) := by decide +kernel
theorem d_L_law_1564 : decode code 1564 = .ok (.aload_n 0, 1) := by decide +kernel
theorem d_L_law_1565 : decode code 1565 = .ok (.iload_n 3, 1) := by decide +kernel
theorem d_L_law_1566 : decode code 1566 = .ok (.iconst 3, 1) := by decide +kernel
theorem d_L_law_1567 : decode code 1567 = .ok (.iadd, 1) := by decide +kernel
theorem d_L_law_1568 : decode code 1568 = .ok (.iaload, 1) := by decide +kernel
theorem d_L_law_1569 : decode code 1569 = .ok (.invokevirtual 175, 3) := by decide +kernel
theorem d_L_law_1572 : decode code 1572 = .ok (.lcmp, 1) := by decide +kernel
theorem d_L_law_1573 : decode code 1573 = .ok (.ifCond .eq 801, 3) := by decide +kernel
theorem d_L_law_1576 : decode code 1576 = .ok (.iconst 0, 1) := by decide +kernel
theorem d_L_law_1577 : decode code 1577 = .ok (.ireturn, 1) := by decide +kernel
theorem d_L_law_1578 : decode code 1578 = .ok (.aload_n 1, 1) := by decide +kernel
theorem d_L_law_1579 : decode code 1579 = .ok (.aload_n 0, 1) := by decide +kernel
theorem d_L_law_1580 : decode code 1580 = .ok (.iload_n 3, 1) := by decide +kernel
theorem d_L_law_1581 : decode code 1581 = .ok (.iconst 1, 1) := by decide +kernel
theorem d_L_law_1582 : decode code 1582 = .ok (.iadd, 1) := by decide +kernel
theorem d_L_law_1583 : decode code 1583 = .ok (.iaload, 1) := by decide +kernel
theorem d_L_law_1584 : decode code 1584 = .ok (.aload_n 0, 1) := by decide +kernel
theorem d_L_law_1585 : decode code 1585 = .ok (.iload_n 3, 1) := by decide +kernel
theorem d_L_law_1586 : decode code 1586 = .ok (.iconst 2, 1) := by decide +kernel
theorem d_L_law_1587 : decode code 1587 = .ok (.iadd, 1) := by decide +kernel
theorem d_L_law_1588 : decode code 1588 = .ok (.iaload, 1) := by decide +kernel
theorem d_L_law_1589 : decode code 1589 = .ok (.invokevirtual 176, 3) := by decide +kernel
theorem d_L_law_1592 : decode code 1592 = .ok (.aload_n 2, 1) := by decide +kernel
theorem d_L_law_1593 : decode code 1593 = .ok (.aload_n 0, 1) := by decide +kernel
theorem d_L_law_1594 : decode code 1594 = .ok (.iload_n 3, 1) := by decide +kernel
theorem d_L_law_1595 : decode code 1595 = .ok (.iconst 1, 1) := by decide +kernel
theorem d_L_law_1596 : decode code 1596 = .ok (.iadd, 1) := by decide +kernel
theorem d_L_law_1597 : decode code 1597 = .ok (.iaload, 1) := by decide +kernel
theorem d_L_law_1598 : decode code 1598 = .ok (.aload_n 0, 1) := by decide +kernel
theorem d_L_law_1599 : decode code 1599 = .ok (.iload_n 3, 1) := by decide +kernel
theorem d_L_law_1600 : decode code 1600 = .ok (.iconst 2, 1) := by decide +kernel
theorem d_L_law_1601 : decode code 1601 = .ok (.iadd, 1) := by decide +kernel
theorem d_L_law_1602 : decode code 1602 = .ok (.iaload, 1) := by decide +kernel
theorem d_L_law_1603 : decode code 1603 = .ok (.invokevirtual 179, 3) := by decide +kernel
theorem d_L_law_1606 : decode code 1606 = .ok (.if_icmp .eq 768, 3) := by decide +kernel
theorem d_L_law_1609 : decode code 1609 = .ok (.iconst 0, 1) := by decide +kernel
theorem d_L_law_1610 : decode code 1610 = .ok (.ireturn, 1) := by decide +kernel
theorem d_L_law_1611 : decode code 1611 = .ok (.aload_n 1, 1) := by decide +kernel
theorem d_L_law_1612 : decode code 1612 = .ok (.aload_n 0, 1) := by decide +kernel
theorem d_L_law_1613 : decode code 1613 = .ok (.iload_n 3, 1) := by decide +kernel
theorem d_L_law_1614 : decode code 1614 = .ok (.iconst 1, 1) := by decide +kernel
theorem d_L_law_1615 : decode code 1615 = .ok (.iadd, 1) := by decide +kernel
theorem d_L_law_1616 : decode code 1616 = .ok (.iaload, 1) := by decide +kernel
theorem d_L_law_1617 : decode code 1617 = .ok (.aload_n 0, 1) := by decide +kernel
theorem d_L_law_1618 : decode code 1618 = .ok (.iload_n 3, 1) := by decide +kernel
theorem d_L_law_1619 : decode code 1619 = .ok (.iconst 2, 1) := by decide +kernel
theorem d_L_law_1620 : decode code 1620 = .ok (.iadd, 1) := by decide +kernel
theorem d_L_law_1621 : decode code 1621 = .ok (.iaload, 1) := by decide +kernel
theorem d_L_law_1622 : decode code 1622 = .ok (.ifCond .eq 7, 3) := by decide +kernel
theorem d_L_law_1625 : decode code 1625 = .ok (.iconst 1, 1) := by decide +kernel
theorem d_L_law_1626 : decode code 1626 = .ok (.goto 4, 3) := by decide +kernel
theorem d_L_law_1629 : decode code 1629 = .ok (.iconst 0, 1) := by decide +kernel
theorem d_L_law_1630 : decode code 1630 = .ok (.invokevirtual 180, 3) := by decide +kernel
theorem d_L_law_1633 : decode code 1633 = .ok (.aload_n 2, 1) := by decide +kernel
theorem d_L_law_1634 : decode code 1634 = .ok (.aload_n 0, 1) := by decide +kernel
theorem d_L_law_1635 : decode code 1635 = .ok (.iload_n 3, 1) := by decide +kernel
theorem d_L_law_1636 : decode code 1636 = .ok (.iconst 1, 1) := by decide +kernel
theorem d_L_law_1637 : decode code 1637 = .ok (.iadd, 1) := by decide +kernel
theorem d_L_law_1638 : decode code 1638 = .ok (.iaload, 1) := by decide +kernel
theorem d_L_law_1639 : decode code 1639 = .ok (.aload_n 0, 1) := by decide +kernel
theorem d_L_law_1640 : decode code 1640 = .ok (.iload_n 3, 1) := by decide +kernel
theorem d_L_law_1641 : decode code 1641 = .ok (.iconst 2, 1) := by decide +kernel
theorem d_L_law_1642 : decode code 1642 = .ok (.iadd, 1) := by decide +kernel
theorem d_L_law_1643 : decode code 1643 = .ok (.iaload, 1) := by decide +kernel
theorem d_L_law_1644 : decode code 1644 = .ok (.ifCond .eq 7, 3) := by decide +kernel
theorem d_L_law_1647 : decode code 1647 = .ok (.iconst 1, 1) := by decide +kernel
theorem d_L_law_1648 : decode code 1648 = .ok (.goto 4, 3) := by decide +kernel
theorem d_L_law_1651 : decode code 1651 = .ok (.iconst 0, 1) := by decide +kernel
theorem d_L_law_1652 : decode code 1652 = .ok (.invokevirtual 184, 3) := by decide +kernel
theorem d_L_law_1655 : decode code 1655 = .ok (.if_icmp .eq 719, 3) := by decide +kernel
theorem d_L_law_1658 : decode code 1658 = .ok (.iconst 0, 1) := by decide +kernel
theorem d_L_law_1659 : decode code 1659 = .ok (.ireturn, 1) := by decide +kernel
theorem d_L_law_1660 : decode code 1660 = .ok (.aload_n 1, 1) := by decide +kernel
theorem d_L_law_1661 : decode code 1661 = .ok (.aload_n 0, 1) := by decide +kernel
theorem d_L_law_1662 : decode code 1662 = .ok (.iload_n 3, 1) := by decide +kernel
theorem d_L_law_1663 : decode code 1663 = .ok (.iconst 1, 1) := by decide +kernel
theorem d_L_law_1664 : decode code 1664 = .ok (.iadd, 1) := by decide +kernel
theorem d_L_law_1665 : decode code 1665 = .ok (.iaload, 1) := by decide +kernel
theorem d_L_law_1666 : decode code 1666 = .ok (.invokevirtual 185, 3) := by decide +kernel
theorem d_L_law_1669 : decode code 1669 = .ok (.aload_n 2, 1) := by decide +kernel
theorem d_L_law_1670 : decode code 1670 = .ok (.aload_n 0, 1) := by decide +kernel
theorem d_L_law_1671 : decode code 1671 = .ok (.iload_n 3, 1) := by decide +kernel
theorem d_L_law_1672 : decode code 1672 = .ok (.iconst 1, 1) := by decide +kernel
theorem d_L_law_1673 : decode code 1673 = .ok (.iadd, 1) := by decide +kernel
theorem d_L_law_1674 : decode code 1674 = .ok (.iaload, 1) := by decide +kernel
theorem d_L_law_1675 : decode code 1675 = .ok (.invokevirtual 188, 3) := by decide +kernel
theorem d_L_law_1678 : decode code 1678 = .ok (.if_icmp .eq 696, 3) := by decide +kernel
theorem d_L_law_1681 : decode code 1681 = .ok (.iconst 0, 1) := by decide +kernel
theorem d_L_law_1682 : decode code 1682 = .ok (.ireturn, 1) := by decide +kernel
theorem d_L_law_1683 : decode code 1683 = .ok (.aload_n 1, 1) := by decide +kernel
theorem d_L_law_1684 : decode code 1684 = .ok (.aload_n 0, 1) := by decide +kernel
theorem d_L_law_1685 : decode code 1685 = .ok (.iload_n 3, 1) := by decide +kernel
theorem d_L_law_1686 : decode code 1686 = .ok (.iconst 1, 1) := by decide +kernel
theorem d_L_law_1687 : decode code 1687 = .ok (.iadd, 1) := by decide +kernel
theorem d_L_law_1688 : decode code 1688 = .ok (.iaload, 1) := by decide +kernel
theorem d_L_law_1689 : decode code 1689 = .ok (.invokevirtual 189, 3) := by decide +kernel
theorem d_L_law_1692 : decode code 1692 = .ok (.aload_n 2, 1) := by decide +kernel
theorem d_L_law_1693 : decode code 1693 = .ok (.aload_n 0, 1) := by decide +kernel
theorem d_L_law_1694 : decode code 1694 = .ok (.iload_n 3, 1) := by decide +kernel
theorem d_L_law_1695 : decode code 1695 = .ok (.iconst 1, 1) := by decide +kernel
theorem d_L_law_1696 : decode code 1696 = .ok (.iadd, 1) := by decide +kernel
theorem d_L_law_1697 : decode code 1697 = .ok (.iaload, 1) := by decide +kernel
theorem d_L_law_1698 : decode code 1698 = .ok (.invokevirtual 192, 3) := by decide +kernel
theorem d_L_law_1701 : decode code 1701 = .ok (.if_icmp .eq 673, 3) := by decide +kernel
theorem d_L_law_1704 : decode code 1704 = .ok (.iconst 0, 1) := by decide +kernel
theorem d_L_law_1705 : decode code 1705 = .ok (.ireturn, 1) := by decide +kernel
theorem d_L_law_1706 : decode code 1706 = .ok (.aload_n 1, 1) := by decide +kernel
theorem d_L_law_1707 : decode code 1707 = .ok (.aload_n 0, 1) := by decide +kernel
theorem d_L_law_1708 : decode code 1708 = .ok (.iload_n 3, 1) := by decide +kernel
theorem d_L_law_1709 : decode code 1709 = .ok (.iconst 1, 1) := by decide +kernel
theorem d_L_law_1710 : decode code 1710 = .ok (.iadd, 1) := by decide +kernel
theorem d_L_law_1711 : decode code 1711 = .ok (.iaload, 1) := by decide +kernel
theorem d_L_law_1712 : decode code 1712 = .ok (.invokevirtual 193, 3) := by decide +kernel
theorem d_L_law_1715 : decode code 1715 = .ok (.aload_n 2, 1) := by decide +kernel
theorem d_L_law_1716 : decode code 1716 = .ok (.aload_n 0, 1) := by decide +kernel
theorem d_L_law_1717 : decode code 1717 = .ok (.iload_n 3, 1) := by decide +kernel
theorem d_L_law_1718 : decode code 1718 = .ok (.iconst 1, 1) := by decide +kernel
theorem d_L_law_1719 : decode code 1719 = .ok (.iadd, 1) := by decide +kernel
theorem d_L_law_1720 : decode code 1720 = .ok (.iaload, 1) := by decide +kernel
theorem d_L_law_1721 : decode code 1721 = .ok (.invokevirtual 196, 3) := by decide +kernel
theorem d_L_law_1724 : decode code 1724 = .ok (.if_icmp .eq 650, 3) := by decide +kernel
theorem d_L_law_1727 : decode code 1727 = .ok (.iconst 0, 1) := by decide +kernel
theorem d_L_law_1728 : decode code 1728 = .ok (.ireturn, 1) := by decide +kernel
theorem d_L_law_1729 : decode code 1729 = .ok (.aload_n 1, 1) := by decide +kernel
theorem d_L_law_1730 : decode code 1730 = .ok (.aload_n 0, 1) := by decide +kernel
theorem d_L_law_1731 : decode code 1731 = .ok (.iload_n 3, 1) := by decide +kernel
theorem d_L_law_1732 : decode code 1732 = .ok (.iconst 1, 1) := by decide +kernel
theorem d_L_law_1733 : decode code 1733 = .ok (.iadd, 1) := by decide +kernel
theorem d_L_law_1734 : decode code 1734 = .ok (.iaload, 1) := by decide +kernel
theorem d_L_law_1735 : decode code 1735 = .ok (.aload_n 0, 1) := by decide +kernel
theorem d_L_law_1736 : decode code 1736 = .ok (.iload_n 3, 1) := by decide +kernel
theorem d_L_law_1737 : decode code 1737 = .ok (.iconst 2, 1) := by decide +kernel
theorem d_L_law_1738 : decode code 1738 = .ok (.iadd, 1) := by decide +kernel
theorem d_L_law_1739 : decode code 1739 = .ok (.iaload, 1) := by decide +kernel
theorem d_L_law_1740 : decode code 1740 = .ok (.aload_n 0, 1) := by decide +kernel
theorem d_L_law_1741 : decode code 1741 = .ok (.iload_n 3, 1) := by decide +kernel
theorem d_L_law_1742 : decode code 1742 = .ok (.iconst 3, 1) := by decide +kernel
theorem d_L_law_1743 : decode code 1743 = .ok (.iadd, 1) := by decide +kernel
theorem d_L_law_1744 : decode code 1744 = .ok (.iaload, 1) := by decide +kernel
theorem d_L_law_1745 : decode code 1745 = .ok (.invokevirtual 197, 3) := by decide +kernel
theorem d_L_law_1748 : decode code 1748 = .ok (.aload_n 2, 1) := by decide +kernel
theorem d_L_law_1749 : decode code 1749 = .ok (.aload_n 0, 1) := by decide +kernel
theorem d_L_law_1750 : decode code 1750 = .ok (.iload_n 3, 1) := by decide +kernel
theorem d_L_law_1751 : decode code 1751 = .ok (.iconst 1, 1) := by decide +kernel
theorem d_L_law_1752 : decode code 1752 = .ok (.iadd, 1) := by decide +kernel
theorem d_L_law_1753 : decode code 1753 = .ok (.iaload, 1) := by decide +kernel
theorem d_L_law_1754 : decode code 1754 = .ok (.aload_n 0, 1) := by decide +kernel
theorem d_L_law_1755 : decode code 1755 = .ok (.iload_n 3, 1) := by decide +kernel
theorem d_L_law_1756 : decode code 1756 = .ok (.iconst 2, 1) := by decide +kernel
theorem d_L_law_1757 : decode code 1757 = .ok (.iadd, 1) := by decide +kernel
theorem d_L_law_1758 : decode code 1758 = .ok (.iaload, 1) := by decide +kernel
theorem d_L_law_1759 : decode code 1759 = .ok (.aload_n 0, 1) := by decide +kernel
theorem d_L_law_1760 : decode code 1760 = .ok (.iload_n 3, 1) := by decide +kernel
theorem d_L_law_1761 : decode code 1761 = .ok (.iconst 3, 1) := by decide +kernel
theorem d_L_law_1762 : decode code 1762 = .ok (.iadd, 1) := by decide +kernel
theorem d_L_law_1763 : decode code 1763 = .ok (.iaload, 1) := by decide +kernel
theorem d_L_law_1764 : decode code 1764 = .ok (.invokevirtual 200, 3) := by decide +kernel
theorem d_L_law_1767 : decode code 1767 = .ok (.lcmp, 1) := by decide +kernel
theorem d_L_law_1768 : decode code 1768 = .ok (.ifCond .eq 606, 3) := by decide +kernel
theorem d_L_law_1771 : decode code 1771 = .ok (.iconst 0, 1) := by decide +kernel
theorem d_L_law_1772 : decode code 1772 = .ok (.ireturn, 1) := by decide +kernel
theorem d_L_law_1773 : decode code 1773 = .ok (.aload_n 1, 1) := by decide +kernel
theorem d_L_law_1774 : decode code 1774 = .ok (.aload_n 0, 1) := by decide +kernel
theorem d_L_law_1775 : decode code 1775 = .ok (.iload_n 3, 1) := by decide +kernel
theorem d_L_law_1776 : decode code 1776 = .ok (.iconst 1, 1) := by decide +kernel
theorem d_L_law_1777 : decode code 1777 = .ok (.iadd, 1) := by decide +kernel
theorem d_L_law_1778 : decode code 1778 = .ok (.iaload, 1) := by decide +kernel
theorem d_L_law_1779 : decode code 1779 = .ok (.aload_n 0, 1) := by decide +kernel
theorem d_L_law_1780 : decode code 1780 = .ok (.iload_n 3, 1) := by decide +kernel
theorem d_L_law_1781 : decode code 1781 = .ok (.iconst 2, 1) := by decide +kernel
theorem d_L_law_1782 : decode code 1782 = .ok (.iadd, 1) := by decide +kernel
theorem d_L_law_1783 : decode code 1783 = .ok (.iaload, 1) := by decide +kernel
theorem d_L_law_1784 : decode code 1784 = .ok (.aload_n 0, 1) := by decide +kernel
theorem d_L_law_1785 : decode code 1785 = .ok (.iload_n 3, 1) := by decide +kernel
theorem d_L_law_1786 : decode code 1786 = .ok (.iconst 3, 1) := by decide +kernel
theorem d_L_law_1787 : decode code 1787 = .ok (.iadd, 1) := by decide +kernel
theorem d_L_law_1788 : decode code 1788 = .ok (.iaload, 1) := by decide +kernel
theorem d_L_law_1789 : decode code 1789 = .ok (.aload_n 0, 1) := by decide +kernel
theorem d_L_law_1790 : decode code 1790 = .ok (.iload_n 3, 1) := by decide +kernel
theorem d_L_law_1791 : decode code 1791 = .ok (.iconst 4, 1) := by decide +kernel
theorem d_L_law_1792 : decode code 1792 = .ok (.iadd, 1) := by decide +kernel
theorem d_L_law_1793 : decode code 1793 = .ok (.iaload, 1) := by decide +kernel
theorem d_L_law_1794 : decode code 1794 = .ok (.invokevirtual 201, 3) := by decide +kernel
theorem d_L_law_1797 : decode code 1797 = .ok (.aload_n 2, 1) := by decide +kernel
theorem d_L_law_1798 : decode code 1798 = .ok (.aload_n 0, 1) := by decide +kernel
theorem d_L_law_1799 : decode code 1799 = .ok (.iload_n 3, 1) := by decide +kernel
theorem d_L_law_1800 : decode code 1800 = .ok (.iconst 1, 1) := by decide +kernel
theorem d_L_law_1801 : decode code 1801 = .ok (.iadd, 1) := by decide +kernel
theorem d_L_law_1802 : decode code 1802 = .ok (.iaload, 1) := by decide +kernel
theorem d_L_law_1803 : decode code 1803 = .ok (.aload_n 0, 1) := by decide +kernel
theorem d_L_law_1804 : decode code 1804 = .ok (.iload_n 3, 1) := by decide +kernel
theorem d_L_law_1805 : decode code 1805 = .ok (.iconst 2, 1) := by decide +kernel
theorem d_L_law_1806 : decode code 1806 = .ok (.iadd, 1) := by decide +kernel
theorem d_L_law_1807 : decode code 1807 = .ok (.iaload, 1) := by decide +kernel
theorem d_L_law_1808 : decode code 1808 = .ok (.aload_n 0, 1) := by decide +kernel
theorem d_L_law_1809 : decode code 1809 = .ok (.iload_n 3, 1) := by decide +kernel
theorem d_L_law_1810 : decode code 1810 = .ok (.iconst 3, 1) := by decide +kernel
theorem d_L_law_1811 : decode code 1811 = .ok (.iadd, 1) := by decide +kernel
theorem d_L_law_1812 : decode code 1812 = .ok (.iaload, 1) := by decide +kernel
theorem d_L_law_1813 : decode code 1813 = .ok (.aload_n 0, 1) := by decide +kernel
theorem d_L_law_1814 : decode code 1814 = .ok (.iload_n 3, 1) := by decide +kernel
theorem d_L_law_1815 : decode code 1815 = .ok (.iconst 4, 1) := by decide +kernel
theorem d_L_law_1816 : decode code 1816 = .ok (.iadd, 1) := by decide +kernel
theorem d_L_law_1817 : decode code 1817 = .ok (.iaload, 1) := by decide +kernel
theorem d_L_law_1818 : decode code 1818 = .ok (.invokevirtual 205, 3) := by decide +kernel
theorem d_L_law_1821 : decode code 1821 = .ok (.lcmp, 1) := by decide +kernel
theorem d_L_law_1822 : decode code 1822 = .ok (.ifCond .eq 552, 3) := by decide +kernel
theorem d_L_law_1825 : decode code 1825 = .ok (.iconst 0, 1) := by decide +kernel
theorem d_L_law_1826 : decode code 1826 = .ok (.ireturn, 1) := by decide +kernel
theorem d_L_law_1827 : decode code 1827 = .ok (.aload_n 1, 1) := by decide +kernel
theorem d_L_law_1828 : decode code 1828 = .ok (.aload_n 0, 1) := by decide +kernel
theorem d_L_law_1829 : decode code 1829 = .ok (.iload_n 3, 1) := by decide +kernel
theorem d_L_law_1830 : decode code 1830 = .ok (.iconst 1, 1) := by decide +kernel
theorem d_L_law_1831 : decode code 1831 = .ok (.iadd, 1) := by decide +kernel
theorem d_L_law_1832 : decode code 1832 = .ok (.iaload, 1) := by decide +kernel
theorem d_L_law_1833 : decode code 1833 = .ok (.aload_n 0, 1) := by decide +kernel
theorem d_L_law_1834 : decode code 1834 = .ok (.iload_n 3, 1) := by decide +kernel
theorem d_L_law_1835 : decode code 1835 = .ok (.iconst 2, 1) := by decide +kernel
theorem d_L_law_1836 : decode code 1836 = .ok (.iadd, 1) := by decide +kernel
theorem d_L_law_1837 : decode code 1837 = .ok (.iaload, 1) := by decide +kernel
theorem d_L_law_1838 : decode code 1838 = .ok (.aload_n 0, 1) := by decide +kernel
theorem d_L_law_1839 : decode code 1839 = .ok (.iload_n 3, 1) := by decide +kernel
theorem d_L_law_1840 : decode code 1840 = .ok (.iconst 3, 1) := by decide +kernel
theorem d_L_law_1841 : decode code 1841 = .ok (.iadd, 1) := by decide +kernel
theorem d_L_law_1842 : decode code 1842 = .ok (.iaload, 1) := by decide +kernel
theorem d_L_law_1843 : decode code 1843 = .ok (.invokevirtual 206, 3) := by decide +kernel
theorem d_L_law_1846 : decode code 1846 = .ok (.aload_n 2, 1) := by decide +kernel
theorem d_L_law_1847 : decode code 1847 = .ok (.aload_n 0, 1) := by decide +kernel
theorem d_L_law_1848 : decode code 1848 = .ok (.iload_n 3, 1) := by decide +kernel
theorem d_L_law_1849 : decode code 1849 = .ok (.iconst 1, 1) := by decide +kernel
theorem d_L_law_1850 : decode code 1850 = .ok (.iadd, 1) := by decide +kernel
theorem d_L_law_1851 : decode code 1851 = .ok (.iaload, 1) := by decide +kernel
theorem d_L_law_1852 : decode code 1852 = .ok (.aload_n 0, 1) := by decide +kernel
theorem d_L_law_1853 : decode code 1853 = .ok (.iload_n 3, 1) := by decide +kernel
theorem d_L_law_1854 : decode code 1854 = .ok (.iconst 2, 1) := by decide +kernel
theorem d_L_law_1855 : decode code 1855 = .ok (.iadd, 1) := by decide +kernel
theorem d_L_law_1856 : decode code 1856 = .ok (.iaload, 1) := by decide +kernel
theorem d_L_law_1857 : decode code 1857 = .ok (.aload_n 0, 1) := by decide +kernel
theorem d_L_law_1858 : decode code 1858 = .ok (.iload_n 3, 1) := by decide +kernel
theorem d_L_law_1859 : decode code 1859 = .ok (.iconst 3, 1) := by decide +kernel
theorem d_L_law_1860 : decode code 1860 = .ok (.iadd, 1) := by decide +kernel
theorem d_L_law_1861 : decode code 1861 = .ok (.iaload, 1) := by decide +kernel
theorem d_L_law_1862 : decode code 1862 = .ok (.invokevirtual 209, 3) := by decide +kernel
theorem d_L_law_1865 : decode code 1865 = .ok (.if_icmp .eq 509, 3) := by decide +kernel
theorem d_L_law_1868 : decode code 1868 = .ok (.iconst 0, 1) := by decide +kernel
theorem d_L_law_1869 : decode code 1869 = .ok (.ireturn, 1) := by decide +kernel
theorem d_L_law_1870 : decode code 1870 = .ok (.aload_n 1, 1) := by decide +kernel
theorem d_L_law_1871 : decode code 1871 = .ok (.aload_n 0, 1) := by decide +kernel
theorem d_L_law_1872 : decode code 1872 = .ok (.iload_n 3, 1) := by decide +kernel
theorem d_L_law_1873 : decode code 1873 = .ok (.iconst 1, 1) := by decide +kernel
theorem d_L_law_1874 : decode code 1874 = .ok (.iadd, 1) := by decide +kernel
theorem d_L_law_1875 : decode code 1875 = .ok (.iaload, 1) := by decide +kernel
theorem d_L_law_1876 : decode code 1876 = .ok (.aload_n 0, 1) := by decide +kernel
theorem d_L_law_1877 : decode code 1877 = .ok (.iload_n 3, 1) := by decide +kernel
theorem d_L_law_1878 : decode code 1878 = .ok (.iconst 2, 1) := by decide +kernel
theorem d_L_law_1879 : decode code 1879 = .ok (.iadd, 1) := by decide +kernel
theorem d_L_law_1880 : decode code 1880 = .ok (.iaload, 1) := by decide +kernel
theorem d_L_law_1881 : decode code 1881 = .ok (.invokevirtual 210, 3) := by decide +kernel
theorem d_L_law_1884 : decode code 1884 = .ok (.aload_n 2, 1) := by decide +kernel
theorem d_L_law_1885 : decode code 1885 = .ok (.aload_n 0, 1) := by decide +kernel
theorem d_L_law_1886 : decode code 1886 = .ok (.iload_n 3, 1) := by decide +kernel
theorem d_L_law_1887 : decode code 1887 = .ok (.iconst 1, 1) := by decide +kernel
theorem d_L_law_1888 : decode code 1888 = .ok (.iadd, 1) := by decide +kernel
theorem d_L_law_1889 : decode code 1889 = .ok (.iaload, 1) := by decide +kernel
theorem d_L_law_1890 : decode code 1890 = .ok (.aload_n 0, 1) := by decide +kernel
theorem d_L_law_1891 : decode code 1891 = .ok (.iload_n 3, 1) := by decide +kernel
theorem d_L_law_1892 : decode code 1892 = .ok (.iconst 2, 1) := by decide +kernel
theorem d_L_law_1893 : decode code 1893 = .ok (.iadd, 1) := by decide +kernel
theorem d_L_law_1894 : decode code 1894 = .ok (.iaload, 1) := by decide +kernel
theorem d_L_law_1895 : decode code 1895 = .ok (.invokevirtual 213, 3) := by decide +kernel
theorem d_L_law_1898 : decode code 1898 = .ok (.if_icmp .eq 476, 3) := by decide +kernel
theorem d_L_law_1901 : decode code 1901 = .ok (.iconst 0, 1) := by decide +kernel
theorem d_L_law_1902 : decode code 1902 = .ok (.ireturn, 1) := by decide +kernel
theorem d_L_law_1903 : decode code 1903 = .ok (.aload_n 1, 1) := by decide +kernel
theorem d_L_law_1904 : decode code 1904 = .ok (.aload_n 0, 1) := by decide +kernel
theorem d_L_law_1905 : decode code 1905 = .ok (.iload_n 3, 1) := by decide +kernel
theorem d_L_law_1906 : decode code 1906 = .ok (.iconst 1, 1) := by decide +kernel
theorem d_L_law_1907 : decode code 1907 = .ok (.iadd, 1) := by decide +kernel
theorem d_L_law_1908 : decode code 1908 = .ok (.iaload, 1) := by decide +kernel
theorem d_L_law_1909 : decode code 1909 = .ok (.aload_n 0, 1) := by decide +kernel
theorem d_L_law_1910 : decode code 1910 = .ok (.iload_n 3, 1) := by decide +kernel
theorem d_L_law_1911 : decode code 1911 = .ok (.iconst 2, 1) := by decide +kernel
theorem d_L_law_1912 : decode code 1912 = .ok (.iadd, 1) := by decide +kernel
theorem d_L_law_1913 : decode code 1913 = .ok (.iaload, 1) := by decide +kernel
theorem d_L_law_1914 : decode code 1914 = .ok (.aload_n 0, 1) := by decide +kernel
theorem d_L_law_1915 : decode code 1915 = .ok (.iload_n 3, 1) := by decide +kernel
theorem d_L_law_1916 : decode code 1916 = .ok (.iconst 3, 1) := by decide +kernel
theorem d_L_law_1917 : decode code 1917 = .ok (.iadd, 1) := by decide +kernel
theorem d_L_law_1918 : decode code 1918 = .ok (.iaload, 1) := by decide +kernel
theorem d_L_law_1919 : decode code 1919 = .ok (.aload_n 0, 1) := by decide +kernel
theorem d_L_law_1920 : decode code 1920 = .ok (.iload_n 3, 1) := by decide +kernel
theorem d_L_law_1921 : decode code 1921 = .ok (.iconst 4, 1) := by decide +kernel
theorem d_L_law_1922 : decode code 1922 = .ok (.iadd, 1) := by decide +kernel
theorem d_L_law_1923 : decode code 1923 = .ok (.iaload, 1) := by decide +kernel
theorem d_L_law_1924 : decode code 1924 = .ok (.invokevirtual 214, 3) := by decide +kernel
theorem d_L_law_1927 : decode code 1927 = .ok (.aload_n 2, 1) := by decide +kernel
theorem d_L_law_1928 : decode code 1928 = .ok (.aload_n 0, 1) := by decide +kernel
theorem d_L_law_1929 : decode code 1929 = .ok (.iload_n 3, 1) := by decide +kernel
theorem d_L_law_1930 : decode code 1930 = .ok (.iconst 1, 1) := by decide +kernel
theorem d_L_law_1931 : decode code 1931 = .ok (.iadd, 1) := by decide +kernel
theorem d_L_law_1932 : decode code 1932 = .ok (.iaload, 1) := by decide +kernel
theorem d_L_law_1933 : decode code 1933 = .ok (.aload_n 0, 1) := by decide +kernel
theorem d_L_law_1934 : decode code 1934 = .ok (.iload_n 3, 1) := by decide +kernel
theorem d_L_law_1935 : decode code 1935 = .ok (.iconst 2, 1) := by decide +kernel
theorem d_L_law_1936 : decode code 1936 = .ok (.iadd, 1) := by decide +kernel
theorem d_L_law_1937 : decode code 1937 = .ok (.iaload, 1) := by decide +kernel
theorem d_L_law_1938 : decode code 1938 = .ok (.aload_n 0, 1) := by decide +kernel
theorem d_L_law_1939 : decode code 1939 = .ok (.iload_n 3, 1) := by decide +kernel
theorem d_L_law_1940 : decode code 1940 = .ok (.iconst 3, 1) := by decide +kernel
theorem d_L_law_1941 : decode code 1941 = .ok (.iadd, 1) := by decide +kernel
theorem d_L_law_1942 : decode code 1942 = .ok (.iaload, 1) := by decide +kernel
theorem d_L_law_1943 : decode code 1943 = .ok (.aload_n 0, 1) := by decide +kernel
theorem d_L_law_1944 : decode code 1944 = .ok (.iload_n 3, 1) := by decide +kernel
theorem d_L_law_1945 : decode code 1945 = .ok (.iconst 4, 1) := by decide +kernel
theorem d_L_law_1946 : decode code 1946 = .ok (.iadd, 1) := by decide +kernel
theorem d_L_law_1947 : decode code 1947 = .ok (.iaload, 1) := by decide +kernel
theorem d_L_law_1948 : decode code 1948 = .ok (.invokevirtual 218, 3) := by decide +kernel
theorem d_L_law_1951 : decode code 1951 = .ok (.if_icmp .eq 423, 3) := by decide +kernel
theorem d_L_law_1954 : decode code 1954 = .ok (.iconst 0, 1) := by decide +kernel
theorem d_L_law_1955 : decode code 1955 = .ok (.ireturn, 1) := by decide +kernel
theorem d_L_law_1956 : decode code 1956 = .ok (.aload_n 1, 1) := by decide +kernel
theorem d_L_law_1957 : decode code 1957 = .ok (.aload_n 0, 1) := by decide +kernel
theorem d_L_law_1958 : decode code 1958 = .ok (.iload_n 3, 1) := by decide +kernel
theorem d_L_law_1959 : decode code 1959 = .ok (.iconst 1, 1) := by decide +kernel
theorem d_L_law_1960 : decode code 1960 = .ok (.iadd, 1) := by decide +kernel
theorem d_L_law_1961 : decode code 1961 = .ok (.iaload, 1) := by decide +kernel
theorem d_L_law_1962 : decode code 1962 = .ok (.invokevirtual 219, 3) := by decide +kernel
theorem d_L_law_1965 : decode code 1965 = .ok (.aload_n 2, 1) := by decide +kernel
theorem d_L_law_1966 : decode code 1966 = .ok (.aload_n 0, 1) := by decide +kernel
theorem d_L_law_1967 : decode code 1967 = .ok (.iload_n 3, 1) := by decide +kernel
theorem d_L_law_1968 : decode code 1968 = .ok (.iconst 1, 1) := by decide +kernel
theorem d_L_law_1969 : decode code 1969 = .ok (.iadd, 1) := by decide +kernel
theorem d_L_law_1970 : decode code 1970 = .ok (.iaload, 1) := by decide +kernel
theorem d_L_law_1971 : decode code 1971 = .ok (.invokevirtual 222, 3) := by decide +kernel
theorem d_L_law_1974 : decode code 1974 = .ok (.if_icmp .eq 400, 3) := by decide +kernel
theorem d_L_law_1977 : decode code 1977 = .ok (.iconst 0, 1) := by decide +kernel
theorem d_L_law_1978 : decode code 1978 = .ok (.ireturn, 1) := by decide +kernel
theorem d_L_law_1979 : decode code 1979 = .ok (.aload_n 1, 1) := by decide +kernel
theorem d_L_law_1980 : decode code 1980 = .ok (.aload_n 0, 1) := by decide +kernel
theorem d_L_law_1981 : decode code 1981 = .ok (.iload_n 3, 1) := by decide +kernel
theorem d_L_law_1982 : decode code 1982 = .ok (.iconst 1, 1) := by decide +kernel
theorem d_L_law_1983 : decode code 1983 = .ok (.iadd, 1) := by decide +kernel
theorem d_L_law_1984 : decode code 1984 = .ok (.iaload, 1) := by decide +kernel
theorem d_L_law_1985 : decode code 1985 = .ok (.invokevirtual 223, 3) := by decide +kernel
theorem d_L_law_1988 : decode code 1988 = .ok (.aload_n 2, 1) := by decide +kernel
theorem d_L_law_1989 : decode code 1989 = .ok (.aload_n 0, 1) := by decide +kernel
theorem d_L_law_1990 : decode code 1990 = .ok (.iload_n 3, 1) := by decide +kernel
theorem d_L_law_1991 : decode code 1991 = .ok (.iconst 1, 1) := by decide +kernel
theorem d_L_law_1992 : decode code 1992 = .ok (.iadd, 1) := by decide +kernel
theorem d_L_law_1993 : decode code 1993 = .ok (.iaload, 1) := by decide +kernel
theorem d_L_law_1994 : decode code 1994 = .ok (.invokevirtual 226, 3) := by decide +kernel
theorem d_L_law_1997 : decode code 1997 = .ok (.if_icmp .eq 377, 3) := by decide +kernel
theorem d_L_law_2000 : decode code 2000 = .ok (.iconst 0, 1) := by decide +kernel
theorem d_L_law_2001 : decode code 2001 = .ok (.ireturn, 1) := by decide +kernel
theorem d_L_law_2002 : decode code 2002 = .ok (.aload_n 1, 1) := by decide +kernel
theorem d_L_law_2003 : decode code 2003 = .ok (.aload_n 0, 1) := by decide +kernel
theorem d_L_law_2004 : decode code 2004 = .ok (.iload_n 3, 1) := by decide +kernel
theorem d_L_law_2005 : decode code 2005 = .ok (.iconst 1, 1) := by decide +kernel
theorem d_L_law_2006 : decode code 2006 = .ok (.iadd, 1) := by decide +kernel
theorem d_L_law_2007 : decode code 2007 = .ok (.iaload, 1) := by decide +kernel
theorem d_L_law_2008 : decode code 2008 = .ok (.aload_n 0, 1) := by decide +kernel
theorem d_L_law_2009 : decode code 2009 = .ok (.iload_n 3, 1) := by decide +kernel
theorem d_L_law_2010 : decode code 2010 = .ok (.iconst 2, 1) := by decide +kernel
theorem d_L_law_2011 : decode code 2011 = .ok (.iadd, 1) := by decide +kernel
theorem d_L_law_2012 : decode code 2012 = .ok (.iaload, 1) := by decide +kernel
theorem d_L_law_2013 : decode code 2013 = .ok (.invokevirtual 227, 3) := by decide +kernel
theorem d_L_law_2016 : decode code 2016 = .ok (.aload_n 2, 1) := by decide +kernel
theorem d_L_law_2017 : decode code 2017 = .ok (.aload_n 0, 1) := by decide +kernel
theorem d_L_law_2018 : decode code 2018 = .ok (.iload_n 3, 1) := by decide +kernel
theorem d_L_law_2019 : decode code 2019 = .ok (.iconst 1, 1) := by decide +kernel
theorem d_L_law_2020 : decode code 2020 = .ok (.iadd, 1) := by decide +kernel
theorem d_L_law_2021 : decode code 2021 = .ok (.iaload, 1) := by decide +kernel
theorem d_L_law_2022 : decode code 2022 = .ok (.aload_n 0, 1) := by decide +kernel
theorem d_L_law_2023 : decode code 2023 = .ok (.iload_n 3, 1) := by decide +kernel
theorem d_L_law_2024 : decode code 2024 = .ok (.iconst 2, 1) := by decide +kernel
theorem d_L_law_2025 : decode code 2025 = .ok (.iadd, 1) := by decide +kernel
theorem d_L_law_2026 : decode code 2026 = .ok (.iaload, 1) := by decide +kernel
theorem d_L_law_2027 : decode code 2027 = .ok (.invokevirtual 230, 3) := by decide +kernel
theorem d_L_law_2030 : decode code 2030 = .ok (.lcmp, 1) := by decide +kernel
theorem d_L_law_2031 : decode code 2031 = .ok (.ifCond .eq 343, 3) := by decide +kernel
theorem d_L_law_2034 : decode code 2034 = .ok (.iconst 0, 1) := by decide +kernel
theorem d_L_law_2035 : decode code 2035 = .ok (.ireturn, 1) := by decide +kernel
theorem d_L_law_2036 : decode code 2036 = .ok (.aload_n 1, 1) := by decide +kernel
theorem d_L_law_2037 : decode code 2037 = .ok (.aload_n 0, 1) := by decide +kernel
theorem d_L_law_2038 : decode code 2038 = .ok (.iload_n 3, 1) := by decide +kernel
theorem d_L_law_2039 : decode code 2039 = .ok (.iconst 1, 1) := by decide +kernel
theorem d_L_law_2040 : decode code 2040 = .ok (.iadd, 1) := by decide +kernel
theorem d_L_law_2041 : decode code 2041 = .ok (.iaload, 1) := by decide +kernel
theorem d_L_law_2042 : decode code 2042 = .ok (.aload_n 0, 1) := by decide +kernel
theorem d_L_law_2043 : decode code 2043 = .ok (.iload_n 3, 1) := by decide +kernel
theorem d_L_law_2044 : decode code 2044 = .ok (.iconst 2, 1) := by decide +kernel
theorem d_L_law_2045 : decode code 2045 = .ok (.iadd, 1) := by decide +kernel
theorem d_L_law_2046 : decode code 2046 = .ok (.iaload, 1) := by decide +kernel
theorem d_L_law_2047 : decode code 2047 = .ok (.invokevirtual 231, 3) := by decide +kernel
theorem d_L_law_2050 : decode code 2050 = .ok (.aload_n 2, 1) := by decide +kernel
theorem d_L_law_2051 : decode code 2051 = .ok (.aload_n 0, 1) := by decide +kernel
theorem d_L_law_2052 : decode code 2052 = .ok (.iload_n 3, 1) := by decide +kernel
theorem d_L_law_2053 : decode code 2053 = .ok (.iconst 1, 1) := by decide +kernel
theorem d_L_law_2054 : decode code 2054 = .ok (.iadd, 1) := by decide +kernel
theorem d_L_law_2055 : decode code 2055 = .ok (.iaload, 1) := by decide +kernel
theorem d_L_law_2056 : decode code 2056 = .ok (.aload_n 0, 1) := by decide +kernel
theorem d_L_law_2057 : decode code 2057 = .ok (.iload_n 3, 1) := by decide +kernel
theorem d_L_law_2058 : decode code 2058 = .ok (.iconst 2, 1) := by decide +kernel
theorem d_L_law_2059 : decode code 2059 = .ok (.iadd, 1) := by decide +kernel
theorem d_L_law_2060 : decode code 2060 = .ok (.iaload, 1) := by decide +kernel
theorem d_L_law_2061 : decode code 2061 = .ok (.invokevirtual 234, 3) := by decide +kernel
theorem d_L_law_2064 : decode code 2064 = .ok (.lcmp, 1) := by decide +kernel
theorem d_L_law_2065 : decode code 2065 = .ok (.ifCond .eq 309, 3) := by decide +kernel
theorem d_L_law_2068 : decode code 2068 = .ok (.iconst 0, 1) := by decide +kernel
theorem d_L_law_2069 : decode code 2069 = .ok (.ireturn, 1) := by decide +kernel
theorem d_L_law_2070 : decode code 2070 = .ok (.aload_n 1, 1) := by decide +kernel
theorem d_L_law_2071 : decode code 2071 = .ok (.aload_n 0, 1) := by decide +kernel
theorem d_L_law_2072 : decode code 2072 = .ok (.iload_n 3, 1) := by decide +kernel
theorem d_L_law_2073 : decode code 2073 = .ok (.iconst 1, 1) := by decide +kernel
theorem d_L_law_2074 : decode code 2074 = .ok (.iadd, 1) := by decide +kernel
theorem d_L_law_2075 : decode code 2075 = .ok (.iaload, 1) := by decide +kernel
theorem d_L_law_2076 : decode code 2076 = .ok (.aload_n 0, 1) := by decide +kernel
theorem d_L_law_2077 : decode code 2077 = .ok (.iload_n 3, 1) := by decide +kernel
theorem d_L_law_2078 : decode code 2078 = .ok (.iconst 2, 1) := by decide +kernel
theorem d_L_law_2079 : decode code 2079 = .ok (.iadd, 1) := by decide +kernel
theorem d_L_law_2080 : decode code 2080 = .ok (.iaload, 1) := by decide +kernel
theorem d_L_law_2081 : decode code 2081 = .ok (.aload_n 0, 1) := by decide +kernel
theorem d_L_law_2082 : decode code 2082 = .ok (.iload_n 3, 1) := by decide +kernel
theorem d_L_law_2083 : decode code 2083 = .ok (.iconst 3, 1) := by decide +kernel
theorem d_L_law_2084 : decode code 2084 = .ok (.iadd, 1) := by decide +kernel
theorem d_L_law_2085 : decode code 2085 = .ok (.iaload, 1) := by decide +kernel
theorem d_L_law_2086 : decode code 2086 = .ok (.aload_n 0, 1) := by decide +kernel
theorem d_L_law_2087 : decode code 2087 = .ok (.iload_n 3, 1) := by decide +kernel
theorem d_L_law_2088 : decode code 2088 = .ok (.iconst 4, 1) := by decide +kernel
theorem d_L_law_2089 : decode code 2089 = .ok (.iadd, 1) := by decide +kernel
theorem d_L_law_2090 : decode code 2090 = .ok (.iaload, 1) := by decide +kernel
theorem d_L_law_2091 : decode code 2091 = .ok (.aload_n 0, 1) := by decide +kernel
theorem d_L_law_2092 : decode code 2092 = .ok (.iload_n 3, 1) := by decide +kernel
theorem d_L_law_2093 : decode code 2093 = .ok (.iconst 5, 1) := by decide +kernel
theorem d_L_law_2094 : decode code 2094 = .ok (.iadd, 1) := by decide +kernel
theorem d_L_law_2095 : decode code 2095 = .ok (.iaload, 1) := by decide +kernel
theorem d_L_law_2096 : decode code 2096 = .ok (.invokevirtual 235, 3) := by decide +kernel
theorem d_L_law_2099 : decode code 2099 = .ok (.aload_n 2, 1) := by decide +kernel
theorem d_L_law_2100 : decode code 2100 = .ok (.aload_n 0, 1) := by decide +kernel
theorem d_L_law_2101 : decode code 2101 = .ok (.iload_n 3, 1) := by decide +kernel
theorem d_L_law_2102 : decode code 2102 = .ok (.iconst 1, 1) := by decide +kernel
theorem d_L_law_2103 : decode code 2103 = .ok (.iadd, 1) := by decide +kernel
theorem d_L_law_2104 : decode code 2104 = .ok (.iaload, 1) := by decide +kernel
theorem d_L_law_2105 : decode code 2105 = .ok (.aload_n 0, 1) := by decide +kernel
theorem d_L_law_2106 : decode code 2106 = .ok (.iload_n 3, 1) := by decide +kernel
theorem d_L_law_2107 : decode code 2107 = .ok (.iconst 2, 1) := by decide +kernel
theorem d_L_law_2108 : decode code 2108 = .ok (.iadd, 1) := by decide +kernel
theorem d_L_law_2109 : decode code 2109 = .ok (.iaload, 1) := by decide +kernel
theorem d_L_law_2110 : decode code 2110 = .ok (.aload_n 0, 1) := by decide +kernel
theorem d_L_law_2111 : decode code 2111 = .ok (.iload_n 3, 1) := by decide +kernel
theorem d_L_law_2112 : decode code 2112 = .ok (.iconst 3, 1) := by decide +kernel
theorem d_L_law_2113 : decode code 2113 = .ok (.iadd, 1) := by decide +kernel
theorem d_L_law_2114 : decode code 2114 = .ok (.iaload, 1) := by decide +kernel
theorem d_L_law_2115 : decode code 2115 = .ok (.aload_n 0, 1) := by decide +kernel
theorem d_L_law_2116 : decode code 2116 = .ok (.iload_n 3, 1) := by decide +kernel
theorem d_L_law_2117 : decode code 2117 = .ok (.iconst 4, 1) := by decide +kernel
theorem d_L_law_2118 : decode code 2118 = .ok (.iadd, 1) := by decide +kernel
theorem d_L_law_2119 : decode code 2119 = .ok (.iaload, 1) := by decide +kernel
theorem d_L_law_2120 : decode code 2120 = .ok (.aload_n 0, 1) := by decide +kernel
theorem d_L_law_2121 : decode code 2121 = .ok (.iload_n 3, 1) := by decide +kernel
theorem d_L_law_2122 : decode code 2122 = .ok (.iconst 5, 1) := by decide +kernel
theorem d_L_law_2123 : decode code 2123 = .ok (.iadd, 1) := by decide +kernel
theorem d_L_law_2124 : decode code 2124 = .ok (.iaload, 1) := by decide +kernel
theorem d_L_law_2125 : decode code 2125 = .ok (.invokevirtual 239, 3) := by decide +kernel
theorem d_L_law_2128 : decode code 2128 = .ok (.if_icmp .eq 246, 3) := by decide +kernel
theorem d_L_law_2131 : decode code 2131 = .ok (.iconst 0, 1) := by decide +kernel
theorem d_L_law_2132 : decode code 2132 = .ok (.ireturn, 1) := by decide +kernel
theorem d_L_law_2133 : decode code 2133 = .ok (.aload_n 1, 1) := by decide +kernel
theorem d_L_law_2134 : decode code 2134 = .ok (.aload_n 0, 1) := by decide +kernel
theorem d_L_law_2135 : decode code 2135 = .ok (.iload_n 3, 1) := by decide +kernel
theorem d_L_law_2136 : decode code 2136 = .ok (.iconst 1, 1) := by decide +kernel
theorem d_L_law_2137 : decode code 2137 = .ok (.iadd, 1) := by decide +kernel
theorem d_L_law_2138 : decode code 2138 = .ok (.iaload, 1) := by decide +kernel
theorem d_L_law_2139 : decode code 2139 = .ok (.invokevirtual 240, 3) := by decide +kernel
theorem d_L_law_2142 : decode code 2142 = .ok (.aload_n 2, 1) := by decide +kernel
theorem d_L_law_2143 : decode code 2143 = .ok (.aload_n 0, 1) := by decide +kernel
theorem d_L_law_2144 : decode code 2144 = .ok (.iload_n 3, 1) := by decide +kernel
theorem d_L_law_2145 : decode code 2145 = .ok (.iconst 1, 1) := by decide +kernel
theorem d_L_law_2146 : decode code 2146 = .ok (.iadd, 1) := by decide +kernel
theorem d_L_law_2147 : decode code 2147 = .ok (.iaload, 1) := by decide +kernel
theorem d_L_law_2148 : decode code 2148 = .ok (.invokevirtual 243, 3) := by decide +kernel
theorem d_L_law_2151 : decode code 2151 = .ok (.if_icmp .eq 223, 3) := by decide +kernel
theorem d_L_law_2154 : decode code 2154 = .ok (.iconst 0, 1) := by decide +kernel
theorem d_L_law_2155 : decode code 2155 = .ok (.ireturn, 1) := by decide +kernel
theorem d_L_law_2156 : decode code 2156 = .ok (.aload_n 1, 1) := by decide +kernel
theorem d_L_law_2157 : decode code 2157 = .ok (.aload_n 0, 1) := by decide +kernel
theorem d_L_law_2158 : decode code 2158 = .ok (.iload_n 3, 1) := by decide +kernel
theorem d_L_law_2159 : decode code 2159 = .ok (.iconst 1, 1) := by decide +kernel
theorem d_L_law_2160 : decode code 2160 = .ok (.iadd, 1) := by decide +kernel
theorem d_L_law_2161 : decode code 2161 = .ok (.iaload, 1) := by decide +kernel
theorem d_L_law_2162 : decode code 2162 = .ok (.invokevirtual 244, 3) := by decide +kernel
theorem d_L_law_2165 : decode code 2165 = .ok (.aload_n 2, 1) := by decide +kernel
theorem d_L_law_2166 : decode code 2166 = .ok (.aload_n 0, 1) := by decide +kernel
theorem d_L_law_2167 : decode code 2167 = .ok (.iload_n 3, 1) := by decide +kernel
theorem d_L_law_2168 : decode code 2168 = .ok (.iconst 1, 1) := by decide +kernel
theorem d_L_law_2169 : decode code 2169 = .ok (.iadd, 1) := by decide +kernel
theorem d_L_law_2170 : decode code 2170 = .ok (.iaload, 1) := by decide +kernel
theorem d_L_law_2171 : decode code 2171 = .ok (.invokevirtual 247, 3) := by decide +kernel
theorem d_L_law_2174 : decode code 2174 = .ok (.if_icmp .eq 200, 3) := by decide +kernel
theorem d_L_law_2177 : decode code 2177 = .ok (.iconst 0, 1) := by decide +kernel
theorem d_L_law_2178 : decode code 2178 = .ok (.ireturn, 1) := by decide +kernel
theorem d_L_law_2179 : decode code 2179 = .ok (.aload_n 1, 1) := by decide +kernel
theorem d_L_law_2180 : decode code 2180 = .ok (.aload_n 0, 1) := by decide +kernel
theorem d_L_law_2181 : decode code 2181 = .ok (.iload_n 3, 1) := by decide +kernel
theorem d_L_law_2182 : decode code 2182 = .ok (.iconst 1, 1) := by decide +kernel
theorem d_L_law_2183 : decode code 2183 = .ok (.iadd, 1) := by decide +kernel
theorem d_L_law_2184 : decode code 2184 = .ok (.iaload, 1) := by decide +kernel
theorem d_L_law_2185 : decode code 2185 = .ok (.invokevirtual 248, 3) := by decide +kernel
theorem d_L_law_2188 : decode code 2188 = .ok (.aload_n 2, 1) := by decide +kernel
theorem d_L_law_2189 : decode code 2189 = .ok (.aload_n 0, 1) := by decide +kernel
theorem d_L_law_2190 : decode code 2190 = .ok (.iload_n 3, 1) := by decide +kernel
theorem d_L_law_2191 : decode code 2191 = .ok (.iconst 1, 1) := by decide +kernel
theorem d_L_law_2192 : decode code 2192 = .ok (.iadd, 1) := by decide +kernel
theorem d_L_law_2193 : decode code 2193 = .ok (.iaload, 1) := by decide +kernel
theorem d_L_law_2194 : decode code 2194 = .ok (.invokevirtual 251, 3) := by decide +kernel
theorem d_L_law_2197 : decode code 2197 = .ok (.if_icmp .eq 177, 3) := by decide +kernel
theorem d_L_law_2200 : decode code 2200 = .ok (.iconst 0, 1) := by decide +kernel
theorem d_L_law_2201 : decode code 2201 = .ok (.ireturn, 1) := by decide +kernel
theorem d_L_law_2202 : decode code 2202 = .ok (.aload_n 1, 1) := by decide +kernel
theorem d_L_law_2203 : decode code 2203 = .ok (.invokevirtual 252, 3) := by decide +kernel
theorem d_L_law_2206 : decode code 2206 = .ok (.aload_n 2, 1) := by decide +kernel
theorem d_L_law_2207 : decode code 2207 = .ok (.invokevirtual 256, 3) := by decide +kernel
theorem d_L_law_2210 : decode code 2210 = .ok (.lcmp, 1) := by decide +kernel
theorem d_L_law_2211 : decode code 2211 = .ok (.ifCond .eq 163, 3) := by decide +kernel
theorem d_L_law_2214 : decode code 2214 = .ok (.iconst 0, 1) := by decide +kernel
theorem d_L_law_2215 : decode code 2215 = .ok (.ireturn, 1) := by decide +kernel
theorem d_L_law_2216 : decode code 2216 = .ok (.aload_n 1, 1) := by decide +kernel
theorem d_L_law_2217 : decode code 2217 = .ok (.invokevirtual 257, 3) := by decide +kernel
theorem d_L_law_2220 : decode code 2220 = .ok (.aload_n 2, 1) := by decide +kernel
theorem d_L_law_2221 : decode code 2221 = .ok (.invokevirtual 260, 3) := by decide +kernel
theorem d_L_law_2224 : decode code 2224 = .ok (.lcmp, 1) := by decide +kernel
theorem d_L_law_2225 : decode code 2225 = .ok (.ifCond .eq 149, 3) := by decide +kernel
theorem d_L_law_2228 : decode code 2228 = .ok (.iconst 0, 1) := by decide +kernel
theorem d_L_law_2229 : decode code 2229 = .ok (.ireturn, 1) := by decide +kernel
theorem d_L_law_2230 : decode code 2230 = .ok (.aload_n 1, 1) := by decide +kernel
theorem d_L_law_2231 : decode code 2231 = .ok (.aload_n 0, 1) := by decide +kernel
theorem d_L_law_2232 : decode code 2232 = .ok (.iload_n 3, 1) := by decide +kernel
theorem d_L_law_2233 : decode code 2233 = .ok (.iconst 1, 1) := by decide +kernel
theorem d_L_law_2234 : decode code 2234 = .ok (.iadd, 1) := by decide +kernel
theorem d_L_law_2235 : decode code 2235 = .ok (.iaload, 1) := by decide +kernel
theorem d_L_law_2236 : decode code 2236 = .ok (.invokevirtual 261, 3) := by decide +kernel
theorem d_L_law_2239 : decode code 2239 = .ok (.aload_n 2, 1) := by decide +kernel
theorem d_L_law_2240 : decode code 2240 = .ok (.aload_n 0, 1) := by decide +kernel
theorem d_L_law_2241 : decode code 2241 = .ok (.iload_n 3, 1) := by decide +kernel
theorem d_L_law_2242 : decode code 2242 = .ok (.iconst 1, 1) := by decide +kernel
theorem d_L_law_2243 : decode code 2243 = .ok (.iadd, 1) := by decide +kernel
theorem d_L_law_2244 : decode code 2244 = .ok (.iaload, 1) := by decide +kernel
theorem d_L_law_2245 : decode code 2245 = .ok (.invokevirtual 264, 3) := by decide +kernel
theorem d_L_law_2248 : decode code 2248 = .ok (.if_icmp .eq 126, 3) := by decide +kernel
theorem d_L_law_2251 : decode code 2251 = .ok (.iconst 0, 1) := by decide +kernel
theorem d_L_law_2252 : decode code 2252 = .ok (.ireturn, 1) := by decide +kernel
theorem d_L_law_2253 : decode code 2253 = .ok (.aload_n 1, 1) := by decide +kernel
theorem d_L_law_2254 : decode code 2254 = .ok (.aload_n 0, 1) := by decide +kernel
theorem d_L_law_2255 : decode code 2255 = .ok (.iload_n 3, 1) := by decide +kernel
theorem d_L_law_2256 : decode code 2256 = .ok (.iconst 1, 1) := by decide +kernel
theorem d_L_law_2257 : decode code 2257 = .ok (.iadd, 1) := by decide +kernel
theorem d_L_law_2258 : decode code 2258 = .ok (.iaload, 1) := by decide +kernel
theorem d_L_law_2259 : decode code 2259 = .ok (.invokevirtual 265, 3) := by decide +kernel
theorem d_L_law_2262 : decode code 2262 = .ok (.aload_n 2, 1) := by decide +kernel
theorem d_L_law_2263 : decode code 2263 = .ok (.aload_n 0, 1) := by decide +kernel
theorem d_L_law_2264 : decode code 2264 = .ok (.iload_n 3, 1) := by decide +kernel
theorem d_L_law_2265 : decode code 2265 = .ok (.iconst 1, 1) := by decide +kernel
theorem d_L_law_2266 : decode code 2266 = .ok (.iadd, 1) := by decide +kernel
theorem d_L_law_2267 : decode code 2267 = .ok (.iaload, 1) := by decide +kernel
theorem d_L_law_2268 : decode code 2268 = .ok (.invokevirtual 268, 3) := by decide +kernel
theorem d_L_law_2271 : decode code 2271 = .ok (.if_icmp .eq 103, 3) := by decide +kernel
theorem d_L_law_2274 : decode code 2274 = .ok (.iconst 0, 1) := by decide +kernel
theorem d_L_law_2275 : decode code 2275 = .ok (.ireturn, 1) := by decide +kernel
theorem d_L_law_2276 : decode code 2276 = .ok (.aload_n 1, 1) := by decide +kernel
theorem d_L_law_2277 : decode code 2277 = .ok (.invokevirtual 269, 3) := by decide +kernel
theorem d_L_law_2280 : decode code 2280 = .ok (.aload_n 2, 1) := by decide +kernel
theorem d_L_law_2281 : decode code 2281 = .ok (.invokevirtual 272, 3) := by decide +kernel
theorem d_L_law_2284 : decode code 2284 = .ok (.if_icmp .eq 90, 3) := by decide +kernel
theorem d_L_law_2287 : decode code 2287 = .ok (.iconst 0, 1) := by decide +kernel
theorem d_L_law_2288 : decode code 2288 = .ok (.ireturn, 1) := by decide +kernel
theorem d_L_law_2289 : decode code 2289 = .ok (.aload_n 1, 1) := by decide +kernel
theorem d_L_law_2290 : decode code 2290 = .ok (.invokevirtual 273, 3) := by decide +kernel
theorem d_L_law_2293 : decode code 2293 = .ok (.aload_n 2, 1) := by decide +kernel
theorem d_L_law_2294 : decode code 2294 = .ok (.invokevirtual 276, 3) := by decide +kernel
theorem d_L_law_2297 : decode code 2297 = .ok (.if_icmp .eq 77, 3) := by decide +kernel
theorem d_L_law_2300 : decode code 2300 = .ok (.iconst 0, 1) := by decide +kernel
theorem d_L_law_2301 : decode code 2301 = .ok (.ireturn, 1) := by decide +kernel
theorem d_L_law_2302 : decode code 2302 = .ok (.aload_n 1, 1) := by decide +kernel
theorem d_L_law_2303 : decode code 2303 = .ok (.aload_n 0, 1) := by decide +kernel
theorem d_L_law_2304 : decode code 2304 = .ok (.iload_n 3, 1) := by decide +kernel
theorem d_L_law_2305 : decode code 2305 = .ok (.iconst 1, 1) := by decide +kernel
theorem d_L_law_2306 : decode code 2306 = .ok (.iadd, 1) := by decide +kernel
theorem d_L_law_2307 : decode code 2307 = .ok (.iaload, 1) := by decide +kernel
theorem d_L_law_2308 : decode code 2308 = .ok (.invokevirtual 277, 3) := by decide +kernel
theorem d_L_law_2311 : decode code 2311 = .ok (.aload_n 2, 1) := by decide +kernel
theorem d_L_law_2312 : decode code 2312 = .ok (.aload_n 0, 1) := by decide +kernel
theorem d_L_law_2313 : decode code 2313 = .ok (.iload_n 3, 1) := by decide +kernel
theorem d_L_law_2314 : decode code 2314 = .ok (.iconst 1, 1) := by decide +kernel
theorem d_L_law_2315 : decode code 2315 = .ok (.iadd, 1) := by decide +kernel
theorem d_L_law_2316 : decode code 2316 = .ok (.iaload, 1) := by decide +kernel
theorem d_L_law_2317 : decode code 2317 = .ok (.invokevirtual 280, 3) := by decide +kernel
theorem d_L_law_2320 : decode code 2320 = .ok (.if_icmp .eq 54, 3) := by decide +kernel
theorem d_L_law_2323 : decode code 2323 = .ok (.iconst 0, 1) := by decide +kernel
theorem d_L_law_2324 : decode code 2324 = .ok (.ireturn, 1) := by decide +kernel
theorem d_L_law_2325 : decode code 2325 = .ok (.aload_n 1, 1) := by decide +kernel
theorem d_L_law_2326 : decode code 2326 = .ok (.aload_n 0, 1) := by decide +kernel
theorem d_L_law_2327 : decode code 2327 = .ok (.iload_n 3, 1) := by decide +kernel
theorem d_L_law_2328 : decode code 2328 = .ok (.iconst 1, 1) := by decide +kernel
theorem d_L_law_2329 : decode code 2329 = .ok (.iadd, 1) := by decide +kernel
theorem d_L_law_2330 : decode code 2330 = .ok (.iaload, 1) := by decide +kernel
theorem d_L_law_2331 : decode code 2331 = .ok (.invokevirtual 281, 3) := by decide +kernel
theorem d_L_law_2334 : decode code 2334 = .ok (.aload_n 2, 1) := by decide +kernel
theorem d_L_law_2335 : decode code 2335 = .ok (.aload_n 0, 1) := by decide +kernel
theorem d_L_law_2336 : decode code 2336 = .ok (.iload_n 3, 1) := by decide +kernel
theorem d_L_law_2337 : decode code 2337 = .ok (.iconst 1, 1) := by decide +kernel
theorem d_L_law_2338 : decode code 2338 = .ok (.iadd, 1) := by decide +kernel
theorem d_L_law_2339 : decode code 2339 = .ok (.iaload, 1) := by decide +kernel
theorem d_L_law_2340 : decode code 2340 = .ok (.invokevirtual 284, 3) := by decide +kernel
theorem d_L_law_2343 : decode code 2343 = .ok (.if_icmp .eq 31, 3) := by decide +kernel
theorem d_L_law_2346 : decode code 2346 = .ok (.iconst 0, 1) := by decide +kernel
theorem d_L_law_2347 : decode code 2347 = .ok (.ireturn, 1) := by decide +kernel
theorem d_L_law_2348 : decode code 2348 = .ok (.aload_n 1, 1) := by decide +kernel
theorem d_L_law_2349 : decode code 2349 = .ok (.invokevirtual 285, 3) := by decide +kernel
theorem d_L_law_2352 : decode code 2352 = .ok (.aload_n 2, 1) := by decide +kernel
theorem d_L_law_2353 : decode code 2353 = .ok (.invokevirtual 288, 3) := by decide +kernel
theorem d_L_law_2356 : decode code 2356 = .ok (.if_icmp .eq 18, 3) := by decide +kernel
theorem d_L_law_2359 : decode code 2359 = .ok (.iconst 0, 1) := by decide +kernel
theorem d_L_law_2360 : decode code 2360 = .ok (.ireturn, 1) := by decide +kernel
theorem d_L_law_2361 : decode code 2361 = .ok (.aload_n 1, 1) := by decide +kernel
theorem d_L_law_2362 : decode code 2362 = .ok (.invokevirtual 289, 3) := by decide +kernel
theorem d_L_law_2365 : decode code 2365 = .ok (.aload_n 2, 1) := by decide +kernel
theorem d_L_law_2366 : decode code 2366 = .ok (.invokevirtual 292, 3) := by decide +kernel
theorem d_L_law_2369 : decode code 2369 = .ok (.if_icmp .eq 5, 3) := by decide +kernel
theorem d_L_law_2372 : decode code 2372 = .ok (.iconst 0, 1) := by decide +kernel
theorem d_L_law_2373 : decode code 2373 = .ok (.ireturn, 1) := by decide +kernel
theorem d_L_law_2374 : decode code 2374 = .ok (.iinc 3 6, 3) := by decide +kernel
theorem d_L_law_2377 : decode code 2377 = .ok (.goto (-2359), 3) := by decide +kernel
theorem d_L_law_2380 : decode code 2380 = .ok (.iconst 1, 1) := by decide +kernel
theorem d_L_law_2381 : decode code 2381 = .ok (.ireturn, 1) := by decide +kernel
theorem v_L_law_0 {E : EE} {d : Nat} {Q : Option AV → AH → Prop}  {G : AH} (h0 : 0 < d) (h : eB E ≤ gT G ∧ (∀ G4 : AH, G4 = nw G 11 0 12 → wpV E (d - 1) M_X11_init [vr (gT G)] G4 (fun G7 => eB E ≤ gT G7 ∧ (∀ G11 : AH, G11 = nw G7 12 0 95 → wpV E (d - 1) M_X12_init [vr (gT G7)] G11 (fun G14 => wp E d M_L_law 18 [some (vs (eS E).1), some (vr (gT G)), some (vr (gT G7)), some (vi 0)] [] G14 Q))))) : wp E d M_L_law 0 [some (vs (eS E).1), none, none, none] [] G Q := by
  obtain ⟨hb1, h⟩ := h
  refine wp_new (pc := 0) (c := 11) (r := (cn_11, ct_11, 12)) d_L_law_0 rfl cx_L_7 it_11 ii_11 ?_
  refine wp_nm (fun G4 eG4 => ?_)
  have h := h G4 eG4
  have hb5 := base_nwE eG4 hb1
  have ho6 := isO_newE eG4 hb1
  refine wp_dup (pc := 3) d_L_law_3 (c1_r _) ?_
  refine wp_invI (pc := 4) (N := M_X11_init) (As := []) (rest := [vr _]) d_L_law_4 ml_L_9 mk_X11_init mi_X11_init h0 ho6 (Nat.le_of_ble_eq_true rfl) ?_
  refine wpM.mono h (fun rr G7 hr => ?_)
  obtain ⟨rfl, h⟩ := hr
  show wp E d M_L_law 7 [some (vs (eS E).1), none, none, none] [vr _] G7 Q
  refine wp_astore_n (pc := 7) (lv' := [some (vs (eS E).1), some (vr _), none, none]) d_L_law_7 (by decide) rfl ?_
  obtain ⟨hb8, h⟩ := h
  refine wp_new (pc := 8) (c := 12) (r := (cn_12, ct_12, 95)) d_L_law_8 rfl cx_L_10 it_12 ii_12 ?_
  refine wp_nm (fun G11 eG11 => ?_)
  have h := h G11 eG11
  have hb12 := base_nwE eG11 hb8
  have ho13 := isO_newE eG11 hb8
  refine wp_dup (pc := 11) d_L_law_11 (c1_r _) ?_
  refine wp_invI (pc := 12) (N := M_X12_init) (As := []) (rest := [vr _]) d_L_law_12 ml_L_12 mk_X12_init mi_X12_init h0 ho13 (Nat.le_of_ble_eq_true rfl) ?_
  refine wpM.mono h (fun rr G14 hr => ?_)
  obtain ⟨rfl, h⟩ := hr
  show wp E d M_L_law 15 [some (vs (eS E).1), some (vr _), none, none] [vr _] G14 Q
  refine wp_astore_n (pc := 15) (lv' := [some (vs (eS E).1), some (vr _), some (vr _), none]) d_L_law_15 (by decide) rfl ?_
  refine wp_iconst (pc := 16) (v := 0) d_L_law_16 rfl ?_
  refine wp_istore_n (pc := 17) (lv' := [some (vs (eS E).1), some (vr _), some (vr _), some (vi _)]) d_L_law_17 (by decide) rfl ?_
  refine wp_sub ?_ h
  exact ⟨rfl, ⟨rfl, ⟨rfl, ⟨rfl, trivial⟩⟩⟩⟩
theorem v_L_law_18 {E : EE} {d : Nat} {Q : Option AV → AH → Prop} {x1 : Nat} {x2 : Nat} {x3 : Int32} {G : AH} (h : (((nI (eS E).2.1) - 6) < x3 → Q (some (vi 1)) G) ∧ (¬ (((nI (eS E).2.1) - 6) < x3) → vp_in x3 (eS E).2.1 ∧ (((((eS E).2.2 (Int32.toNatClampNeg x3)) &&& 127) = 0 → wp E d M_L_law 308 [some (vs (eS E).1), some (vr x1), some (vr x2), some (vi x3)] [] G Q) ∧ (((((eS E).2.2 (Int32.toNatClampNeg x3)) &&& 127) = 1 → wp E d M_L_law 371 [some (vs (eS E).1), some (vr x1), some (vr x2), some (vi x3)] [] G Q) ∧ (((((eS E).2.2 (Int32.toNatClampNeg x3)) &&& 127) = 2 → wp E d M_L_law 394 [some (vs (eS E).1), some (vr x1), some (vr x2), some (vi x3)] [] G Q) ∧ (((((eS E).2.2 (Int32.toNatClampNeg x3)) &&& 127) = 3 → wp E d M_L_law 427 [some (vs (eS E).1), some (vr x1), some (vr x2), some (vi x3)] [] G Q) ∧ (((((eS E).2.2 (Int32.toNatClampNeg x3)) &&& 127) = 4 → wp E d M_L_law 450 [some (vs (eS E).1), some (vr x1), some (vr x2), some (vi x3)] [] G Q) ∧ (((((eS E).2.2 (Int32.toNatClampNeg x3)) &&& 127) = 5 → wp E d M_L_law 463 [some (vs (eS E).1), some (vr x1), some (vr x2), some (vi x3)] [] G Q) ∧ (((((eS E).2.2 (Int32.toNatClampNeg x3)) &&& 127) = 6 → wp E d M_L_law 476 [some (vs (eS E).1), some (vr x1), some (vr x2), some (vi x3)] [] G Q) ∧ (((((eS E).2.2 (Int32.toNatClampNeg x3)) &&& 127) = 7 → wp E d M_L_law 499 [some (vs (eS E).1), some (vr x1), some (vr x2), some (vi x3)] [] G Q) ∧ (((((eS E).2.2 (Int32.toNatClampNeg x3)) &&& 127) = 8 → wp E d M_L_law 532 [some (vs (eS E).1), some (vr x1), some (vr x2), some (vi x3)] [] G Q) ∧ (((((eS E).2.2 (Int32.toNatClampNeg x3)) &&& 127) = 9 → wp E d M_L_law 555 [some (vs (eS E).1), some (vr x1), some (vr x2), some (vi x3)] [] G Q) ∧ (((((eS E).2.2 (Int32.toNatClampNeg x3)) &&& 127) = 10 → wp E d M_L_law 608 [some (vs (eS E).1), some (vr x1), some (vr x2), some (vi x3)] [] G Q) ∧ (((((eS E).2.2 (Int32.toNatClampNeg x3)) &&& 127) = 11 → wp E d M_L_law 651 [some (vs (eS E).1), some (vr x1), some (vr x2), some (vi x3)] [] G Q) ∧ (((((eS E).2.2 (Int32.toNatClampNeg x3)) &&& 127) = 12 → wp E d M_L_law 695 [some (vs (eS E).1), some (vr x1), some (vr x2), some (vi x3)] [] G Q) ∧ (((((eS E).2.2 (Int32.toNatClampNeg x3)) &&& 127) = 13 → wp E d M_L_law 738 [some (vs (eS E).1), some (vr x1), some (vr x2), some (vi x3)] [] G Q) ∧ (((((eS E).2.2 (Int32.toNatClampNeg x3)) &&& 127) = 14 → wp E d M_L_law 772 [some (vs (eS E).1), some (vr x1), some (vr x2), some (vi x3)] [] G Q) ∧ (((((eS E).2.2 (Int32.toNatClampNeg x3)) &&& 127) = 15 → wp E d M_L_law 815 [some (vs (eS E).1), some (vr x1), some (vr x2), some (vi x3)] [] G Q) ∧ (((((eS E).2.2 (Int32.toNatClampNeg x3)) &&& 127) = 16 → wp E d M_L_law 849 [some (vs (eS E).1), some (vr x1), some (vr x2), some (vi x3)] [] G Q) ∧ (((((eS E).2.2 (Int32.toNatClampNeg x3)) &&& 127) = 17 → wp E d M_L_law 892 [some (vs (eS E).1), some (vr x1), some (vr x2), some (vi x3)] [] G Q) ∧ (((((eS E).2.2 (Int32.toNatClampNeg x3)) &&& 127) = 18 → wp E d M_L_law 951 [some (vs (eS E).1), some (vr x1), some (vr x2), some (vi x3)] [] G Q) ∧ (((((eS E).2.2 (Int32.toNatClampNeg x3)) &&& 127) = 19 → wp E d M_L_law 994 [some (vs (eS E).1), some (vr x1), some (vr x2), some (vi x3)] [] G Q) ∧ (((((eS E).2.2 (Int32.toNatClampNeg x3)) &&& 127) = 20 → wp E d M_L_law 1027 [some (vs (eS E).1), some (vr x1), some (vr x2), some (vi x3)] [] G Q) ∧ (((((eS E).2.2 (Int32.toNatClampNeg x3)) &&& 127) = 21 → wp E d M_L_law 1061 [some (vs (eS E).1), some (vr x1), some (vr x2), some (vi x3)] [] G Q) ∧ (((((eS E).2.2 (Int32.toNatClampNeg x3)) &&& 127) = 22 → wp E d M_L_law 1095 [some (vs (eS E).1), some (vr x1), some (vr x2), some (vi x3)] [] G Q) ∧ (((((eS E).2.2 (Int32.toNatClampNeg x3)) &&& 127) = 23 → wp E d M_L_law 1118 [some (vs (eS E).1), some (vr x1), some (vr x2), some (vi x3)] [] G Q) ∧ (((((eS E).2.2 (Int32.toNatClampNeg x3)) &&& 127) = 24 → wp E d M_L_law 1141 [some (vs (eS E).1), some (vr x1), some (vr x2), some (vi x3)] [] G Q) ∧ (((((eS E).2.2 (Int32.toNatClampNeg x3)) &&& 127) = 25 → wp E d M_L_law 1184 [some (vs (eS E).1), some (vr x1), some (vr x2), some (vi x3)] [] G Q) ∧ (((((eS E).2.2 (Int32.toNatClampNeg x3)) &&& 127) = 26 → wp E d M_L_law 1207 [some (vs (eS E).1), some (vr x1), some (vr x2), some (vi x3)] [] G Q) ∧ (((((eS E).2.2 (Int32.toNatClampNeg x3)) &&& 127) = 27 → wp E d M_L_law 1230 [some (vs (eS E).1), some (vr x1), some (vr x2), some (vi x3)] [] G Q) ∧ (((((eS E).2.2 (Int32.toNatClampNeg x3)) &&& 127) = 28 → wp E d M_L_law 1264 [some (vs (eS E).1), some (vr x1), some (vr x2), some (vi x3)] [] G Q) ∧ (((((eS E).2.2 (Int32.toNatClampNeg x3)) &&& 127) = 29 → wp E d M_L_law 1287 [some (vs (eS E).1), some (vr x1), some (vr x2), some (vi x3)] [] G Q) ∧ (((((eS E).2.2 (Int32.toNatClampNeg x3)) &&& 127) = 30 → wp E d M_L_law 1320 [some (vs (eS E).1), some (vr x1), some (vr x2), some (vi x3)] [] G Q) ∧ (((((eS E).2.2 (Int32.toNatClampNeg x3)) &&& 127) = 31 → wp E d M_L_law 1343 [some (vs (eS E).1), some (vr x1), some (vr x2), some (vi x3)] [] G Q) ∧ (((((eS E).2.2 (Int32.toNatClampNeg x3)) &&& 127) = 32 → wp E d M_L_law 1376 [some (vs (eS E).1), some (vr x1), some (vr x2), some (vi x3)] [] G Q) ∧ (((((eS E).2.2 (Int32.toNatClampNeg x3)) &&& 127) = 33 → wp E d M_L_law 1445 [some (vs (eS E).1), some (vr x1), some (vr x2), some (vi x3)] [] G Q) ∧ (((((eS E).2.2 (Int32.toNatClampNeg x3)) &&& 127) = 34 → wp E d M_L_law 1478 [some (vs (eS E).1), some (vr x1), some (vr x2), some (vi x3)] [] G Q) ∧ (((((eS E).2.2 (Int32.toNatClampNeg x3)) &&& 127) = 35 → wp E d M_L_law 1511 [some (vs (eS E).1), some (vr x1), some (vr x2), some (vi x3)] [] G Q) ∧ (((((eS E).2.2 (Int32.toNatClampNeg x3)) &&& 127) = 36 → wp E d M_L_law 1534 [some (vs (eS E).1), some (vr x1), some (vr x2), some (vi x3)] [] G Q) ∧ (((((eS E).2.2 (Int32.toNatClampNeg x3)) &&& 127) = 37 → wp E d M_L_law 1578 [some (vs (eS E).1), some (vr x1), some (vr x2), some (vi x3)] [] G Q) ∧ (((((eS E).2.2 (Int32.toNatClampNeg x3)) &&& 127) = 38 → wp E d M_L_law 1611 [some (vs (eS E).1), some (vr x1), some (vr x2), some (vi x3)] [] G Q) ∧ (((((eS E).2.2 (Int32.toNatClampNeg x3)) &&& 127) = 39 → wp E d M_L_law 1660 [some (vs (eS E).1), some (vr x1), some (vr x2), some (vi x3)] [] G Q) ∧ (((((eS E).2.2 (Int32.toNatClampNeg x3)) &&& 127) = 40 → wp E d M_L_law 1683 [some (vs (eS E).1), some (vr x1), some (vr x2), some (vi x3)] [] G Q) ∧ (((((eS E).2.2 (Int32.toNatClampNeg x3)) &&& 127) = 41 → wp E d M_L_law 1706 [some (vs (eS E).1), some (vr x1), some (vr x2), some (vi x3)] [] G Q) ∧ (((((eS E).2.2 (Int32.toNatClampNeg x3)) &&& 127) = 42 → wp E d M_L_law 1729 [some (vs (eS E).1), some (vr x1), some (vr x2), some (vi x3)] [] G Q) ∧ (((((eS E).2.2 (Int32.toNatClampNeg x3)) &&& 127) = 43 → wp E d M_L_law 1773 [some (vs (eS E).1), some (vr x1), some (vr x2), some (vi x3)] [] G Q) ∧ (((((eS E).2.2 (Int32.toNatClampNeg x3)) &&& 127) = 44 → wp E d M_L_law 1827 [some (vs (eS E).1), some (vr x1), some (vr x2), some (vi x3)] [] G Q) ∧ (((((eS E).2.2 (Int32.toNatClampNeg x3)) &&& 127) = 45 → wp E d M_L_law 1870 [some (vs (eS E).1), some (vr x1), some (vr x2), some (vi x3)] [] G Q) ∧ (((((eS E).2.2 (Int32.toNatClampNeg x3)) &&& 127) = 46 → wp E d M_L_law 1903 [some (vs (eS E).1), some (vr x1), some (vr x2), some (vi x3)] [] G Q) ∧ (((((eS E).2.2 (Int32.toNatClampNeg x3)) &&& 127) = 47 → wp E d M_L_law 1956 [some (vs (eS E).1), some (vr x1), some (vr x2), some (vi x3)] [] G Q) ∧ (((((eS E).2.2 (Int32.toNatClampNeg x3)) &&& 127) = 48 → wp E d M_L_law 1979 [some (vs (eS E).1), some (vr x1), some (vr x2), some (vi x3)] [] G Q) ∧ (((((eS E).2.2 (Int32.toNatClampNeg x3)) &&& 127) = 49 → wp E d M_L_law 2002 [some (vs (eS E).1), some (vr x1), some (vr x2), some (vi x3)] [] G Q) ∧ (((((eS E).2.2 (Int32.toNatClampNeg x3)) &&& 127) = 50 → wp E d M_L_law 2036 [some (vs (eS E).1), some (vr x1), some (vr x2), some (vi x3)] [] G Q) ∧ (((((eS E).2.2 (Int32.toNatClampNeg x3)) &&& 127) = 51 → wp E d M_L_law 2070 [some (vs (eS E).1), some (vr x1), some (vr x2), some (vi x3)] [] G Q) ∧ (((((eS E).2.2 (Int32.toNatClampNeg x3)) &&& 127) = 52 → wp E d M_L_law 2133 [some (vs (eS E).1), some (vr x1), some (vr x2), some (vi x3)] [] G Q) ∧ (((((eS E).2.2 (Int32.toNatClampNeg x3)) &&& 127) = 53 → wp E d M_L_law 2156 [some (vs (eS E).1), some (vr x1), some (vr x2), some (vi x3)] [] G Q) ∧ (((((eS E).2.2 (Int32.toNatClampNeg x3)) &&& 127) = 54 → wp E d M_L_law 2179 [some (vs (eS E).1), some (vr x1), some (vr x2), some (vi x3)] [] G Q) ∧ (((((eS E).2.2 (Int32.toNatClampNeg x3)) &&& 127) = 55 → wp E d M_L_law 2202 [some (vs (eS E).1), some (vr x1), some (vr x2), some (vi x3)] [] G Q) ∧ (((((eS E).2.2 (Int32.toNatClampNeg x3)) &&& 127) = 56 → wp E d M_L_law 2216 [some (vs (eS E).1), some (vr x1), some (vr x2), some (vi x3)] [] G Q) ∧ (((((eS E).2.2 (Int32.toNatClampNeg x3)) &&& 127) = 57 → wp E d M_L_law 2230 [some (vs (eS E).1), some (vr x1), some (vr x2), some (vi x3)] [] G Q) ∧ (((((eS E).2.2 (Int32.toNatClampNeg x3)) &&& 127) = 58 → wp E d M_L_law 2253 [some (vs (eS E).1), some (vr x1), some (vr x2), some (vi x3)] [] G Q) ∧ (((((eS E).2.2 (Int32.toNatClampNeg x3)) &&& 127) = 59 → wp E d M_L_law 2276 [some (vs (eS E).1), some (vr x1), some (vr x2), some (vi x3)] [] G Q) ∧ (((((eS E).2.2 (Int32.toNatClampNeg x3)) &&& 127) = 60 → wp E d M_L_law 2289 [some (vs (eS E).1), some (vr x1), some (vr x2), some (vi x3)] [] G Q) ∧ (((((eS E).2.2 (Int32.toNatClampNeg x3)) &&& 127) = 61 → wp E d M_L_law 2302 [some (vs (eS E).1), some (vr x1), some (vr x2), some (vi x3)] [] G Q) ∧ (((((eS E).2.2 (Int32.toNatClampNeg x3)) &&& 127) = 62 → wp E d M_L_law 2325 [some (vs (eS E).1), some (vr x1), some (vr x2), some (vi x3)] [] G Q) ∧ (((((eS E).2.2 (Int32.toNatClampNeg x3)) &&& 127) = 63 → wp E d M_L_law 2348 [some (vs (eS E).1), some (vr x1), some (vr x2), some (vi x3)] [] G Q) ∧ (((((eS E).2.2 (Int32.toNatClampNeg x3)) &&& 127) = 64 → wp E d M_L_law 2361 [some (vs (eS E).1), some (vr x1), some (vr x2), some (vi x3)] [] G Q) ∧ ((¬ (((eS E).2.2 (Int32.toNatClampNeg x3)) &&& 127) = 0 → ¬ (((eS E).2.2 (Int32.toNatClampNeg x3)) &&& 127) = 1 → ¬ (((eS E).2.2 (Int32.toNatClampNeg x3)) &&& 127) = 2 → ¬ (((eS E).2.2 (Int32.toNatClampNeg x3)) &&& 127) = 3 → ¬ (((eS E).2.2 (Int32.toNatClampNeg x3)) &&& 127) = 4 → ¬ (((eS E).2.2 (Int32.toNatClampNeg x3)) &&& 127) = 5 → ¬ (((eS E).2.2 (Int32.toNatClampNeg x3)) &&& 127) = 6 → ¬ (((eS E).2.2 (Int32.toNatClampNeg x3)) &&& 127) = 7 → ¬ (((eS E).2.2 (Int32.toNatClampNeg x3)) &&& 127) = 8 → ¬ (((eS E).2.2 (Int32.toNatClampNeg x3)) &&& 127) = 9 → ¬ (((eS E).2.2 (Int32.toNatClampNeg x3)) &&& 127) = 10 → ¬ (((eS E).2.2 (Int32.toNatClampNeg x3)) &&& 127) = 11 → ¬ (((eS E).2.2 (Int32.toNatClampNeg x3)) &&& 127) = 12 → ¬ (((eS E).2.2 (Int32.toNatClampNeg x3)) &&& 127) = 13 → ¬ (((eS E).2.2 (Int32.toNatClampNeg x3)) &&& 127) = 14 → ¬ (((eS E).2.2 (Int32.toNatClampNeg x3)) &&& 127) = 15 → ¬ (((eS E).2.2 (Int32.toNatClampNeg x3)) &&& 127) = 16 → ¬ (((eS E).2.2 (Int32.toNatClampNeg x3)) &&& 127) = 17 → ¬ (((eS E).2.2 (Int32.toNatClampNeg x3)) &&& 127) = 18 → ¬ (((eS E).2.2 (Int32.toNatClampNeg x3)) &&& 127) = 19 → ¬ (((eS E).2.2 (Int32.toNatClampNeg x3)) &&& 127) = 20 → ¬ (((eS E).2.2 (Int32.toNatClampNeg x3)) &&& 127) = 21 → ¬ (((eS E).2.2 (Int32.toNatClampNeg x3)) &&& 127) = 22 → ¬ (((eS E).2.2 (Int32.toNatClampNeg x3)) &&& 127) = 23 → ¬ (((eS E).2.2 (Int32.toNatClampNeg x3)) &&& 127) = 24 → ¬ (((eS E).2.2 (Int32.toNatClampNeg x3)) &&& 127) = 25 → ¬ (((eS E).2.2 (Int32.toNatClampNeg x3)) &&& 127) = 26 → ¬ (((eS E).2.2 (Int32.toNatClampNeg x3)) &&& 127) = 27 → ¬ (((eS E).2.2 (Int32.toNatClampNeg x3)) &&& 127) = 28 → ¬ (((eS E).2.2 (Int32.toNatClampNeg x3)) &&& 127) = 29 → ¬ (((eS E).2.2 (Int32.toNatClampNeg x3)) &&& 127) = 30 → ¬ (((eS E).2.2 (Int32.toNatClampNeg x3)) &&& 127) = 31 → ¬ (((eS E).2.2 (Int32.toNatClampNeg x3)) &&& 127) = 32 → ¬ (((eS E).2.2 (Int32.toNatClampNeg x3)) &&& 127) = 33 → ¬ (((eS E).2.2 (Int32.toNatClampNeg x3)) &&& 127) = 34 → ¬ (((eS E).2.2 (Int32.toNatClampNeg x3)) &&& 127) = 35 → ¬ (((eS E).2.2 (Int32.toNatClampNeg x3)) &&& 127) = 36 → ¬ (((eS E).2.2 (Int32.toNatClampNeg x3)) &&& 127) = 37 → ¬ (((eS E).2.2 (Int32.toNatClampNeg x3)) &&& 127) = 38 → ¬ (((eS E).2.2 (Int32.toNatClampNeg x3)) &&& 127) = 39 → ¬ (((eS E).2.2 (Int32.toNatClampNeg x3)) &&& 127) = 40 → ¬ (((eS E).2.2 (Int32.toNatClampNeg x3)) &&& 127) = 41 → ¬ (((eS E).2.2 (Int32.toNatClampNeg x3)) &&& 127) = 42 → ¬ (((eS E).2.2 (Int32.toNatClampNeg x3)) &&& 127) = 43 → ¬ (((eS E).2.2 (Int32.toNatClampNeg x3)) &&& 127) = 44 → ¬ (((eS E).2.2 (Int32.toNatClampNeg x3)) &&& 127) = 45 → ¬ (((eS E).2.2 (Int32.toNatClampNeg x3)) &&& 127) = 46 → ¬ (((eS E).2.2 (Int32.toNatClampNeg x3)) &&& 127) = 47 → ¬ (((eS E).2.2 (Int32.toNatClampNeg x3)) &&& 127) = 48 → ¬ (((eS E).2.2 (Int32.toNatClampNeg x3)) &&& 127) = 49 → ¬ (((eS E).2.2 (Int32.toNatClampNeg x3)) &&& 127) = 50 → ¬ (((eS E).2.2 (Int32.toNatClampNeg x3)) &&& 127) = 51 → ¬ (((eS E).2.2 (Int32.toNatClampNeg x3)) &&& 127) = 52 → ¬ (((eS E).2.2 (Int32.toNatClampNeg x3)) &&& 127) = 53 → ¬ (((eS E).2.2 (Int32.toNatClampNeg x3)) &&& 127) = 54 → ¬ (((eS E).2.2 (Int32.toNatClampNeg x3)) &&& 127) = 55 → ¬ (((eS E).2.2 (Int32.toNatClampNeg x3)) &&& 127) = 56 → ¬ (((eS E).2.2 (Int32.toNatClampNeg x3)) &&& 127) = 57 → ¬ (((eS E).2.2 (Int32.toNatClampNeg x3)) &&& 127) = 58 → ¬ (((eS E).2.2 (Int32.toNatClampNeg x3)) &&& 127) = 59 → ¬ (((eS E).2.2 (Int32.toNatClampNeg x3)) &&& 127) = 60 → ¬ (((eS E).2.2 (Int32.toNatClampNeg x3)) &&& 127) = 61 → ¬ (((eS E).2.2 (Int32.toNatClampNeg x3)) &&& 127) = 62 → ¬ (((eS E).2.2 (Int32.toNatClampNeg x3)) &&& 127) = 63 → ¬ (((eS E).2.2 (Int32.toNatClampNeg x3)) &&& 127) = 64 → wp E d M_L_law 2374 [some (vs (eS E).1), some (vr x1), some (vr x2), some (vi x3)] [] G Q))))))))))))))))))))))))))))))))))))))))))))))))))))))))))))))))))))) : wp E d M_L_law 18 [some (vs (eS E).1), some (vr x1), some (vr x2), some (vi x3)] [] G Q := by
  refine wp_iload_n (pc := 18) d_L_law_18 rfl ?_
  refine wp_aload_nS (pc := 19) d_L_law_19 rfl ?_
  refine wp_slen (pc := 20) d_L_law_20 ?_
  refine wp_bipush (pc := 21) (v := 6) d_L_law_21 rfl ?_
  refine wp_isub (pc := 23) d_L_law_23 ?_
  refine wp_icmp_gt (pc := 24) (tgt := 2380) d_L_law_24 (by decide) (fun hc => ?_) (fun hc => ?_)
  · have h := h.1 hc
    refine wp_iconst (pc := 2380) (v := 1) d_L_law_2380 rfl ?_
    exact wp_zret (pc := 2381) d_L_law_2381 rfl rfl h
  · have h := h.2 hc
    refine wp_aload_nS (pc := 27) d_L_law_27 rfl ?_
    refine wp_iload_n (pc := 28) d_L_law_28 rfl ?_
    obtain ⟨hi1, h⟩ := h
    refine wp_sld (pc := 29) d_L_law_29 hi1 ?_
    refine wp_bipush (pc := 30) (v := 127) d_L_law_30 rfl ?_
    refine wp_iand (pc := 32) d_L_law_32 ?_
    obtain ⟨hk, h⟩ := h
    by_cases hn2 : (((eS E).2.2 (Int32.toNatClampNeg x3)) &&& 127) = 0
    · have h := hk hn2
      refine wp_tblI (pc := 33) (tgt := 308) d_L_law_33 (by rw [hn2]; decide) (by rw [hn2]; decide) (by rw [hn2]; first | done | rfl) (by decide) ?_
      refine wp_sub ?_ h
      exact ⟨rfl, ⟨rfl, ⟨rfl, ⟨rfl, trivial⟩⟩⟩⟩
    obtain ⟨hk, h⟩ := h
    by_cases hn3 : (((eS E).2.2 (Int32.toNatClampNeg x3)) &&& 127) = 1
    · have h := hk hn3
      refine wp_tblI (pc := 33) (tgt := 371) d_L_law_33 (by rw [hn3]; decide) (by rw [hn3]; decide) (by rw [hn3]; first | done | rfl) (by decide) ?_
      refine wp_sub ?_ h
      exact ⟨rfl, ⟨rfl, ⟨rfl, ⟨rfl, trivial⟩⟩⟩⟩
    obtain ⟨hk, h⟩ := h
    by_cases hn4 : (((eS E).2.2 (Int32.toNatClampNeg x3)) &&& 127) = 2
    · have h := hk hn4
      refine wp_tblI (pc := 33) (tgt := 394) d_L_law_33 (by rw [hn4]; decide) (by rw [hn4]; decide) (by rw [hn4]; first | done | rfl) (by decide) ?_
      refine wp_sub ?_ h
      exact ⟨rfl, ⟨rfl, ⟨rfl, ⟨rfl, trivial⟩⟩⟩⟩
    obtain ⟨hk, h⟩ := h
    by_cases hn5 : (((eS E).2.2 (Int32.toNatClampNeg x3)) &&& 127) = 3
    · have h := hk hn5
      refine wp_tblI (pc := 33) (tgt := 427) d_L_law_33 (by rw [hn5]; decide) (by rw [hn5]; decide) (by rw [hn5]; first | done | rfl) (by decide) ?_
      refine wp_sub ?_ h
      exact ⟨rfl, ⟨rfl, ⟨rfl, ⟨rfl, trivial⟩⟩⟩⟩
    obtain ⟨hk, h⟩ := h
    by_cases hn6 : (((eS E).2.2 (Int32.toNatClampNeg x3)) &&& 127) = 4
    · have h := hk hn6
      refine wp_tblI (pc := 33) (tgt := 450) d_L_law_33 (by rw [hn6]; decide) (by rw [hn6]; decide) (by rw [hn6]; first | done | rfl) (by decide) ?_
      refine wp_sub ?_ h
      exact ⟨rfl, ⟨rfl, ⟨rfl, ⟨rfl, trivial⟩⟩⟩⟩
    obtain ⟨hk, h⟩ := h
    by_cases hn7 : (((eS E).2.2 (Int32.toNatClampNeg x3)) &&& 127) = 5
    · have h := hk hn7
      refine wp_tblI (pc := 33) (tgt := 463) d_L_law_33 (by rw [hn7]; decide) (by rw [hn7]; decide) (by rw [hn7]; first | done | rfl) (by decide) ?_
      refine wp_sub ?_ h
      exact ⟨rfl, ⟨rfl, ⟨rfl, ⟨rfl, trivial⟩⟩⟩⟩
    obtain ⟨hk, h⟩ := h
    by_cases hn8 : (((eS E).2.2 (Int32.toNatClampNeg x3)) &&& 127) = 6
    · have h := hk hn8
      refine wp_tblI (pc := 33) (tgt := 476) d_L_law_33 (by rw [hn8]; decide) (by rw [hn8]; decide) (by rw [hn8]; first | done | rfl) (by decide) ?_
      refine wp_sub ?_ h
      exact ⟨rfl, ⟨rfl, ⟨rfl, ⟨rfl, trivial⟩⟩⟩⟩
    obtain ⟨hk, h⟩ := h
    by_cases hn9 : (((eS E).2.2 (Int32.toNatClampNeg x3)) &&& 127) = 7
    · have h := hk hn9
      refine wp_tblI (pc := 33) (tgt := 499) d_L_law_33 (by rw [hn9]; decide) (by rw [hn9]; decide) (by rw [hn9]; first | done | rfl) (by decide) ?_
      refine wp_sub ?_ h
      exact ⟨rfl, ⟨rfl, ⟨rfl, ⟨rfl, trivial⟩⟩⟩⟩
    obtain ⟨hk, h⟩ := h
    by_cases hn10 : (((eS E).2.2 (Int32.toNatClampNeg x3)) &&& 127) = 8
    · have h := hk hn10
      refine wp_tblI (pc := 33) (tgt := 532) d_L_law_33 (by rw [hn10]; decide) (by rw [hn10]; decide) (by rw [hn10]; first | done | rfl) (by decide) ?_
      refine wp_sub ?_ h
      exact ⟨rfl, ⟨rfl, ⟨rfl, ⟨rfl, trivial⟩⟩⟩⟩
    obtain ⟨hk, h⟩ := h
    by_cases hn11 : (((eS E).2.2 (Int32.toNatClampNeg x3)) &&& 127) = 9
    · have h := hk hn11
      refine wp_tblI (pc := 33) (tgt := 555) d_L_law_33 (by rw [hn11]; decide) (by rw [hn11]; decide) (by rw [hn11]; first | done | rfl) (by decide) ?_
      refine wp_sub ?_ h
      exact ⟨rfl, ⟨rfl, ⟨rfl, ⟨rfl, trivial⟩⟩⟩⟩
    obtain ⟨hk, h⟩ := h
    by_cases hn12 : (((eS E).2.2 (Int32.toNatClampNeg x3)) &&& 127) = 10
    · have h := hk hn12
      refine wp_tblI (pc := 33) (tgt := 608) d_L_law_33 (by rw [hn12]; decide) (by rw [hn12]; decide) (by rw [hn12]; first | done | rfl) (by decide) ?_
      refine wp_sub ?_ h
      exact ⟨rfl, ⟨rfl, ⟨rfl, ⟨rfl, trivial⟩⟩⟩⟩
    obtain ⟨hk, h⟩ := h
    by_cases hn13 : (((eS E).2.2 (Int32.toNatClampNeg x3)) &&& 127) = 11
    · have h := hk hn13
      refine wp_tblI (pc := 33) (tgt := 651) d_L_law_33 (by rw [hn13]; decide) (by rw [hn13]; decide) (by rw [hn13]; first | done | rfl) (by decide) ?_
      refine wp_sub ?_ h
      exact ⟨rfl, ⟨rfl, ⟨rfl, ⟨rfl, trivial⟩⟩⟩⟩
    obtain ⟨hk, h⟩ := h
    by_cases hn14 : (((eS E).2.2 (Int32.toNatClampNeg x3)) &&& 127) = 12
    · have h := hk hn14
      refine wp_tblI (pc := 33) (tgt := 695) d_L_law_33 (by rw [hn14]; decide) (by rw [hn14]; decide) (by rw [hn14]; first | done | rfl) (by decide) ?_
      refine wp_sub ?_ h
      exact ⟨rfl, ⟨rfl, ⟨rfl, ⟨rfl, trivial⟩⟩⟩⟩
    obtain ⟨hk, h⟩ := h
    by_cases hn15 : (((eS E).2.2 (Int32.toNatClampNeg x3)) &&& 127) = 13
    · have h := hk hn15
      refine wp_tblI (pc := 33) (tgt := 738) d_L_law_33 (by rw [hn15]; decide) (by rw [hn15]; decide) (by rw [hn15]; first | done | rfl) (by decide) ?_
      refine wp_sub ?_ h
      exact ⟨rfl, ⟨rfl, ⟨rfl, ⟨rfl, trivial⟩⟩⟩⟩
    obtain ⟨hk, h⟩ := h
    by_cases hn16 : (((eS E).2.2 (Int32.toNatClampNeg x3)) &&& 127) = 14
    · have h := hk hn16
      refine wp_tblI (pc := 33) (tgt := 772) d_L_law_33 (by rw [hn16]; decide) (by rw [hn16]; decide) (by rw [hn16]; first | done | rfl) (by decide) ?_
      refine wp_sub ?_ h
      exact ⟨rfl, ⟨rfl, ⟨rfl, ⟨rfl, trivial⟩⟩⟩⟩
    obtain ⟨hk, h⟩ := h
    by_cases hn17 : (((eS E).2.2 (Int32.toNatClampNeg x3)) &&& 127) = 15
    · have h := hk hn17
      refine wp_tblI (pc := 33) (tgt := 815) d_L_law_33 (by rw [hn17]; decide) (by rw [hn17]; decide) (by rw [hn17]; first | done | rfl) (by decide) ?_
      refine wp_sub ?_ h
      exact ⟨rfl, ⟨rfl, ⟨rfl, ⟨rfl, trivial⟩⟩⟩⟩
    obtain ⟨hk, h⟩ := h
    by_cases hn18 : (((eS E).2.2 (Int32.toNatClampNeg x3)) &&& 127) = 16
    · have h := hk hn18
      refine wp_tblI (pc := 33) (tgt := 849) d_L_law_33 (by rw [hn18]; decide) (by rw [hn18]; decide) (by rw [hn18]; first | done | rfl) (by decide) ?_
      refine wp_sub ?_ h
      exact ⟨rfl, ⟨rfl, ⟨rfl, ⟨rfl, trivial⟩⟩⟩⟩
    obtain ⟨hk, h⟩ := h
    by_cases hn19 : (((eS E).2.2 (Int32.toNatClampNeg x3)) &&& 127) = 17
    · have h := hk hn19
      refine wp_tblI (pc := 33) (tgt := 892) d_L_law_33 (by rw [hn19]; decide) (by rw [hn19]; decide) (by rw [hn19]; first | done | rfl) (by decide) ?_
      refine wp_sub ?_ h
      exact ⟨rfl, ⟨rfl, ⟨rfl, ⟨rfl, trivial⟩⟩⟩⟩
    obtain ⟨hk, h⟩ := h
    by_cases hn20 : (((eS E).2.2 (Int32.toNatClampNeg x3)) &&& 127) = 18
    · have h := hk hn20
      refine wp_tblI (pc := 33) (tgt := 951) d_L_law_33 (by rw [hn20]; decide) (by rw [hn20]; decide) (by rw [hn20]; first | done | rfl) (by decide) ?_
      refine wp_sub ?_ h
      exact ⟨rfl, ⟨rfl, ⟨rfl, ⟨rfl, trivial⟩⟩⟩⟩
    obtain ⟨hk, h⟩ := h
    by_cases hn21 : (((eS E).2.2 (Int32.toNatClampNeg x3)) &&& 127) = 19
    · have h := hk hn21
      refine wp_tblI (pc := 33) (tgt := 994) d_L_law_33 (by rw [hn21]; decide) (by rw [hn21]; decide) (by rw [hn21]; first | done | rfl) (by decide) ?_
      refine wp_sub ?_ h
      exact ⟨rfl, ⟨rfl, ⟨rfl, ⟨rfl, trivial⟩⟩⟩⟩
    obtain ⟨hk, h⟩ := h
    by_cases hn22 : (((eS E).2.2 (Int32.toNatClampNeg x3)) &&& 127) = 20
    · have h := hk hn22
      refine wp_tblI (pc := 33) (tgt := 1027) d_L_law_33 (by rw [hn22]; decide) (by rw [hn22]; decide) (by rw [hn22]; first | done | rfl) (by decide) ?_
      refine wp_sub ?_ h
      exact ⟨rfl, ⟨rfl, ⟨rfl, ⟨rfl, trivial⟩⟩⟩⟩
    obtain ⟨hk, h⟩ := h
    by_cases hn23 : (((eS E).2.2 (Int32.toNatClampNeg x3)) &&& 127) = 21
    · have h := hk hn23
      refine wp_tblI (pc := 33) (tgt := 1061) d_L_law_33 (by rw [hn23]; decide) (by rw [hn23]; decide) (by rw [hn23]; first | done | rfl) (by decide) ?_
      refine wp_sub ?_ h
      exact ⟨rfl, ⟨rfl, ⟨rfl, ⟨rfl, trivial⟩⟩⟩⟩
    obtain ⟨hk, h⟩ := h
    by_cases hn24 : (((eS E).2.2 (Int32.toNatClampNeg x3)) &&& 127) = 22
    · have h := hk hn24
      refine wp_tblI (pc := 33) (tgt := 1095) d_L_law_33 (by rw [hn24]; decide) (by rw [hn24]; decide) (by rw [hn24]; first | done | rfl) (by decide) ?_
      refine wp_sub ?_ h
      exact ⟨rfl, ⟨rfl, ⟨rfl, ⟨rfl, trivial⟩⟩⟩⟩
    obtain ⟨hk, h⟩ := h
    by_cases hn25 : (((eS E).2.2 (Int32.toNatClampNeg x3)) &&& 127) = 23
    · have h := hk hn25
      refine wp_tblI (pc := 33) (tgt := 1118) d_L_law_33 (by rw [hn25]; decide) (by rw [hn25]; decide) (by rw [hn25]; first | done | rfl) (by decide) ?_
      refine wp_sub ?_ h
      exact ⟨rfl, ⟨rfl, ⟨rfl, ⟨rfl, trivial⟩⟩⟩⟩
    obtain ⟨hk, h⟩ := h
    by_cases hn26 : (((eS E).2.2 (Int32.toNatClampNeg x3)) &&& 127) = 24
    · have h := hk hn26
      refine wp_tblI (pc := 33) (tgt := 1141) d_L_law_33 (by rw [hn26]; decide) (by rw [hn26]; decide) (by rw [hn26]; first | done | rfl) (by decide) ?_
      refine wp_sub ?_ h
      exact ⟨rfl, ⟨rfl, ⟨rfl, ⟨rfl, trivial⟩⟩⟩⟩
    obtain ⟨hk, h⟩ := h
    by_cases hn27 : (((eS E).2.2 (Int32.toNatClampNeg x3)) &&& 127) = 25
    · have h := hk hn27
      refine wp_tblI (pc := 33) (tgt := 1184) d_L_law_33 (by rw [hn27]; decide) (by rw [hn27]; decide) (by rw [hn27]; first | done | rfl) (by decide) ?_
      refine wp_sub ?_ h
      exact ⟨rfl, ⟨rfl, ⟨rfl, ⟨rfl, trivial⟩⟩⟩⟩
    obtain ⟨hk, h⟩ := h
    by_cases hn28 : (((eS E).2.2 (Int32.toNatClampNeg x3)) &&& 127) = 26
    · have h := hk hn28
      refine wp_tblI (pc := 33) (tgt := 1207) d_L_law_33 (by rw [hn28]; decide) (by rw [hn28]; decide) (by rw [hn28]; first | done | rfl) (by decide) ?_
      refine wp_sub ?_ h
      exact ⟨rfl, ⟨rfl, ⟨rfl, ⟨rfl, trivial⟩⟩⟩⟩
    obtain ⟨hk, h⟩ := h
    by_cases hn29 : (((eS E).2.2 (Int32.toNatClampNeg x3)) &&& 127) = 27
    · have h := hk hn29
      refine wp_tblI (pc := 33) (tgt := 1230) d_L_law_33 (by rw [hn29]; decide) (by rw [hn29]; decide) (by rw [hn29]; first | done | rfl) (by decide) ?_
      refine wp_sub ?_ h
      exact ⟨rfl, ⟨rfl, ⟨rfl, ⟨rfl, trivial⟩⟩⟩⟩
    obtain ⟨hk, h⟩ := h
    by_cases hn30 : (((eS E).2.2 (Int32.toNatClampNeg x3)) &&& 127) = 28
    · have h := hk hn30
      refine wp_tblI (pc := 33) (tgt := 1264) d_L_law_33 (by rw [hn30]; decide) (by rw [hn30]; decide) (by rw [hn30]; first | done | rfl) (by decide) ?_
      refine wp_sub ?_ h
      exact ⟨rfl, ⟨rfl, ⟨rfl, ⟨rfl, trivial⟩⟩⟩⟩
    obtain ⟨hk, h⟩ := h
    by_cases hn31 : (((eS E).2.2 (Int32.toNatClampNeg x3)) &&& 127) = 29
    · have h := hk hn31
      refine wp_tblI (pc := 33) (tgt := 1287) d_L_law_33 (by rw [hn31]; decide) (by rw [hn31]; decide) (by rw [hn31]; first | done | rfl) (by decide) ?_
      refine wp_sub ?_ h
      exact ⟨rfl, ⟨rfl, ⟨rfl, ⟨rfl, trivial⟩⟩⟩⟩
    obtain ⟨hk, h⟩ := h
    by_cases hn32 : (((eS E).2.2 (Int32.toNatClampNeg x3)) &&& 127) = 30
    · have h := hk hn32
      refine wp_tblI (pc := 33) (tgt := 1320) d_L_law_33 (by rw [hn32]; decide) (by rw [hn32]; decide) (by rw [hn32]; first | done | rfl) (by decide) ?_
      refine wp_sub ?_ h
      exact ⟨rfl, ⟨rfl, ⟨rfl, ⟨rfl, trivial⟩⟩⟩⟩
    obtain ⟨hk, h⟩ := h
    by_cases hn33 : (((eS E).2.2 (Int32.toNatClampNeg x3)) &&& 127) = 31
    · have h := hk hn33
      refine wp_tblI (pc := 33) (tgt := 1343) d_L_law_33 (by rw [hn33]; decide) (by rw [hn33]; decide) (by rw [hn33]; first | done | rfl) (by decide) ?_
      refine wp_sub ?_ h
      exact ⟨rfl, ⟨rfl, ⟨rfl, ⟨rfl, trivial⟩⟩⟩⟩
    obtain ⟨hk, h⟩ := h
    by_cases hn34 : (((eS E).2.2 (Int32.toNatClampNeg x3)) &&& 127) = 32
    · have h := hk hn34
      refine wp_tblI (pc := 33) (tgt := 1376) d_L_law_33 (by rw [hn34]; decide) (by rw [hn34]; decide) (by rw [hn34]; first | done | rfl) (by decide) ?_
      refine wp_sub ?_ h
      exact ⟨rfl, ⟨rfl, ⟨rfl, ⟨rfl, trivial⟩⟩⟩⟩
    obtain ⟨hk, h⟩ := h
    by_cases hn35 : (((eS E).2.2 (Int32.toNatClampNeg x3)) &&& 127) = 33
    · have h := hk hn35
      refine wp_tblI (pc := 33) (tgt := 1445) d_L_law_33 (by rw [hn35]; decide) (by rw [hn35]; decide) (by rw [hn35]; first | done | rfl) (by decide) ?_
      refine wp_sub ?_ h
      exact ⟨rfl, ⟨rfl, ⟨rfl, ⟨rfl, trivial⟩⟩⟩⟩
    obtain ⟨hk, h⟩ := h
    by_cases hn36 : (((eS E).2.2 (Int32.toNatClampNeg x3)) &&& 127) = 34
    · have h := hk hn36
      refine wp_tblI (pc := 33) (tgt := 1478) d_L_law_33 (by rw [hn36]; decide) (by rw [hn36]; decide) (by rw [hn36]; first | done | rfl) (by decide) ?_
      refine wp_sub ?_ h
      exact ⟨rfl, ⟨rfl, ⟨rfl, ⟨rfl, trivial⟩⟩⟩⟩
    obtain ⟨hk, h⟩ := h
    by_cases hn37 : (((eS E).2.2 (Int32.toNatClampNeg x3)) &&& 127) = 35
    · have h := hk hn37
      refine wp_tblI (pc := 33) (tgt := 1511) d_L_law_33 (by rw [hn37]; decide) (by rw [hn37]; decide) (by rw [hn37]; first | done | rfl) (by decide) ?_
      refine wp_sub ?_ h
      exact ⟨rfl, ⟨rfl, ⟨rfl, ⟨rfl, trivial⟩⟩⟩⟩
    obtain ⟨hk, h⟩ := h
    by_cases hn38 : (((eS E).2.2 (Int32.toNatClampNeg x3)) &&& 127) = 36
    · have h := hk hn38
      refine wp_tblI (pc := 33) (tgt := 1534) d_L_law_33 (by rw [hn38]; decide) (by rw [hn38]; decide) (by rw [hn38]; first | done | rfl) (by decide) ?_
      refine wp_sub ?_ h
      exact ⟨rfl, ⟨rfl, ⟨rfl, ⟨rfl, trivial⟩⟩⟩⟩
    obtain ⟨hk, h⟩ := h
    by_cases hn39 : (((eS E).2.2 (Int32.toNatClampNeg x3)) &&& 127) = 37
    · have h := hk hn39
      refine wp_tblI (pc := 33) (tgt := 1578) d_L_law_33 (by rw [hn39]; decide) (by rw [hn39]; decide) (by rw [hn39]; first | done | rfl) (by decide) ?_
      refine wp_sub ?_ h
      exact ⟨rfl, ⟨rfl, ⟨rfl, ⟨rfl, trivial⟩⟩⟩⟩
    obtain ⟨hk, h⟩ := h
    by_cases hn40 : (((eS E).2.2 (Int32.toNatClampNeg x3)) &&& 127) = 38
    · have h := hk hn40
      refine wp_tblI (pc := 33) (tgt := 1611) d_L_law_33 (by rw [hn40]; decide) (by rw [hn40]; decide) (by rw [hn40]; first | done | rfl) (by decide) ?_
      refine wp_sub ?_ h
      exact ⟨rfl, ⟨rfl, ⟨rfl, ⟨rfl, trivial⟩⟩⟩⟩
    obtain ⟨hk, h⟩ := h
    by_cases hn41 : (((eS E).2.2 (Int32.toNatClampNeg x3)) &&& 127) = 39
    · have h := hk hn41
      refine wp_tblI (pc := 33) (tgt := 1660) d_L_law_33 (by rw [hn41]; decide) (by rw [hn41]; decide) (by rw [hn41]; first | done | rfl) (by decide) ?_
      refine wp_sub ?_ h
      exact ⟨rfl, ⟨rfl, ⟨rfl, ⟨rfl, trivial⟩⟩⟩⟩
    obtain ⟨hk, h⟩ := h
    by_cases hn42 : (((eS E).2.2 (Int32.toNatClampNeg x3)) &&& 127) = 40
    · have h := hk hn42
      refine wp_tblI (pc := 33) (tgt := 1683) d_L_law_33 (by rw [hn42]; decide) (by rw [hn42]; decide) (by rw [hn42]; first | done | rfl) (by decide) ?_
      refine wp_sub ?_ h
      exact ⟨rfl, ⟨rfl, ⟨rfl, ⟨rfl, trivial⟩⟩⟩⟩
    obtain ⟨hk, h⟩ := h
    by_cases hn43 : (((eS E).2.2 (Int32.toNatClampNeg x3)) &&& 127) = 41
    · have h := hk hn43
      refine wp_tblI (pc := 33) (tgt := 1706) d_L_law_33 (by rw [hn43]; decide) (by rw [hn43]; decide) (by rw [hn43]; first | done | rfl) (by decide) ?_
      refine wp_sub ?_ h
      exact ⟨rfl, ⟨rfl, ⟨rfl, ⟨rfl, trivial⟩⟩⟩⟩
    obtain ⟨hk, h⟩ := h
    by_cases hn44 : (((eS E).2.2 (Int32.toNatClampNeg x3)) &&& 127) = 42
    · have h := hk hn44
      refine wp_tblI (pc := 33) (tgt := 1729) d_L_law_33 (by rw [hn44]; decide) (by rw [hn44]; decide) (by rw [hn44]; first | done | rfl) (by decide) ?_
      refine wp_sub ?_ h
      exact ⟨rfl, ⟨rfl, ⟨rfl, ⟨rfl, trivial⟩⟩⟩⟩
    obtain ⟨hk, h⟩ := h
    by_cases hn45 : (((eS E).2.2 (Int32.toNatClampNeg x3)) &&& 127) = 43
    · have h := hk hn45
      refine wp_tblI (pc := 33) (tgt := 1773) d_L_law_33 (by rw [hn45]; decide) (by rw [hn45]; decide) (by rw [hn45]; first | done | rfl) (by decide) ?_
      refine wp_sub ?_ h
      exact ⟨rfl, ⟨rfl, ⟨rfl, ⟨rfl, trivial⟩⟩⟩⟩
    obtain ⟨hk, h⟩ := h
    by_cases hn46 : (((eS E).2.2 (Int32.toNatClampNeg x3)) &&& 127) = 44
    · have h := hk hn46
      refine wp_tblI (pc := 33) (tgt := 1827) d_L_law_33 (by rw [hn46]; decide) (by rw [hn46]; decide) (by rw [hn46]; first | done | rfl) (by decide) ?_
      refine wp_sub ?_ h
      exact ⟨rfl, ⟨rfl, ⟨rfl, ⟨rfl, trivial⟩⟩⟩⟩
    obtain ⟨hk, h⟩ := h
    by_cases hn47 : (((eS E).2.2 (Int32.toNatClampNeg x3)) &&& 127) = 45
    · have h := hk hn47
      refine wp_tblI (pc := 33) (tgt := 1870) d_L_law_33 (by rw [hn47]; decide) (by rw [hn47]; decide) (by rw [hn47]; first | done | rfl) (by decide) ?_
      refine wp_sub ?_ h
      exact ⟨rfl, ⟨rfl, ⟨rfl, ⟨rfl, trivial⟩⟩⟩⟩
    obtain ⟨hk, h⟩ := h
    by_cases hn48 : (((eS E).2.2 (Int32.toNatClampNeg x3)) &&& 127) = 46
    · have h := hk hn48
      refine wp_tblI (pc := 33) (tgt := 1903) d_L_law_33 (by rw [hn48]; decide) (by rw [hn48]; decide) (by rw [hn48]; first | done | rfl) (by decide) ?_
      refine wp_sub ?_ h
      exact ⟨rfl, ⟨rfl, ⟨rfl, ⟨rfl, trivial⟩⟩⟩⟩
    obtain ⟨hk, h⟩ := h
    by_cases hn49 : (((eS E).2.2 (Int32.toNatClampNeg x3)) &&& 127) = 47
    · have h := hk hn49
      refine wp_tblI (pc := 33) (tgt := 1956) d_L_law_33 (by rw [hn49]; decide) (by rw [hn49]; decide) (by rw [hn49]; first | done | rfl) (by decide) ?_
      refine wp_sub ?_ h
      exact ⟨rfl, ⟨rfl, ⟨rfl, ⟨rfl, trivial⟩⟩⟩⟩
    obtain ⟨hk, h⟩ := h
    by_cases hn50 : (((eS E).2.2 (Int32.toNatClampNeg x3)) &&& 127) = 48
    · have h := hk hn50
      refine wp_tblI (pc := 33) (tgt := 1979) d_L_law_33 (by rw [hn50]; decide) (by rw [hn50]; decide) (by rw [hn50]; first | done | rfl) (by decide) ?_
      refine wp_sub ?_ h
      exact ⟨rfl, ⟨rfl, ⟨rfl, ⟨rfl, trivial⟩⟩⟩⟩
    obtain ⟨hk, h⟩ := h
    by_cases hn51 : (((eS E).2.2 (Int32.toNatClampNeg x3)) &&& 127) = 49
    · have h := hk hn51
      refine wp_tblI (pc := 33) (tgt := 2002) d_L_law_33 (by rw [hn51]; decide) (by rw [hn51]; decide) (by rw [hn51]; first | done | rfl) (by decide) ?_
      refine wp_sub ?_ h
      exact ⟨rfl, ⟨rfl, ⟨rfl, ⟨rfl, trivial⟩⟩⟩⟩
    obtain ⟨hk, h⟩ := h
    by_cases hn52 : (((eS E).2.2 (Int32.toNatClampNeg x3)) &&& 127) = 50
    · have h := hk hn52
      refine wp_tblI (pc := 33) (tgt := 2036) d_L_law_33 (by rw [hn52]; decide) (by rw [hn52]; decide) (by rw [hn52]; first | done | rfl) (by decide) ?_
      refine wp_sub ?_ h
      exact ⟨rfl, ⟨rfl, ⟨rfl, ⟨rfl, trivial⟩⟩⟩⟩
    obtain ⟨hk, h⟩ := h
    by_cases hn53 : (((eS E).2.2 (Int32.toNatClampNeg x3)) &&& 127) = 51
    · have h := hk hn53
      refine wp_tblI (pc := 33) (tgt := 2070) d_L_law_33 (by rw [hn53]; decide) (by rw [hn53]; decide) (by rw [hn53]; first | done | rfl) (by decide) ?_
      refine wp_sub ?_ h
      exact ⟨rfl, ⟨rfl, ⟨rfl, ⟨rfl, trivial⟩⟩⟩⟩
    obtain ⟨hk, h⟩ := h
    by_cases hn54 : (((eS E).2.2 (Int32.toNatClampNeg x3)) &&& 127) = 52
    · have h := hk hn54
      refine wp_tblI (pc := 33) (tgt := 2133) d_L_law_33 (by rw [hn54]; decide) (by rw [hn54]; decide) (by rw [hn54]; first | done | rfl) (by decide) ?_
      refine wp_sub ?_ h
      exact ⟨rfl, ⟨rfl, ⟨rfl, ⟨rfl, trivial⟩⟩⟩⟩
    obtain ⟨hk, h⟩ := h
    by_cases hn55 : (((eS E).2.2 (Int32.toNatClampNeg x3)) &&& 127) = 53
    · have h := hk hn55
      refine wp_tblI (pc := 33) (tgt := 2156) d_L_law_33 (by rw [hn55]; decide) (by rw [hn55]; decide) (by rw [hn55]; first | done | rfl) (by decide) ?_
      refine wp_sub ?_ h
      exact ⟨rfl, ⟨rfl, ⟨rfl, ⟨rfl, trivial⟩⟩⟩⟩
    obtain ⟨hk, h⟩ := h
    by_cases hn56 : (((eS E).2.2 (Int32.toNatClampNeg x3)) &&& 127) = 54
    · have h := hk hn56
      refine wp_tblI (pc := 33) (tgt := 2179) d_L_law_33 (by rw [hn56]; decide) (by rw [hn56]; decide) (by rw [hn56]; first | done | rfl) (by decide) ?_
      refine wp_sub ?_ h
      exact ⟨rfl, ⟨rfl, ⟨rfl, ⟨rfl, trivial⟩⟩⟩⟩
    obtain ⟨hk, h⟩ := h
    by_cases hn57 : (((eS E).2.2 (Int32.toNatClampNeg x3)) &&& 127) = 55
    · have h := hk hn57
      refine wp_tblI (pc := 33) (tgt := 2202) d_L_law_33 (by rw [hn57]; decide) (by rw [hn57]; decide) (by rw [hn57]; first | done | rfl) (by decide) ?_
      refine wp_sub ?_ h
      exact ⟨rfl, ⟨rfl, ⟨rfl, ⟨rfl, trivial⟩⟩⟩⟩
    obtain ⟨hk, h⟩ := h
    by_cases hn58 : (((eS E).2.2 (Int32.toNatClampNeg x3)) &&& 127) = 56
    · have h := hk hn58
      refine wp_tblI (pc := 33) (tgt := 2216) d_L_law_33 (by rw [hn58]; decide) (by rw [hn58]; decide) (by rw [hn58]; first | done | rfl) (by decide) ?_
      refine wp_sub ?_ h
      exact ⟨rfl, ⟨rfl, ⟨rfl, ⟨rfl, trivial⟩⟩⟩⟩
    obtain ⟨hk, h⟩ := h
    by_cases hn59 : (((eS E).2.2 (Int32.toNatClampNeg x3)) &&& 127) = 57
    · have h := hk hn59
      refine wp_tblI (pc := 33) (tgt := 2230) d_L_law_33 (by rw [hn59]; decide) (by rw [hn59]; decide) (by rw [hn59]; first | done | rfl) (by decide) ?_
      refine wp_sub ?_ h
      exact ⟨rfl, ⟨rfl, ⟨rfl, ⟨rfl, trivial⟩⟩⟩⟩
    obtain ⟨hk, h⟩ := h
    by_cases hn60 : (((eS E).2.2 (Int32.toNatClampNeg x3)) &&& 127) = 58
    · have h := hk hn60
      refine wp_tblI (pc := 33) (tgt := 2253) d_L_law_33 (by rw [hn60]; decide) (by rw [hn60]; decide) (by rw [hn60]; first | done | rfl) (by decide) ?_
      refine wp_sub ?_ h
      exact ⟨rfl, ⟨rfl, ⟨rfl, ⟨rfl, trivial⟩⟩⟩⟩
    obtain ⟨hk, h⟩ := h
    by_cases hn61 : (((eS E).2.2 (Int32.toNatClampNeg x3)) &&& 127) = 59
    · have h := hk hn61
      refine wp_tblI (pc := 33) (tgt := 2276) d_L_law_33 (by rw [hn61]; decide) (by rw [hn61]; decide) (by rw [hn61]; first | done | rfl) (by decide) ?_
      refine wp_sub ?_ h
      exact ⟨rfl, ⟨rfl, ⟨rfl, ⟨rfl, trivial⟩⟩⟩⟩
    obtain ⟨hk, h⟩ := h
    by_cases hn62 : (((eS E).2.2 (Int32.toNatClampNeg x3)) &&& 127) = 60
    · have h := hk hn62
      refine wp_tblI (pc := 33) (tgt := 2289) d_L_law_33 (by rw [hn62]; decide) (by rw [hn62]; decide) (by rw [hn62]; first | done | rfl) (by decide) ?_
      refine wp_sub ?_ h
      exact ⟨rfl, ⟨rfl, ⟨rfl, ⟨rfl, trivial⟩⟩⟩⟩
    obtain ⟨hk, h⟩ := h
    by_cases hn63 : (((eS E).2.2 (Int32.toNatClampNeg x3)) &&& 127) = 61
    · have h := hk hn63
      refine wp_tblI (pc := 33) (tgt := 2302) d_L_law_33 (by rw [hn63]; decide) (by rw [hn63]; decide) (by rw [hn63]; first | done | rfl) (by decide) ?_
      refine wp_sub ?_ h
      exact ⟨rfl, ⟨rfl, ⟨rfl, ⟨rfl, trivial⟩⟩⟩⟩
    obtain ⟨hk, h⟩ := h
    by_cases hn64 : (((eS E).2.2 (Int32.toNatClampNeg x3)) &&& 127) = 62
    · have h := hk hn64
      refine wp_tblI (pc := 33) (tgt := 2325) d_L_law_33 (by rw [hn64]; decide) (by rw [hn64]; decide) (by rw [hn64]; first | done | rfl) (by decide) ?_
      refine wp_sub ?_ h
      exact ⟨rfl, ⟨rfl, ⟨rfl, ⟨rfl, trivial⟩⟩⟩⟩
    obtain ⟨hk, h⟩ := h
    by_cases hn65 : (((eS E).2.2 (Int32.toNatClampNeg x3)) &&& 127) = 63
    · have h := hk hn65
      refine wp_tblI (pc := 33) (tgt := 2348) d_L_law_33 (by rw [hn65]; decide) (by rw [hn65]; decide) (by rw [hn65]; first | done | rfl) (by decide) ?_
      refine wp_sub ?_ h
      exact ⟨rfl, ⟨rfl, ⟨rfl, ⟨rfl, trivial⟩⟩⟩⟩
    obtain ⟨hk, h⟩ := h
    by_cases hn66 : (((eS E).2.2 (Int32.toNatClampNeg x3)) &&& 127) = 64
    · have h := hk hn66
      refine wp_tblI (pc := 33) (tgt := 2361) d_L_law_33 (by rw [hn66]; decide) (by rw [hn66]; decide) (by rw [hn66]; first | done | rfl) (by decide) ?_
      refine wp_sub ?_ h
      exact ⟨rfl, ⟨rfl, ⟨rfl, ⟨rfl, trivial⟩⟩⟩⟩
    have h := h hn2 hn3 hn4 hn5 hn6 hn7 hn8 hn9 hn10 hn11 hn12 hn13 hn14 hn15 hn16 hn17 hn18 hn19 hn20 hn21 hn22 hn23 hn24 hn25 hn26 hn27 hn28 hn29 hn30 hn31 hn32 hn33 hn34 hn35 hn36 hn37 hn38 hn39 hn40 hn41 hn42 hn43 hn44 hn45 hn46 hn47 hn48 hn49 hn50 hn51 hn52 hn53 hn54 hn55 hn56 hn57 hn58 hn59 hn60 hn61 hn62 hn63 hn64 hn65 hn66
    have qhn2 := lv_neT (a := 0) hn2 (by decide)
    have qhn3 := lv_neT (a := 1) hn3 (by decide)
    have qhn4 := lv_neT (a := 2) hn4 (by decide)
    have qhn5 := lv_neT (a := 3) hn5 (by decide)
    have qhn6 := lv_neT (a := 4) hn6 (by decide)
    have qhn7 := lv_neT (a := 5) hn7 (by decide)
    have qhn8 := lv_neT (a := 6) hn8 (by decide)
    have qhn9 := lv_neT (a := 7) hn9 (by decide)
    have qhn10 := lv_neT (a := 8) hn10 (by decide)
    have qhn11 := lv_neT (a := 9) hn11 (by decide)
    have qhn12 := lv_neT (a := 10) hn12 (by decide)
    have qhn13 := lv_neT (a := 11) hn13 (by decide)
    have qhn14 := lv_neT (a := 12) hn14 (by decide)
    have qhn15 := lv_neT (a := 13) hn15 (by decide)
    have qhn16 := lv_neT (a := 14) hn16 (by decide)
    have qhn17 := lv_neT (a := 15) hn17 (by decide)
    have qhn18 := lv_neT (a := 16) hn18 (by decide)
    have qhn19 := lv_neT (a := 17) hn19 (by decide)
    have qhn20 := lv_neT (a := 18) hn20 (by decide)
    have qhn21 := lv_neT (a := 19) hn21 (by decide)
    have qhn22 := lv_neT (a := 20) hn22 (by decide)
    have qhn23 := lv_neT (a := 21) hn23 (by decide)
    have qhn24 := lv_neT (a := 22) hn24 (by decide)
    have qhn25 := lv_neT (a := 23) hn25 (by decide)
    have qhn26 := lv_neT (a := 24) hn26 (by decide)
    have qhn27 := lv_neT (a := 25) hn27 (by decide)
    have qhn28 := lv_neT (a := 26) hn28 (by decide)
    have qhn29 := lv_neT (a := 27) hn29 (by decide)
    have qhn30 := lv_neT (a := 28) hn30 (by decide)
    have qhn31 := lv_neT (a := 29) hn31 (by decide)
    have qhn32 := lv_neT (a := 30) hn32 (by decide)
    have qhn33 := lv_neT (a := 31) hn33 (by decide)
    have qhn34 := lv_neT (a := 32) hn34 (by decide)
    have qhn35 := lv_neT (a := 33) hn35 (by decide)
    have qhn36 := lv_neT (a := 34) hn36 (by decide)
    have qhn37 := lv_neT (a := 35) hn37 (by decide)
    have qhn38 := lv_neT (a := 36) hn38 (by decide)
    have qhn39 := lv_neT (a := 37) hn39 (by decide)
    have qhn40 := lv_neT (a := 38) hn40 (by decide)
    have qhn41 := lv_neT (a := 39) hn41 (by decide)
    have qhn42 := lv_neT (a := 40) hn42 (by decide)
    have qhn43 := lv_neT (a := 41) hn43 (by decide)
    have qhn44 := lv_neT (a := 42) hn44 (by decide)
    have qhn45 := lv_neT (a := 43) hn45 (by decide)
    have qhn46 := lv_neT (a := 44) hn46 (by decide)
    have qhn47 := lv_neT (a := 45) hn47 (by decide)
    have qhn48 := lv_neT (a := 46) hn48 (by decide)
    have qhn49 := lv_neT (a := 47) hn49 (by decide)
    have qhn50 := lv_neT (a := 48) hn50 (by decide)
    have qhn51 := lv_neT (a := 49) hn51 (by decide)
    have qhn52 := lv_neT (a := 50) hn52 (by decide)
    have qhn53 := lv_neT (a := 51) hn53 (by decide)
    have qhn54 := lv_neT (a := 52) hn54 (by decide)
    have qhn55 := lv_neT (a := 53) hn55 (by decide)
    have qhn56 := lv_neT (a := 54) hn56 (by decide)
    have qhn57 := lv_neT (a := 55) hn57 (by decide)
    have qhn58 := lv_neT (a := 56) hn58 (by decide)
    have qhn59 := lv_neT (a := 57) hn59 (by decide)
    have qhn60 := lv_neT (a := 58) hn60 (by decide)
    have qhn61 := lv_neT (a := 59) hn61 (by decide)
    have qhn62 := lv_neT (a := 60) hn62 (by decide)
    have qhn63 := lv_neT (a := 61) hn63 (by decide)
    have qhn64 := lv_neT (a := 62) hn64 (by decide)
    have qhn65 := lv_neT (a := 63) hn65 (by decide)
    have qhn66 := lv_neT (a := 64) hn66 (by decide)
    refine wp_tblO (pc := 33) (tgt := 2374) d_L_law_33 (by omega) (by decide) ?_
    refine wp_sub ?_ h
    exact ⟨rfl, ⟨rfl, ⟨rfl, ⟨rfl, trivial⟩⟩⟩⟩
theorem v_L_law_308 {E : EE} {d : Nat} {Q : Option AV → AH → Prop} {x1 : Nat} {x2 : Nat} {x3 : Int32} {G : AH} (h0 : 0 < d) (h : vp_in (x3 + 1) (eS E).2.1 ∧ (vp_in (x3 + 2) (eS E).2.1 ∧ (vp_in (x3 + 3) (eS E).2.1 ∧ (isO E G x1 11 ∧ (wpI E (d - 1) M_X11_type [vr x1, vj (((Int32.toInt64 ((eS E).2.2 (Int32.toNatClampNeg (x3 + 1)))) <<< (Int32.toInt64 32 &&& 63)) ||| ((Int32.toInt64 ((eS E).2.2 (Int32.toNatClampNeg (x3 + 2)))) &&& 4294967295)), vi ((eS E).2.2 (Int32.toNatClampNeg (x3 + 3)))] G (fun r4 G5 => vp_in (x3 + 1) (eS E).2.1 ∧ (vp_in (x3 + 2) (eS E).2.1 ∧ (vp_in (x3 + 3) (eS E).2.1 ∧ (isO E G5 x2 12 ∧ (wpI E (d - 1) M_X12_type [vr x2, vj (((Int32.toInt64 ((eS E).2.2 (Int32.toNatClampNeg (x3 + 1)))) <<< (Int32.toInt64 32 &&& 63)) ||| ((Int32.toInt64 ((eS E).2.2 (Int32.toNatClampNeg (x3 + 2)))) &&& 4294967295)), vi ((eS E).2.2 (Int32.toNatClampNeg (x3 + 3)))] G5 (fun r9 G10 => (r4 = r9 → wp E d M_L_law 2374 [some (vs (eS E).1), some (vr x1), some (vr x2), some (vi x3)] [] G10 Q) ∧ (¬ (r4 = r9) → Q (some (vi 0)) G10)))))))))))) : wp E d M_L_law 308 [some (vs (eS E).1), some (vr x1), some (vr x2), some (vi x3)] [] G Q := by
  refine wp_aload_n (pc := 308) d_L_law_308 rfl ?_
  refine wp_aload_nS (pc := 309) d_L_law_309 rfl ?_
  refine wp_iload_n (pc := 310) d_L_law_310 rfl ?_
  refine wp_iconst (pc := 311) (v := 1) d_L_law_311 rfl ?_
  refine wp_iadd (pc := 312) d_L_law_312 ?_
  obtain ⟨hi1, h⟩ := h
  refine wp_sld (pc := 313) d_L_law_313 hi1 ?_
  refine wp_i2l (pc := 314) d_L_law_314 ?_
  refine wp_bipush (pc := 315) (v := 32) d_L_law_315 rfl ?_
  refine wp_lshl (pc := 317) d_L_law_317 ?_
  refine wp_aload_nS (pc := 318) d_L_law_318 rfl ?_
  refine wp_iload_n (pc := 319) d_L_law_319 rfl ?_
  refine wp_iconst (pc := 320) (v := 2) d_L_law_320 rfl ?_
  refine wp_iadd (pc := 321) d_L_law_321 ?_
  obtain ⟨hi2, h⟩ := h
  refine wp_sld (pc := 322) d_L_law_322 hi2 ?_
  refine wp_i2l (pc := 323) d_L_law_323 ?_
  refine wp_ldc2 (pc := 324) (v := 4294967295) d_L_law_324 cj_L_13 ?_
  refine wp_land (pc := 327) d_L_law_327 ?_
  refine wp_lor (pc := 328) d_L_law_328 ?_
  refine wp_aload_nS (pc := 329) d_L_law_329 rfl ?_
  refine wp_iload_n (pc := 330) d_L_law_330 rfl ?_
  refine wp_iconst (pc := 331) (v := 3) d_L_law_331 rfl ?_
  refine wp_iadd (pc := 332) d_L_law_332 ?_
  obtain ⟨hi3, h⟩ := h
  refine wp_sld (pc := 333) d_L_law_333 hi3 ?_
  obtain ⟨ho12, h⟩ := h
  refine wp_invV (pc := 334) (N := M_X11_type) (As := [vj _, vi _]) (rest := []) (r := (cn_11, ct_11, 12)) d_L_law_334 ml_L_15 mk_X11_type mv_X11_type h0 ho12 rfl rfl (Nat.le_of_ble_eq_true rfl) ?_
  refine wpM.mono h (fun rr G5 hr => ?_)
  obtain ⟨r4, rfl, h⟩ := hr
  show wp E d M_L_law 337 [some (vs (eS E).1), some (vr _), some (vr _), some (vi _)] [vi _] G5 Q
  refine wp_aload_n (pc := 337) d_L_law_337 rfl ?_
  refine wp_aload_nS (pc := 338) d_L_law_338 rfl ?_
  refine wp_iload_n (pc := 339) d_L_law_339 rfl ?_
  refine wp_iconst (pc := 340) (v := 1) d_L_law_340 rfl ?_
  refine wp_iadd (pc := 341) d_L_law_341 ?_
  obtain ⟨hi6, h⟩ := h
  refine wp_sld (pc := 342) d_L_law_342 hi6 ?_
  refine wp_i2l (pc := 343) d_L_law_343 ?_
  refine wp_bipush (pc := 344) (v := 32) d_L_law_344 rfl ?_
  refine wp_lshl (pc := 346) d_L_law_346 ?_
  refine wp_aload_nS (pc := 347) d_L_law_347 rfl ?_
  refine wp_iload_n (pc := 348) d_L_law_348 rfl ?_
  refine wp_iconst (pc := 349) (v := 2) d_L_law_349 rfl ?_
  refine wp_iadd (pc := 350) d_L_law_350 ?_
  obtain ⟨hi7, h⟩ := h
  refine wp_sld (pc := 351) d_L_law_351 hi7 ?_
  refine wp_i2l (pc := 352) d_L_law_352 ?_
  refine wp_ldc2 (pc := 353) (v := 4294967295) d_L_law_353 cj_L_13 ?_
  refine wp_land (pc := 356) d_L_law_356 ?_
  refine wp_lor (pc := 357) d_L_law_357 ?_
  refine wp_aload_nS (pc := 358) d_L_law_358 rfl ?_
  refine wp_iload_n (pc := 359) d_L_law_359 rfl ?_
  refine wp_iconst (pc := 360) (v := 3) d_L_law_360 rfl ?_
  refine wp_iadd (pc := 361) d_L_law_361 ?_
  obtain ⟨hi8, h⟩ := h
  refine wp_sld (pc := 362) d_L_law_362 hi8 ?_
  obtain ⟨ho11, h⟩ := h
  refine wp_invV (pc := 363) (N := M_X12_type) (As := [vj _, vi _]) (rest := [vi _]) (r := (cn_12, ct_12, 95)) d_L_law_363 ml_L_19 mk_X12_type mv_X12_type h0 ho11 rfl rfl (Nat.le_of_ble_eq_true rfl) ?_
  refine wpM.mono h (fun rr G10 hr => ?_)
  obtain ⟨r9, rfl, h⟩ := hr
  show wp E d M_L_law 366 [some (vs (eS E).1), some (vr _), some (vr _), some (vi _)] [vi _, vi _] G10 Q
  refine wp_icmp_eq (pc := 366) (tgt := 2374) d_L_law_366 (by decide) (fun hc => ?_) (fun hc => ?_)
  · have h := h.1 hc
    refine wp_sub ?_ h
    exact ⟨rfl, ⟨rfl, ⟨rfl, ⟨rfl, trivial⟩⟩⟩⟩
  · have h := h.2 hc
    refine wp_iconst (pc := 369) (v := 0) d_L_law_369 rfl ?_
    exact wp_zret (pc := 370) d_L_law_370 rfl rfl h
theorem v_L_law_371 {E : EE} {d : Nat} {Q : Option AV → AH → Prop} {x1 : Nat} {x2 : Nat} {x3 : Int32} {G : AH} (h0 : 0 < d) (h : vp_in (x3 + 1) (eS E).2.1 ∧ (isO E G x1 11 ∧ (wpI E (d - 1) M_X11_cut [vr x1, vi ((eS E).2.2 (Int32.toNatClampNeg (x3 + 1)))] G (fun r2 G3 => vp_in (x3 + 1) (eS E).2.1 ∧ (isO E G3 x2 12 ∧ (wpI E (d - 1) M_X12_cut [vr x2, vi ((eS E).2.2 (Int32.toNatClampNeg (x3 + 1)))] G3 (fun r5 G6 => (r2 = r5 → wp E d M_L_law 2374 [some (vs (eS E).1), some (vr x1), some (vr x2), some (vi x3)] [] G6 Q) ∧ (¬ (r2 = r5) → Q (some (vi 0)) G6)))))))) : wp E d M_L_law 371 [some (vs (eS E).1), some (vr x1), some (vr x2), some (vi x3)] [] G Q := by
  refine wp_aload_n (pc := 371) d_L_law_371 rfl ?_
  refine wp_aload_nS (pc := 372) d_L_law_372 rfl ?_
  refine wp_iload_n (pc := 373) d_L_law_373 rfl ?_
  refine wp_iconst (pc := 374) (v := 1) d_L_law_374 rfl ?_
  refine wp_iadd (pc := 375) d_L_law_375 ?_
  obtain ⟨hi1, h⟩ := h
  refine wp_sld (pc := 376) d_L_law_376 hi1 ?_
  obtain ⟨ho8, h⟩ := h
  refine wp_invV (pc := 377) (N := M_X11_cut) (As := [vi _]) (rest := []) (r := (cn_11, ct_11, 12)) d_L_law_377 ml_L_20 mk_X11_cut mv_X11_cut h0 ho8 rfl rfl (Nat.le_of_ble_eq_true rfl) ?_
  refine wpM.mono h (fun rr G3 hr => ?_)
  obtain ⟨r2, rfl, h⟩ := hr
  show wp E d M_L_law 380 [some (vs (eS E).1), some (vr _), some (vr _), some (vi _)] [vi _] G3 Q
  refine wp_aload_n (pc := 380) d_L_law_380 rfl ?_
  refine wp_aload_nS (pc := 381) d_L_law_381 rfl ?_
  refine wp_iload_n (pc := 382) d_L_law_382 rfl ?_
  refine wp_iconst (pc := 383) (v := 1) d_L_law_383 rfl ?_
  refine wp_iadd (pc := 384) d_L_law_384 ?_
  obtain ⟨hi4, h⟩ := h
  refine wp_sld (pc := 385) d_L_law_385 hi4 ?_
  obtain ⟨ho7, h⟩ := h
  refine wp_invV (pc := 386) (N := M_X12_cut) (As := [vi _]) (rest := [vi _]) (r := (cn_12, ct_12, 95)) d_L_law_386 ml_L_24 mk_X12_cut mv_X12_cut h0 ho7 rfl rfl (Nat.le_of_ble_eq_true rfl) ?_
  refine wpM.mono h (fun rr G6 hr => ?_)
  obtain ⟨r5, rfl, h⟩ := hr
  show wp E d M_L_law 389 [some (vs (eS E).1), some (vr _), some (vr _), some (vi _)] [vi _, vi _] G6 Q
  refine wp_icmp_eq (pc := 389) (tgt := 2374) d_L_law_389 (by decide) (fun hc => ?_) (fun hc => ?_)
  · have h := h.1 hc
    refine wp_sub ?_ h
    exact ⟨rfl, ⟨rfl, ⟨rfl, ⟨rfl, trivial⟩⟩⟩⟩
  · have h := h.2 hc
    refine wp_iconst (pc := 392) (v := 0) d_L_law_392 rfl ?_
    exact wp_zret (pc := 393) d_L_law_393 rfl rfl h
theorem v_L_law_394 {E : EE} {d : Nat} {Q : Option AV → AH → Prop} {x1 : Nat} {x2 : Nat} {x3 : Int32} {G : AH} (h0 : 0 < d) (h : vp_in (x3 + 1) (eS E).2.1 ∧ (vp_in (x3 + 2) (eS E).2.1 ∧ (isO E G x1 11 ∧ (wpI E (d - 1) M_X11_spoil [vr x1, vi ((eS E).2.2 (Int32.toNatClampNeg (x3 + 1))), vi ((eS E).2.2 (Int32.toNatClampNeg (x3 + 2)))] G (fun r3 G4 => vp_in (x3 + 1) (eS E).2.1 ∧ (vp_in (x3 + 2) (eS E).2.1 ∧ (isO E G4 x2 12 ∧ (wpI E (d - 1) M_X12_spoil [vr x2, vi ((eS E).2.2 (Int32.toNatClampNeg (x3 + 1))), vi ((eS E).2.2 (Int32.toNatClampNeg (x3 + 2)))] G4 (fun r7 G8 => (r3 = r7 → wp E d M_L_law 2374 [some (vs (eS E).1), some (vr x1), some (vr x2), some (vi x3)] [] G8 Q) ∧ (¬ (r3 = r7) → Q (some (vi 0)) G8)))))))))) : wp E d M_L_law 394 [some (vs (eS E).1), some (vr x1), some (vr x2), some (vi x3)] [] G Q := by
  refine wp_aload_n (pc := 394) d_L_law_394 rfl ?_
  refine wp_aload_nS (pc := 395) d_L_law_395 rfl ?_
  refine wp_iload_n (pc := 396) d_L_law_396 rfl ?_
  refine wp_iconst (pc := 397) (v := 1) d_L_law_397 rfl ?_
  refine wp_iadd (pc := 398) d_L_law_398 ?_
  obtain ⟨hi1, h⟩ := h
  refine wp_sld (pc := 399) d_L_law_399 hi1 ?_
  refine wp_aload_nS (pc := 400) d_L_law_400 rfl ?_
  refine wp_iload_n (pc := 401) d_L_law_401 rfl ?_
  refine wp_iconst (pc := 402) (v := 2) d_L_law_402 rfl ?_
  refine wp_iadd (pc := 403) d_L_law_403 ?_
  obtain ⟨hi2, h⟩ := h
  refine wp_sld (pc := 404) d_L_law_404 hi2 ?_
  obtain ⟨ho10, h⟩ := h
  refine wp_invV (pc := 405) (N := M_X11_spoil) (As := [vi _, vi _]) (rest := []) (r := (cn_11, ct_11, 12)) d_L_law_405 ml_L_25 mk_X11_spoil mv_X11_spoil h0 ho10 rfl rfl (Nat.le_of_ble_eq_true rfl) ?_
  refine wpM.mono h (fun rr G4 hr => ?_)
  obtain ⟨r3, rfl, h⟩ := hr
  show wp E d M_L_law 408 [some (vs (eS E).1), some (vr _), some (vr _), some (vi _)] [vi _] G4 Q
  refine wp_aload_n (pc := 408) d_L_law_408 rfl ?_
  refine wp_aload_nS (pc := 409) d_L_law_409 rfl ?_
  refine wp_iload_n (pc := 410) d_L_law_410 rfl ?_
  refine wp_iconst (pc := 411) (v := 1) d_L_law_411 rfl ?_
  refine wp_iadd (pc := 412) d_L_law_412 ?_
  obtain ⟨hi5, h⟩ := h
  refine wp_sld (pc := 413) d_L_law_413 hi5 ?_
  refine wp_aload_nS (pc := 414) d_L_law_414 rfl ?_
  refine wp_iload_n (pc := 415) d_L_law_415 rfl ?_
  refine wp_iconst (pc := 416) (v := 2) d_L_law_416 rfl ?_
  refine wp_iadd (pc := 417) d_L_law_417 ?_
  obtain ⟨hi6, h⟩ := h
  refine wp_sld (pc := 418) d_L_law_418 hi6 ?_
  obtain ⟨ho9, h⟩ := h
  refine wp_invV (pc := 419) (N := M_X12_spoil) (As := [vi _, vi _]) (rest := [vi _]) (r := (cn_12, ct_12, 95)) d_L_law_419 ml_L_29 mk_X12_spoil mv_X12_spoil h0 ho9 rfl rfl (Nat.le_of_ble_eq_true rfl) ?_
  refine wpM.mono h (fun rr G8 hr => ?_)
  obtain ⟨r7, rfl, h⟩ := hr
  show wp E d M_L_law 422 [some (vs (eS E).1), some (vr _), some (vr _), some (vi _)] [vi _, vi _] G8 Q
  refine wp_icmp_eq (pc := 422) (tgt := 2374) d_L_law_422 (by decide) (fun hc => ?_) (fun hc => ?_)
  · have h := h.1 hc
    refine wp_sub ?_ h
    exact ⟨rfl, ⟨rfl, ⟨rfl, ⟨rfl, trivial⟩⟩⟩⟩
  · have h := h.2 hc
    refine wp_iconst (pc := 425) (v := 0) d_L_law_425 rfl ?_
    exact wp_zret (pc := 426) d_L_law_426 rfl rfl h
theorem v_L_law_427 {E : EE} {d : Nat} {Q : Option AV → AH → Prop} {x1 : Nat} {x2 : Nat} {x3 : Int32} {G : AH} (h0 : 0 < d) (h : vp_in (x3 + 1) (eS E).2.1 ∧ (isO E G x1 11 ∧ (wpI E (d - 1) M_X11_tapeAt [vr x1, vi ((eS E).2.2 (Int32.toNatClampNeg (x3 + 1)))] G (fun r2 G3 => vp_in (x3 + 1) (eS E).2.1 ∧ (isO E G3 x2 12 ∧ (wpI E (d - 1) M_X12_tapeAt [vr x2, vi ((eS E).2.2 (Int32.toNatClampNeg (x3 + 1)))] G3 (fun r5 G6 => (r2 = r5 → wp E d M_L_law 2374 [some (vs (eS E).1), some (vr x1), some (vr x2), some (vi x3)] [] G6 Q) ∧ (¬ (r2 = r5) → Q (some (vi 0)) G6)))))))) : wp E d M_L_law 427 [some (vs (eS E).1), some (vr x1), some (vr x2), some (vi x3)] [] G Q := by
  refine wp_aload_n (pc := 427) d_L_law_427 rfl ?_
  refine wp_aload_nS (pc := 428) d_L_law_428 rfl ?_
  refine wp_iload_n (pc := 429) d_L_law_429 rfl ?_
  refine wp_iconst (pc := 430) (v := 1) d_L_law_430 rfl ?_
  refine wp_iadd (pc := 431) d_L_law_431 ?_
  obtain ⟨hi1, h⟩ := h
  refine wp_sld (pc := 432) d_L_law_432 hi1 ?_
  obtain ⟨ho8, h⟩ := h
  refine wp_invV (pc := 433) (N := M_X11_tapeAt) (As := [vi _]) (rest := []) (r := (cn_11, ct_11, 12)) d_L_law_433 ml_L_30 mk_X11_tapeAt mv_X11_tapeAt h0 ho8 rfl rfl (Nat.le_of_ble_eq_true rfl) ?_
  refine wpM.mono h (fun rr G3 hr => ?_)
  obtain ⟨r2, rfl, h⟩ := hr
  show wp E d M_L_law 436 [some (vs (eS E).1), some (vr _), some (vr _), some (vi _)] [vi _] G3 Q
  refine wp_aload_n (pc := 436) d_L_law_436 rfl ?_
  refine wp_aload_nS (pc := 437) d_L_law_437 rfl ?_
  refine wp_iload_n (pc := 438) d_L_law_438 rfl ?_
  refine wp_iconst (pc := 439) (v := 1) d_L_law_439 rfl ?_
  refine wp_iadd (pc := 440) d_L_law_440 ?_
  obtain ⟨hi4, h⟩ := h
  refine wp_sld (pc := 441) d_L_law_441 hi4 ?_
  obtain ⟨ho7, h⟩ := h
  refine wp_invV (pc := 442) (N := M_X12_tapeAt) (As := [vi _]) (rest := [vi _]) (r := (cn_12, ct_12, 95)) d_L_law_442 ml_L_33 mk_X12_tapeAt mv_X12_tapeAt h0 ho7 rfl rfl (Nat.le_of_ble_eq_true rfl) ?_
  refine wpM.mono h (fun rr G6 hr => ?_)
  obtain ⟨r5, rfl, h⟩ := hr
  show wp E d M_L_law 445 [some (vs (eS E).1), some (vr _), some (vr _), some (vi _)] [vi _, vi _] G6 Q
  refine wp_icmp_eq (pc := 445) (tgt := 2374) d_L_law_445 (by decide) (fun hc => ?_) (fun hc => ?_)
  · have h := h.1 hc
    refine wp_sub ?_ h
    exact ⟨rfl, ⟨rfl, ⟨rfl, ⟨rfl, trivial⟩⟩⟩⟩
  · have h := h.2 hc
    refine wp_iconst (pc := 448) (v := 0) d_L_law_448 rfl ?_
    exact wp_zret (pc := 449) d_L_law_449 rfl rfl h
theorem v_L_law_450 {E : EE} {d : Nat} {Q : Option AV → AH → Prop} {x1 : Nat} {x2 : Nat} {x3 : Int32} {G : AH} (h0 : 0 < d) (h : isO E G x1 11 ∧ (wpI E (d - 1) M_X11_problem [vr x1] G (fun r1 G2 => isO E G2 x2 12 ∧ (wpI E (d - 1) M_X12_problem [vr x2] G2 (fun r3 G4 => (r1 = r3 → wp E d M_L_law 2374 [some (vs (eS E).1), some (vr x1), some (vr x2), some (vi x3)] [] G4 Q) ∧ (¬ (r1 = r3) → Q (some (vi 0)) G4)))))) : wp E d M_L_law 450 [some (vs (eS E).1), some (vr x1), some (vr x2), some (vi x3)] [] G Q := by
  refine wp_aload_n (pc := 450) d_L_law_450 rfl ?_
  obtain ⟨ho6, h⟩ := h
  refine wp_invV (pc := 451) (N := M_X11_problem) (As := []) (rest := []) (r := (cn_11, ct_11, 12)) d_L_law_451 ml_L_34 mk_X11_problem mv_X11_problem h0 ho6 rfl rfl (Nat.le_of_ble_eq_true rfl) ?_
  refine wpM.mono h (fun rr G2 hr => ?_)
  obtain ⟨r1, rfl, h⟩ := hr
  show wp E d M_L_law 454 [some (vs (eS E).1), some (vr _), some (vr _), some (vi _)] [vi _] G2 Q
  refine wp_aload_n (pc := 454) d_L_law_454 rfl ?_
  obtain ⟨ho5, h⟩ := h
  refine wp_invV (pc := 455) (N := M_X12_problem) (As := []) (rest := [vi _]) (r := (cn_12, ct_12, 95)) d_L_law_455 ml_L_38 mk_X12_problem mv_X12_problem h0 ho5 rfl rfl (Nat.le_of_ble_eq_true rfl) ?_
  refine wpM.mono h (fun rr G4 hr => ?_)
  obtain ⟨r3, rfl, h⟩ := hr
  show wp E d M_L_law 458 [some (vs (eS E).1), some (vr _), some (vr _), some (vi _)] [vi _, vi _] G4 Q
  refine wp_icmp_eq (pc := 458) (tgt := 2374) d_L_law_458 (by decide) (fun hc => ?_) (fun hc => ?_)
  · have h := h.1 hc
    refine wp_sub ?_ h
    exact ⟨rfl, ⟨rfl, ⟨rfl, ⟨rfl, trivial⟩⟩⟩⟩
  · have h := h.2 hc
    refine wp_iconst (pc := 461) (v := 0) d_L_law_461 rfl ?_
    exact wp_zret (pc := 462) d_L_law_462 rfl rfl h
theorem v_L_law_463 {E : EE} {d : Nat} {Q : Option AV → AH → Prop} {x1 : Nat} {x2 : Nat} {x3 : Int32} {G : AH} (h0 : 0 < d) (h : isO E G x1 11 ∧ (wpI E (d - 1) M_X11_fault [vr x1] G (fun r1 G2 => isO E G2 x2 12 ∧ (wpI E (d - 1) M_X12_fault [vr x2] G2 (fun r3 G4 => (r1 = r3 → wp E d M_L_law 2374 [some (vs (eS E).1), some (vr x1), some (vr x2), some (vi x3)] [] G4 Q) ∧ (¬ (r1 = r3) → Q (some (vi 0)) G4)))))) : wp E d M_L_law 463 [some (vs (eS E).1), some (vr x1), some (vr x2), some (vi x3)] [] G Q := by
  refine wp_aload_n (pc := 463) d_L_law_463 rfl ?_
  obtain ⟨ho6, h⟩ := h
  refine wp_invV (pc := 464) (N := M_X11_fault) (As := []) (rest := []) (r := (cn_11, ct_11, 12)) d_L_law_464 ml_L_39 mk_X11_fault mv_X11_fault h0 ho6 rfl rfl (Nat.le_of_ble_eq_true rfl) ?_
  refine wpM.mono h (fun rr G2 hr => ?_)
  obtain ⟨r1, rfl, h⟩ := hr
  show wp E d M_L_law 467 [some (vs (eS E).1), some (vr _), some (vr _), some (vi _)] [vi _] G2 Q
  refine wp_aload_n (pc := 467) d_L_law_467 rfl ?_
  obtain ⟨ho5, h⟩ := h
  refine wp_invV (pc := 468) (N := M_X12_fault) (As := []) (rest := [vi _]) (r := (cn_12, ct_12, 95)) d_L_law_468 ml_L_42 mk_X12_fault mv_X12_fault h0 ho5 rfl rfl (Nat.le_of_ble_eq_true rfl) ?_
  refine wpM.mono h (fun rr G4 hr => ?_)
  obtain ⟨r3, rfl, h⟩ := hr
  show wp E d M_L_law 471 [some (vs (eS E).1), some (vr _), some (vr _), some (vi _)] [vi _, vi _] G4 Q
  refine wp_icmp_eq (pc := 471) (tgt := 2374) d_L_law_471 (by decide) (fun hc => ?_) (fun hc => ?_)
  · have h := h.1 hc
    refine wp_sub ?_ h
    exact ⟨rfl, ⟨rfl, ⟨rfl, ⟨rfl, trivial⟩⟩⟩⟩
  · have h := h.2 hc
    refine wp_iconst (pc := 474) (v := 0) d_L_law_474 rfl ?_
    exact wp_zret (pc := 475) d_L_law_475 rfl rfl h
theorem v_L_law_476 {E : EE} {d : Nat} {Q : Option AV → AH → Prop} {x1 : Nat} {x2 : Nat} {x3 : Int32} {G : AH} (h0 : 0 < d) (h : vp_in (x3 + 1) (eS E).2.1 ∧ (isO E G x1 11 ∧ (wpI E (d - 1) M_X11_drop [vr x1, vi ((eS E).2.2 (Int32.toNatClampNeg (x3 + 1)))] G (fun r2 G3 => vp_in (x3 + 1) (eS E).2.1 ∧ (isO E G3 x2 12 ∧ (wpI E (d - 1) M_X12_drop [vr x2, vi ((eS E).2.2 (Int32.toNatClampNeg (x3 + 1)))] G3 (fun r5 G6 => (r2 = r5 → wp E d M_L_law 2374 [some (vs (eS E).1), some (vr x1), some (vr x2), some (vi x3)] [] G6 Q) ∧ (¬ (r2 = r5) → Q (some (vi 0)) G6)))))))) : wp E d M_L_law 476 [some (vs (eS E).1), some (vr x1), some (vr x2), some (vi x3)] [] G Q := by
  refine wp_aload_n (pc := 476) d_L_law_476 rfl ?_
  refine wp_aload_nS (pc := 477) d_L_law_477 rfl ?_
  refine wp_iload_n (pc := 478) d_L_law_478 rfl ?_
  refine wp_iconst (pc := 479) (v := 1) d_L_law_479 rfl ?_
  refine wp_iadd (pc := 480) d_L_law_480 ?_
  obtain ⟨hi1, h⟩ := h
  refine wp_sld (pc := 481) d_L_law_481 hi1 ?_
  obtain ⟨ho8, h⟩ := h
  refine wp_invV (pc := 482) (N := M_X11_drop) (As := [vi _]) (rest := []) (r := (cn_11, ct_11, 12)) d_L_law_482 ml_L_43 mk_X11_drop mv_X11_drop h0 ho8 rfl rfl (Nat.le_of_ble_eq_true rfl) ?_
  refine wpM.mono h (fun rr G3 hr => ?_)
  obtain ⟨r2, rfl, h⟩ := hr
  show wp E d M_L_law 485 [some (vs (eS E).1), some (vr _), some (vr _), some (vi _)] [vi _] G3 Q
  refine wp_aload_n (pc := 485) d_L_law_485 rfl ?_
  refine wp_aload_nS (pc := 486) d_L_law_486 rfl ?_
  refine wp_iload_n (pc := 487) d_L_law_487 rfl ?_
  refine wp_iconst (pc := 488) (v := 1) d_L_law_488 rfl ?_
  refine wp_iadd (pc := 489) d_L_law_489 ?_
  obtain ⟨hi4, h⟩ := h
  refine wp_sld (pc := 490) d_L_law_490 hi4 ?_
  obtain ⟨ho7, h⟩ := h
  refine wp_invV (pc := 491) (N := M_X12_drop) (As := [vi _]) (rest := [vi _]) (r := (cn_12, ct_12, 95)) d_L_law_491 ml_L_47 mk_X12_drop mv_X12_drop h0 ho7 rfl rfl (Nat.le_of_ble_eq_true rfl) ?_
  refine wpM.mono h (fun rr G6 hr => ?_)
  obtain ⟨r5, rfl, h⟩ := hr
  show wp E d M_L_law 494 [some (vs (eS E).1), some (vr _), some (vr _), some (vi _)] [vi _, vi _] G6 Q
  refine wp_icmp_eq (pc := 494) (tgt := 2374) d_L_law_494 (by decide) (fun hc => ?_) (fun hc => ?_)
  · have h := h.1 hc
    refine wp_sub ?_ h
    exact ⟨rfl, ⟨rfl, ⟨rfl, ⟨rfl, trivial⟩⟩⟩⟩
  · have h := h.2 hc
    refine wp_iconst (pc := 497) (v := 0) d_L_law_497 rfl ?_
    exact wp_zret (pc := 498) d_L_law_498 rfl rfl h
theorem v_L_law_499 {E : EE} {d : Nat} {Q : Option AV → AH → Prop} {x1 : Nat} {x2 : Nat} {x3 : Int32} {G : AH} (h0 : 0 < d) (h : vp_in (x3 + 1) (eS E).2.1 ∧ (vp_in (x3 + 2) (eS E).2.1 ∧ (isO E G x1 11 ∧ (wpI E (d - 1) M_X11_count [vr x1, vi ((eS E).2.2 (Int32.toNatClampNeg (x3 + 1))), vi ((eS E).2.2 (Int32.toNatClampNeg (x3 + 2)))] G (fun r3 G4 => vp_in (x3 + 1) (eS E).2.1 ∧ (vp_in (x3 + 2) (eS E).2.1 ∧ (isO E G4 x2 12 ∧ (wpI E (d - 1) M_X12_count [vr x2, vi ((eS E).2.2 (Int32.toNatClampNeg (x3 + 1))), vi ((eS E).2.2 (Int32.toNatClampNeg (x3 + 2)))] G4 (fun r7 G8 => (r3 = r7 → wp E d M_L_law 2374 [some (vs (eS E).1), some (vr x1), some (vr x2), some (vi x3)] [] G8 Q) ∧ (¬ (r3 = r7) → Q (some (vi 0)) G8)))))))))) : wp E d M_L_law 499 [some (vs (eS E).1), some (vr x1), some (vr x2), some (vi x3)] [] G Q := by
  refine wp_aload_n (pc := 499) d_L_law_499 rfl ?_
  refine wp_aload_nS (pc := 500) d_L_law_500 rfl ?_
  refine wp_iload_n (pc := 501) d_L_law_501 rfl ?_
  refine wp_iconst (pc := 502) (v := 1) d_L_law_502 rfl ?_
  refine wp_iadd (pc := 503) d_L_law_503 ?_
  obtain ⟨hi1, h⟩ := h
  refine wp_sld (pc := 504) d_L_law_504 hi1 ?_
  refine wp_aload_nS (pc := 505) d_L_law_505 rfl ?_
  refine wp_iload_n (pc := 506) d_L_law_506 rfl ?_
  refine wp_iconst (pc := 507) (v := 2) d_L_law_507 rfl ?_
  refine wp_iadd (pc := 508) d_L_law_508 ?_
  obtain ⟨hi2, h⟩ := h
  refine wp_sld (pc := 509) d_L_law_509 hi2 ?_
  obtain ⟨ho10, h⟩ := h
  refine wp_invV (pc := 510) (N := M_X11_count) (As := [vi _, vi _]) (rest := []) (r := (cn_11, ct_11, 12)) d_L_law_510 ml_L_48 mk_X11_count mv_X11_count h0 ho10 rfl rfl (Nat.le_of_ble_eq_true rfl) ?_
  refine wpM.mono h (fun rr G4 hr => ?_)
  obtain ⟨r3, rfl, h⟩ := hr
  show wp E d M_L_law 513 [some (vs (eS E).1), some (vr _), some (vr _), some (vi _)] [vi _] G4 Q
  refine wp_aload_n (pc := 513) d_L_law_513 rfl ?_
  refine wp_aload_nS (pc := 514) d_L_law_514 rfl ?_
  refine wp_iload_n (pc := 515) d_L_law_515 rfl ?_
  refine wp_iconst (pc := 516) (v := 1) d_L_law_516 rfl ?_
  refine wp_iadd (pc := 517) d_L_law_517 ?_
  obtain ⟨hi5, h⟩ := h
  refine wp_sld (pc := 518) d_L_law_518 hi5 ?_
  refine wp_aload_nS (pc := 519) d_L_law_519 rfl ?_
  refine wp_iload_n (pc := 520) d_L_law_520 rfl ?_
  refine wp_iconst (pc := 521) (v := 2) d_L_law_521 rfl ?_
  refine wp_iadd (pc := 522) d_L_law_522 ?_
  obtain ⟨hi6, h⟩ := h
  refine wp_sld (pc := 523) d_L_law_523 hi6 ?_
  obtain ⟨ho9, h⟩ := h
  refine wp_invV (pc := 524) (N := M_X12_count) (As := [vi _, vi _]) (rest := [vi _]) (r := (cn_12, ct_12, 95)) d_L_law_524 ml_L_51 mk_X12_count mv_X12_count h0 ho9 rfl rfl (Nat.le_of_ble_eq_true rfl) ?_
  refine wpM.mono h (fun rr G8 hr => ?_)
  obtain ⟨r7, rfl, h⟩ := hr
  show wp E d M_L_law 527 [some (vs (eS E).1), some (vr _), some (vr _), some (vi _)] [vi _, vi _] G8 Q
  refine wp_icmp_eq (pc := 527) (tgt := 2374) d_L_law_527 (by decide) (fun hc => ?_) (fun hc => ?_)
  · have h := h.1 hc
    refine wp_sub ?_ h
    exact ⟨rfl, ⟨rfl, ⟨rfl, ⟨rfl, trivial⟩⟩⟩⟩
  · have h := h.2 hc
    refine wp_iconst (pc := 530) (v := 0) d_L_law_530 rfl ?_
    exact wp_zret (pc := 531) d_L_law_531 rfl rfl h
theorem v_L_law_532 {E : EE} {d : Nat} {Q : Option AV → AH → Prop} {x1 : Nat} {x2 : Nat} {x3 : Int32} {G : AH} (h0 : 0 < d) (h : vp_in (x3 + 1) (eS E).2.1 ∧ (isO E G x1 11 ∧ (wpI E (d - 1) M_X11_find [vr x1, vi ((eS E).2.2 (Int32.toNatClampNeg (x3 + 1)))] G (fun r2 G3 => vp_in (x3 + 1) (eS E).2.1 ∧ (isO E G3 x2 12 ∧ (wpI E (d - 1) M_X12_find [vr x2, vi ((eS E).2.2 (Int32.toNatClampNeg (x3 + 1)))] G3 (fun r5 G6 => (r2 = r5 → wp E d M_L_law 2374 [some (vs (eS E).1), some (vr x1), some (vr x2), some (vi x3)] [] G6 Q) ∧ (¬ (r2 = r5) → Q (some (vi 0)) G6)))))))) : wp E d M_L_law 532 [some (vs (eS E).1), some (vr x1), some (vr x2), some (vi x3)] [] G Q := by
  refine wp_aload_n (pc := 532) d_L_law_532 rfl ?_
  refine wp_aload_nS (pc := 533) d_L_law_533 rfl ?_
  refine wp_iload_n (pc := 534) d_L_law_534 rfl ?_
  refine wp_iconst (pc := 535) (v := 1) d_L_law_535 rfl ?_
  refine wp_iadd (pc := 536) d_L_law_536 ?_
  obtain ⟨hi1, h⟩ := h
  refine wp_sld (pc := 537) d_L_law_537 hi1 ?_
  obtain ⟨ho8, h⟩ := h
  refine wp_invV (pc := 538) (N := M_X11_find) (As := [vi _]) (rest := []) (r := (cn_11, ct_11, 12)) d_L_law_538 ml_L_52 mk_X11_find mv_X11_find h0 ho8 rfl rfl (Nat.le_of_ble_eq_true rfl) ?_
  refine wpM.mono h (fun rr G3 hr => ?_)
  obtain ⟨r2, rfl, h⟩ := hr
  show wp E d M_L_law 541 [some (vs (eS E).1), some (vr _), some (vr _), some (vi _)] [vi _] G3 Q
  refine wp_aload_n (pc := 541) d_L_law_541 rfl ?_
  refine wp_aload_nS (pc := 542) d_L_law_542 rfl ?_
  refine wp_iload_n (pc := 543) d_L_law_543 rfl ?_
  refine wp_iconst (pc := 544) (v := 1) d_L_law_544 rfl ?_
  refine wp_iadd (pc := 545) d_L_law_545 ?_
  obtain ⟨hi4, h⟩ := h
  refine wp_sld (pc := 546) d_L_law_546 hi4 ?_
  obtain ⟨ho7, h⟩ := h
  refine wp_invV (pc := 547) (N := M_X12_find) (As := [vi _]) (rest := [vi _]) (r := (cn_12, ct_12, 95)) d_L_law_547 ml_L_55 mk_X12_find mv_X12_find h0 ho7 rfl rfl (Nat.le_of_ble_eq_true rfl) ?_
  refine wpM.mono h (fun rr G6 hr => ?_)
  obtain ⟨r5, rfl, h⟩ := hr
  show wp E d M_L_law 550 [some (vs (eS E).1), some (vr _), some (vr _), some (vi _)] [vi _, vi _] G6 Q
  refine wp_icmp_eq (pc := 550) (tgt := 2374) d_L_law_550 (by decide) (fun hc => ?_) (fun hc => ?_)
  · have h := h.1 hc
    refine wp_sub ?_ h
    exact ⟨rfl, ⟨rfl, ⟨rfl, ⟨rfl, trivial⟩⟩⟩⟩
  · have h := h.2 hc
    refine wp_iconst (pc := 553) (v := 0) d_L_law_553 rfl ?_
    exact wp_zret (pc := 554) d_L_law_554 rfl rfl h
theorem v_L_law_555 {E : EE} {d : Nat} {Q : Option AV → AH → Prop} {x1 : Nat} {x2 : Nat} {x3 : Int32} {G : AH} (h0 : 0 < d) (h : vp_in (x3 + 1) (eS E).2.1 ∧ (vp_in (x3 + 2) (eS E).2.1 ∧ (vp_in (x3 + 3) (eS E).2.1 ∧ (vp_in (x3 + 4) (eS E).2.1 ∧ (isO E G x1 11 ∧ (wpI E (d - 1) M_X11_letter [vr x1, vi ((eS E).2.2 (Int32.toNatClampNeg (x3 + 1))), vi ((eS E).2.2 (Int32.toNatClampNeg (x3 + 2))), vi ((eS E).2.2 (Int32.toNatClampNeg (x3 + 3))), vi ((eS E).2.2 (Int32.toNatClampNeg (x3 + 4)))] G (fun r5 G6 => vp_in (x3 + 1) (eS E).2.1 ∧ (vp_in (x3 + 2) (eS E).2.1 ∧ (vp_in (x3 + 3) (eS E).2.1 ∧ (vp_in (x3 + 4) (eS E).2.1 ∧ (isO E G6 x2 12 ∧ (wpI E (d - 1) M_X12_letter [vr x2, vi ((eS E).2.2 (Int32.toNatClampNeg (x3 + 1))), vi ((eS E).2.2 (Int32.toNatClampNeg (x3 + 2))), vi ((eS E).2.2 (Int32.toNatClampNeg (x3 + 3))), vi ((eS E).2.2 (Int32.toNatClampNeg (x3 + 4)))] G6 (fun r11 G12 => (r5 = r11 → wp E d M_L_law 2374 [some (vs (eS E).1), some (vr x1), some (vr x2), some (vi x3)] [] G12 Q) ∧ (¬ (r5 = r11) → Q (some (vi 0)) G12)))))))))))))) : wp E d M_L_law 555 [some (vs (eS E).1), some (vr x1), some (vr x2), some (vi x3)] [] G Q := by
  refine wp_aload_n (pc := 555) d_L_law_555 rfl ?_
  refine wp_aload_nS (pc := 556) d_L_law_556 rfl ?_
  refine wp_iload_n (pc := 557) d_L_law_557 rfl ?_
  refine wp_iconst (pc := 558) (v := 1) d_L_law_558 rfl ?_
  refine wp_iadd (pc := 559) d_L_law_559 ?_
  obtain ⟨hi1, h⟩ := h
  refine wp_sld (pc := 560) d_L_law_560 hi1 ?_
  refine wp_aload_nS (pc := 561) d_L_law_561 rfl ?_
  refine wp_iload_n (pc := 562) d_L_law_562 rfl ?_
  refine wp_iconst (pc := 563) (v := 2) d_L_law_563 rfl ?_
  refine wp_iadd (pc := 564) d_L_law_564 ?_
  obtain ⟨hi2, h⟩ := h
  refine wp_sld (pc := 565) d_L_law_565 hi2 ?_
  refine wp_aload_nS (pc := 566) d_L_law_566 rfl ?_
  refine wp_iload_n (pc := 567) d_L_law_567 rfl ?_
  refine wp_iconst (pc := 568) (v := 3) d_L_law_568 rfl ?_
  refine wp_iadd (pc := 569) d_L_law_569 ?_
  obtain ⟨hi3, h⟩ := h
  refine wp_sld (pc := 570) d_L_law_570 hi3 ?_
  refine wp_aload_nS (pc := 571) d_L_law_571 rfl ?_
  refine wp_iload_n (pc := 572) d_L_law_572 rfl ?_
  refine wp_iconst (pc := 573) (v := 4) d_L_law_573 rfl ?_
  refine wp_iadd (pc := 574) d_L_law_574 ?_
  obtain ⟨hi4, h⟩ := h
  refine wp_sld (pc := 575) d_L_law_575 hi4 ?_
  obtain ⟨ho14, h⟩ := h
  refine wp_invV (pc := 576) (N := M_X11_letter) (As := [vi _, vi _, vi _, vi _]) (rest := []) (r := (cn_11, ct_11, 12)) d_L_law_576 ml_L_56 mk_X11_letter mv_X11_letter h0 ho14 rfl rfl (Nat.le_of_ble_eq_true rfl) ?_
  refine wpM.mono h (fun rr G6 hr => ?_)
  obtain ⟨r5, rfl, h⟩ := hr
  show wp E d M_L_law 579 [some (vs (eS E).1), some (vr _), some (vr _), some (vi _)] [vi _] G6 Q
  refine wp_aload_n (pc := 579) d_L_law_579 rfl ?_
  refine wp_aload_nS (pc := 580) d_L_law_580 rfl ?_
  refine wp_iload_n (pc := 581) d_L_law_581 rfl ?_
  refine wp_iconst (pc := 582) (v := 1) d_L_law_582 rfl ?_
  refine wp_iadd (pc := 583) d_L_law_583 ?_
  obtain ⟨hi7, h⟩ := h
  refine wp_sld (pc := 584) d_L_law_584 hi7 ?_
  refine wp_aload_nS (pc := 585) d_L_law_585 rfl ?_
  refine wp_iload_n (pc := 586) d_L_law_586 rfl ?_
  refine wp_iconst (pc := 587) (v := 2) d_L_law_587 rfl ?_
  refine wp_iadd (pc := 588) d_L_law_588 ?_
  obtain ⟨hi8, h⟩ := h
  refine wp_sld (pc := 589) d_L_law_589 hi8 ?_
  refine wp_aload_nS (pc := 590) d_L_law_590 rfl ?_
  refine wp_iload_n (pc := 591) d_L_law_591 rfl ?_
  refine wp_iconst (pc := 592) (v := 3) d_L_law_592 rfl ?_
  refine wp_iadd (pc := 593) d_L_law_593 ?_
  obtain ⟨hi9, h⟩ := h
  refine wp_sld (pc := 594) d_L_law_594 hi9 ?_
  refine wp_aload_nS (pc := 595) d_L_law_595 rfl ?_
  refine wp_iload_n (pc := 596) d_L_law_596 rfl ?_
  refine wp_iconst (pc := 597) (v := 4) d_L_law_597 rfl ?_
  refine wp_iadd (pc := 598) d_L_law_598 ?_
  obtain ⟨hi10, h⟩ := h
  refine wp_sld (pc := 599) d_L_law_599 hi10 ?_
  obtain ⟨ho13, h⟩ := h
  refine wp_invV (pc := 600) (N := M_X12_letter) (As := [vi _, vi _, vi _, vi _]) (rest := [vi _]) (r := (cn_12, ct_12, 95)) d_L_law_600 ml_L_60 mk_X12_letter mv_X12_letter h0 ho13 rfl rfl (Nat.le_of_ble_eq_true rfl) ?_
  refine wpM.mono h (fun rr G12 hr => ?_)
  obtain ⟨r11, rfl, h⟩ := hr
  show wp E d M_L_law 603 [some (vs (eS E).1), some (vr _), some (vr _), some (vi _)] [vi _, vi _] G12 Q
  refine wp_icmp_eq (pc := 603) (tgt := 2374) d_L_law_603 (by decide) (fun hc => ?_) (fun hc => ?_)
  · have h := h.1 hc
    refine wp_sub ?_ h
    exact ⟨rfl, ⟨rfl, ⟨rfl, ⟨rfl, trivial⟩⟩⟩⟩
  · have h := h.2 hc
    refine wp_iconst (pc := 606) (v := 0) d_L_law_606 rfl ?_
    exact wp_zret (pc := 607) d_L_law_607 rfl rfl h
theorem v_L_law_608 {E : EE} {d : Nat} {Q : Option AV → AH → Prop} {x1 : Nat} {x2 : Nat} {x3 : Int32} {G : AH} (h0 : 0 < d) (h : vp_in (x3 + 1) (eS E).2.1 ∧ (vp_in (x3 + 2) (eS E).2.1 ∧ (vp_in (x3 + 3) (eS E).2.1 ∧ (isO E G x1 11 ∧ (wpI E (d - 1) M_X11_shown [vr x1, vi ((eS E).2.2 (Int32.toNatClampNeg (x3 + 1))), vi ((eS E).2.2 (Int32.toNatClampNeg (x3 + 2))), vi ((eS E).2.2 (Int32.toNatClampNeg (x3 + 3)))] G (fun r4 G5 => vp_in (x3 + 1) (eS E).2.1 ∧ (vp_in (x3 + 2) (eS E).2.1 ∧ (vp_in (x3 + 3) (eS E).2.1 ∧ (isO E G5 x2 12 ∧ (wpI E (d - 1) M_X12_shown [vr x2, vi ((eS E).2.2 (Int32.toNatClampNeg (x3 + 1))), vi ((eS E).2.2 (Int32.toNatClampNeg (x3 + 2))), vi ((eS E).2.2 (Int32.toNatClampNeg (x3 + 3)))] G5 (fun r9 G10 => (r4 = r9 → wp E d M_L_law 2374 [some (vs (eS E).1), some (vr x1), some (vr x2), some (vi x3)] [] G10 Q) ∧ (¬ (r4 = r9) → Q (some (vi 0)) G10)))))))))))) : wp E d M_L_law 608 [some (vs (eS E).1), some (vr x1), some (vr x2), some (vi x3)] [] G Q := by
  refine wp_aload_n (pc := 608) d_L_law_608 rfl ?_
  refine wp_aload_nS (pc := 609) d_L_law_609 rfl ?_
  refine wp_iload_n (pc := 610) d_L_law_610 rfl ?_
  refine wp_iconst (pc := 611) (v := 1) d_L_law_611 rfl ?_
  refine wp_iadd (pc := 612) d_L_law_612 ?_
  obtain ⟨hi1, h⟩ := h
  refine wp_sld (pc := 613) d_L_law_613 hi1 ?_
  refine wp_aload_nS (pc := 614) d_L_law_614 rfl ?_
  refine wp_iload_n (pc := 615) d_L_law_615 rfl ?_
  refine wp_iconst (pc := 616) (v := 2) d_L_law_616 rfl ?_
  refine wp_iadd (pc := 617) d_L_law_617 ?_
  obtain ⟨hi2, h⟩ := h
  refine wp_sld (pc := 618) d_L_law_618 hi2 ?_
  refine wp_aload_nS (pc := 619) d_L_law_619 rfl ?_
  refine wp_iload_n (pc := 620) d_L_law_620 rfl ?_
  refine wp_iconst (pc := 621) (v := 3) d_L_law_621 rfl ?_
  refine wp_iadd (pc := 622) d_L_law_622 ?_
  obtain ⟨hi3, h⟩ := h
  refine wp_sld (pc := 623) d_L_law_623 hi3 ?_
  obtain ⟨ho12, h⟩ := h
  refine wp_invV (pc := 624) (N := M_X11_shown) (As := [vi _, vi _, vi _]) (rest := []) (r := (cn_11, ct_11, 12)) d_L_law_624 ml_L_61 mk_X11_shown mv_X11_shown h0 ho12 rfl rfl (Nat.le_of_ble_eq_true rfl) ?_
  refine wpM.mono h (fun rr G5 hr => ?_)
  obtain ⟨r4, rfl, h⟩ := hr
  show wp E d M_L_law 627 [some (vs (eS E).1), some (vr _), some (vr _), some (vi _)] [vi _] G5 Q
  refine wp_aload_n (pc := 627) d_L_law_627 rfl ?_
  refine wp_aload_nS (pc := 628) d_L_law_628 rfl ?_
  refine wp_iload_n (pc := 629) d_L_law_629 rfl ?_
  refine wp_iconst (pc := 630) (v := 1) d_L_law_630 rfl ?_
  refine wp_iadd (pc := 631) d_L_law_631 ?_
  obtain ⟨hi6, h⟩ := h
  refine wp_sld (pc := 632) d_L_law_632 hi6 ?_
  refine wp_aload_nS (pc := 633) d_L_law_633 rfl ?_
  refine wp_iload_n (pc := 634) d_L_law_634 rfl ?_
  refine wp_iconst (pc := 635) (v := 2) d_L_law_635 rfl ?_
  refine wp_iadd (pc := 636) d_L_law_636 ?_
  obtain ⟨hi7, h⟩ := h
  refine wp_sld (pc := 637) d_L_law_637 hi7 ?_
  refine wp_aload_nS (pc := 638) d_L_law_638 rfl ?_
  refine wp_iload_n (pc := 639) d_L_law_639 rfl ?_
  refine wp_iconst (pc := 640) (v := 3) d_L_law_640 rfl ?_
  refine wp_iadd (pc := 641) d_L_law_641 ?_
  obtain ⟨hi8, h⟩ := h
  refine wp_sld (pc := 642) d_L_law_642 hi8 ?_
  obtain ⟨ho11, h⟩ := h
  refine wp_invV (pc := 643) (N := M_X12_shown) (As := [vi _, vi _, vi _]) (rest := [vi _]) (r := (cn_12, ct_12, 95)) d_L_law_643 ml_L_65 mk_X12_shown mv_X12_shown h0 ho11 rfl rfl (Nat.le_of_ble_eq_true rfl) ?_
  refine wpM.mono h (fun rr G10 hr => ?_)
  obtain ⟨r9, rfl, h⟩ := hr
  show wp E d M_L_law 646 [some (vs (eS E).1), some (vr _), some (vr _), some (vi _)] [vi _, vi _] G10 Q
  refine wp_icmp_eq (pc := 646) (tgt := 2374) d_L_law_646 (by decide) (fun hc => ?_) (fun hc => ?_)
  · have h := h.1 hc
    refine wp_sub ?_ h
    exact ⟨rfl, ⟨rfl, ⟨rfl, ⟨rfl, trivial⟩⟩⟩⟩
  · have h := h.2 hc
    refine wp_iconst (pc := 649) (v := 0) d_L_law_649 rfl ?_
    exact wp_zret (pc := 650) d_L_law_650 rfl rfl h
theorem v_L_law_651 {E : EE} {d : Nat} {Q : Option AV → AH → Prop} {x1 : Nat} {x2 : Nat} {x3 : Int32} {G : AH} (h0 : 0 < d) (h : vp_in (x3 + 1) (eS E).2.1 ∧ (vp_in (x3 + 2) (eS E).2.1 ∧ (vp_in (x3 + 3) (eS E).2.1 ∧ (isO E G x1 11 ∧ (wpJ E (d - 1) M_X11_range [vr x1, vi ((eS E).2.2 (Int32.toNatClampNeg (x3 + 1))), vi ((eS E).2.2 (Int32.toNatClampNeg (x3 + 2))), vi ((eS E).2.2 (Int32.toNatClampNeg (x3 + 3)))] G (fun r4 G5 => vp_in (x3 + 1) (eS E).2.1 ∧ (vp_in (x3 + 2) (eS E).2.1 ∧ (vp_in (x3 + 3) (eS E).2.1 ∧ (isO E G5 x2 12 ∧ (wpJ E (d - 1) M_X12_range [vr x2, vi ((eS E).2.2 (Int32.toNatClampNeg (x3 + 1))), vi ((eS E).2.2 (Int32.toNatClampNeg (x3 + 2))), vi ((eS E).2.2 (Int32.toNatClampNeg (x3 + 3)))] G5 (fun r9 G10 => (r4 = r9 → wp E d M_L_law 2374 [some (vs (eS E).1), some (vr x1), some (vr x2), some (vi x3)] [] G10 Q) ∧ (¬ (r4 = r9) → Q (some (vi 0)) G10)))))))))))) : wp E d M_L_law 651 [some (vs (eS E).1), some (vr x1), some (vr x2), some (vi x3)] [] G Q := by
  refine wp_aload_n (pc := 651) d_L_law_651 rfl ?_
  refine wp_aload_nS (pc := 652) d_L_law_652 rfl ?_
  refine wp_iload_n (pc := 653) d_L_law_653 rfl ?_
  refine wp_iconst (pc := 654) (v := 1) d_L_law_654 rfl ?_
  refine wp_iadd (pc := 655) d_L_law_655 ?_
  obtain ⟨hi1, h⟩ := h
  refine wp_sld (pc := 656) d_L_law_656 hi1 ?_
  refine wp_aload_nS (pc := 657) d_L_law_657 rfl ?_
  refine wp_iload_n (pc := 658) d_L_law_658 rfl ?_
  refine wp_iconst (pc := 659) (v := 2) d_L_law_659 rfl ?_
  refine wp_iadd (pc := 660) d_L_law_660 ?_
  obtain ⟨hi2, h⟩ := h
  refine wp_sld (pc := 661) d_L_law_661 hi2 ?_
  refine wp_aload_nS (pc := 662) d_L_law_662 rfl ?_
  refine wp_iload_n (pc := 663) d_L_law_663 rfl ?_
  refine wp_iconst (pc := 664) (v := 3) d_L_law_664 rfl ?_
  refine wp_iadd (pc := 665) d_L_law_665 ?_
  obtain ⟨hi3, h⟩ := h
  refine wp_sld (pc := 666) d_L_law_666 hi3 ?_
  obtain ⟨ho12, h⟩ := h
  refine wp_invV (pc := 667) (N := M_X11_range) (As := [vi _, vi _, vi _]) (rest := []) (r := (cn_11, ct_11, 12)) d_L_law_667 ml_L_66 mk_X11_range mv_X11_range h0 ho12 rfl rfl (Nat.le_of_ble_eq_true rfl) ?_
  refine wpM.mono h (fun rr G5 hr => ?_)
  obtain ⟨r4, rfl, h⟩ := hr
  show wp E d M_L_law 670 [some (vs (eS E).1), some (vr _), some (vr _), some (vi _)] [vj _] G5 Q
  refine wp_aload_n (pc := 670) d_L_law_670 rfl ?_
  refine wp_aload_nS (pc := 671) d_L_law_671 rfl ?_
  refine wp_iload_n (pc := 672) d_L_law_672 rfl ?_
  refine wp_iconst (pc := 673) (v := 1) d_L_law_673 rfl ?_
  refine wp_iadd (pc := 674) d_L_law_674 ?_
  obtain ⟨hi6, h⟩ := h
  refine wp_sld (pc := 675) d_L_law_675 hi6 ?_
  refine wp_aload_nS (pc := 676) d_L_law_676 rfl ?_
  refine wp_iload_n (pc := 677) d_L_law_677 rfl ?_
  refine wp_iconst (pc := 678) (v := 2) d_L_law_678 rfl ?_
  refine wp_iadd (pc := 679) d_L_law_679 ?_
  obtain ⟨hi7, h⟩ := h
  refine wp_sld (pc := 680) d_L_law_680 hi7 ?_
  refine wp_aload_nS (pc := 681) d_L_law_681 rfl ?_
  refine wp_iload_n (pc := 682) d_L_law_682 rfl ?_
  refine wp_iconst (pc := 683) (v := 3) d_L_law_683 rfl ?_
  refine wp_iadd (pc := 684) d_L_law_684 ?_
  obtain ⟨hi8, h⟩ := h
  refine wp_sld (pc := 685) d_L_law_685 hi8 ?_
  obtain ⟨ho11, h⟩ := h
  refine wp_invV (pc := 686) (N := M_X12_range) (As := [vi _, vi _, vi _]) (rest := [vj _]) (r := (cn_12, ct_12, 95)) d_L_law_686 ml_L_70 mk_X12_range mv_X12_range h0 ho11 rfl rfl (Nat.le_of_ble_eq_true rfl) ?_
  refine wpM.mono h (fun rr G10 hr => ?_)
  obtain ⟨r9, rfl, h⟩ := hr
  show wp E d M_L_law 689 [some (vs (eS E).1), some (vr _), some (vr _), some (vi _)] [vj _, vj _] G10 Q
  refine wp_lcmp_eq (pc := 689) (tgt := 2374) d_L_law_689 d_L_law_690 (by decide) (fun hc => ?_) (fun hc => ?_)
  · have h := h.1 hc
    refine wp_sub ?_ h
    exact ⟨rfl, ⟨rfl, ⟨rfl, ⟨rfl, trivial⟩⟩⟩⟩
  · have h := h.2 hc
    refine wp_iconst (pc := 693) (v := 0) d_L_law_693 rfl ?_
    exact wp_zret (pc := 694) d_L_law_694 rfl rfl h
theorem v_L_law_695 {E : EE} {d : Nat} {Q : Option AV → AH → Prop} {x1 : Nat} {x2 : Nat} {x3 : Int32} {G : AH} (h0 : 0 < d) (h : vp_in (x3 + 1) (eS E).2.1 ∧ (vp_in (x3 + 2) (eS E).2.1 ∧ (vp_in (x3 + 3) (eS E).2.1 ∧ (isO E G x1 11 ∧ (wpI E (d - 1) M_X11_rule [vr x1, vi ((eS E).2.2 (Int32.toNatClampNeg (x3 + 1))), vi ((eS E).2.2 (Int32.toNatClampNeg (x3 + 2))), vi ((eS E).2.2 (Int32.toNatClampNeg (x3 + 3)))] G (fun r4 G5 => vp_in (x3 + 1) (eS E).2.1 ∧ (vp_in (x3 + 2) (eS E).2.1 ∧ (vp_in (x3 + 3) (eS E).2.1 ∧ (isO E G5 x2 12 ∧ (wpI E (d - 1) M_X12_rule [vr x2, vi ((eS E).2.2 (Int32.toNatClampNeg (x3 + 1))), vi ((eS E).2.2 (Int32.toNatClampNeg (x3 + 2))), vi ((eS E).2.2 (Int32.toNatClampNeg (x3 + 3)))] G5 (fun r9 G10 => (r4 = r9 → wp E d M_L_law 2374 [some (vs (eS E).1), some (vr x1), some (vr x2), some (vi x3)] [] G10 Q) ∧ (¬ (r4 = r9) → Q (some (vi 0)) G10)))))))))))) : wp E d M_L_law 695 [some (vs (eS E).1), some (vr x1), some (vr x2), some (vi x3)] [] G Q := by
  refine wp_aload_n (pc := 695) d_L_law_695 rfl ?_
  refine wp_aload_nS (pc := 696) d_L_law_696 rfl ?_
  refine wp_iload_n (pc := 697) d_L_law_697 rfl ?_
  refine wp_iconst (pc := 698) (v := 1) d_L_law_698 rfl ?_
  refine wp_iadd (pc := 699) d_L_law_699 ?_
  obtain ⟨hi1, h⟩ := h
  refine wp_sld (pc := 700) d_L_law_700 hi1 ?_
  refine wp_aload_nS (pc := 701) d_L_law_701 rfl ?_
  refine wp_iload_n (pc := 702) d_L_law_702 rfl ?_
  refine wp_iconst (pc := 703) (v := 2) d_L_law_703 rfl ?_
  refine wp_iadd (pc := 704) d_L_law_704 ?_
  obtain ⟨hi2, h⟩ := h
  refine wp_sld (pc := 705) d_L_law_705 hi2 ?_
  refine wp_aload_nS (pc := 706) d_L_law_706 rfl ?_
  refine wp_iload_n (pc := 707) d_L_law_707 rfl ?_
  refine wp_iconst (pc := 708) (v := 3) d_L_law_708 rfl ?_
  refine wp_iadd (pc := 709) d_L_law_709 ?_
  obtain ⟨hi3, h⟩ := h
  refine wp_sld (pc := 710) d_L_law_710 hi3 ?_
  obtain ⟨ho12, h⟩ := h
  refine wp_invV (pc := 711) (N := M_X11_rule) (As := [vi _, vi _, vi _]) (rest := []) (r := (cn_11, ct_11, 12)) d_L_law_711 ml_L_71 mk_X11_rule mv_X11_rule h0 ho12 rfl rfl (Nat.le_of_ble_eq_true rfl) ?_
  refine wpM.mono h (fun rr G5 hr => ?_)
  obtain ⟨r4, rfl, h⟩ := hr
  show wp E d M_L_law 714 [some (vs (eS E).1), some (vr _), some (vr _), some (vi _)] [vi _] G5 Q
  refine wp_aload_n (pc := 714) d_L_law_714 rfl ?_
  refine wp_aload_nS (pc := 715) d_L_law_715 rfl ?_
  refine wp_iload_n (pc := 716) d_L_law_716 rfl ?_
  refine wp_iconst (pc := 717) (v := 1) d_L_law_717 rfl ?_
  refine wp_iadd (pc := 718) d_L_law_718 ?_
  obtain ⟨hi6, h⟩ := h
  refine wp_sld (pc := 719) d_L_law_719 hi6 ?_
  refine wp_aload_nS (pc := 720) d_L_law_720 rfl ?_
  refine wp_iload_n (pc := 721) d_L_law_721 rfl ?_
  refine wp_iconst (pc := 722) (v := 2) d_L_law_722 rfl ?_
  refine wp_iadd (pc := 723) d_L_law_723 ?_
  obtain ⟨hi7, h⟩ := h
  refine wp_sld (pc := 724) d_L_law_724 hi7 ?_
  refine wp_aload_nS (pc := 725) d_L_law_725 rfl ?_
  refine wp_iload_n (pc := 726) d_L_law_726 rfl ?_
  refine wp_iconst (pc := 727) (v := 3) d_L_law_727 rfl ?_
  refine wp_iadd (pc := 728) d_L_law_728 ?_
  obtain ⟨hi8, h⟩ := h
  refine wp_sld (pc := 729) d_L_law_729 hi8 ?_
  obtain ⟨ho11, h⟩ := h
  refine wp_invV (pc := 730) (N := M_X12_rule) (As := [vi _, vi _, vi _]) (rest := [vi _]) (r := (cn_12, ct_12, 95)) d_L_law_730 ml_L_74 mk_X12_rule mv_X12_rule h0 ho11 rfl rfl (Nat.le_of_ble_eq_true rfl) ?_
  refine wpM.mono h (fun rr G10 hr => ?_)
  obtain ⟨r9, rfl, h⟩ := hr
  show wp E d M_L_law 733 [some (vs (eS E).1), some (vr _), some (vr _), some (vi _)] [vi _, vi _] G10 Q
  refine wp_icmp_eq (pc := 733) (tgt := 2374) d_L_law_733 (by decide) (fun hc => ?_) (fun hc => ?_)
  · have h := h.1 hc
    refine wp_sub ?_ h
    exact ⟨rfl, ⟨rfl, ⟨rfl, ⟨rfl, trivial⟩⟩⟩⟩
  · have h := h.2 hc
    refine wp_iconst (pc := 736) (v := 0) d_L_law_736 rfl ?_
    exact wp_zret (pc := 737) d_L_law_737 rfl rfl h
theorem v_L_law_738 {E : EE} {d : Nat} {Q : Option AV → AH → Prop} {x1 : Nat} {x2 : Nat} {x3 : Int32} {G : AH} (h0 : 0 < d) (h : vp_in (x3 + 1) (eS E).2.1 ∧ (vp_in (x3 + 2) (eS E).2.1 ∧ (isO E G x1 11 ∧ (wpJ E (d - 1) M_X11_fact [vr x1, vi ((eS E).2.2 (Int32.toNatClampNeg (x3 + 1))), vi ((eS E).2.2 (Int32.toNatClampNeg (x3 + 2)))] G (fun r3 G4 => vp_in (x3 + 1) (eS E).2.1 ∧ (vp_in (x3 + 2) (eS E).2.1 ∧ (isO E G4 x2 12 ∧ (wpJ E (d - 1) M_X12_fact [vr x2, vi ((eS E).2.2 (Int32.toNatClampNeg (x3 + 1))), vi ((eS E).2.2 (Int32.toNatClampNeg (x3 + 2)))] G4 (fun r7 G8 => (r3 = r7 → wp E d M_L_law 2374 [some (vs (eS E).1), some (vr x1), some (vr x2), some (vi x3)] [] G8 Q) ∧ (¬ (r3 = r7) → Q (some (vi 0)) G8)))))))))) : wp E d M_L_law 738 [some (vs (eS E).1), some (vr x1), some (vr x2), some (vi x3)] [] G Q := by
  refine wp_aload_n (pc := 738) d_L_law_738 rfl ?_
  refine wp_aload_nS (pc := 739) d_L_law_739 rfl ?_
  refine wp_iload_n (pc := 740) d_L_law_740 rfl ?_
  refine wp_iconst (pc := 741) (v := 1) d_L_law_741 rfl ?_
  refine wp_iadd (pc := 742) d_L_law_742 ?_
  obtain ⟨hi1, h⟩ := h
  refine wp_sld (pc := 743) d_L_law_743 hi1 ?_
  refine wp_aload_nS (pc := 744) d_L_law_744 rfl ?_
  refine wp_iload_n (pc := 745) d_L_law_745 rfl ?_
  refine wp_iconst (pc := 746) (v := 2) d_L_law_746 rfl ?_
  refine wp_iadd (pc := 747) d_L_law_747 ?_
  obtain ⟨hi2, h⟩ := h
  refine wp_sld (pc := 748) d_L_law_748 hi2 ?_
  obtain ⟨ho10, h⟩ := h
  refine wp_invV (pc := 749) (N := M_X11_fact) (As := [vi _, vi _]) (rest := []) (r := (cn_11, ct_11, 12)) d_L_law_749 ml_L_75 mk_X11_fact mv_X11_fact h0 ho10 rfl rfl (Nat.le_of_ble_eq_true rfl) ?_
  refine wpM.mono h (fun rr G4 hr => ?_)
  obtain ⟨r3, rfl, h⟩ := hr
  show wp E d M_L_law 752 [some (vs (eS E).1), some (vr _), some (vr _), some (vi _)] [vj _] G4 Q
  refine wp_aload_n (pc := 752) d_L_law_752 rfl ?_
  refine wp_aload_nS (pc := 753) d_L_law_753 rfl ?_
  refine wp_iload_n (pc := 754) d_L_law_754 rfl ?_
  refine wp_iconst (pc := 755) (v := 1) d_L_law_755 rfl ?_
  refine wp_iadd (pc := 756) d_L_law_756 ?_
  obtain ⟨hi5, h⟩ := h
  refine wp_sld (pc := 757) d_L_law_757 hi5 ?_
  refine wp_aload_nS (pc := 758) d_L_law_758 rfl ?_
  refine wp_iload_n (pc := 759) d_L_law_759 rfl ?_
  refine wp_iconst (pc := 760) (v := 2) d_L_law_760 rfl ?_
  refine wp_iadd (pc := 761) d_L_law_761 ?_
  obtain ⟨hi6, h⟩ := h
  refine wp_sld (pc := 762) d_L_law_762 hi6 ?_
  obtain ⟨ho9, h⟩ := h
  refine wp_invV (pc := 763) (N := M_X12_fact) (As := [vi _, vi _]) (rest := [vj _]) (r := (cn_12, ct_12, 95)) d_L_law_763 ml_L_79 mk_X12_fact mv_X12_fact h0 ho9 rfl rfl (Nat.le_of_ble_eq_true rfl) ?_
  refine wpM.mono h (fun rr G8 hr => ?_)
  obtain ⟨r7, rfl, h⟩ := hr
  show wp E d M_L_law 766 [some (vs (eS E).1), some (vr _), some (vr _), some (vi _)] [vj _, vj _] G8 Q
  refine wp_lcmp_eq (pc := 766) (tgt := 2374) d_L_law_766 d_L_law_767 (by decide) (fun hc => ?_) (fun hc => ?_)
  · have h := h.1 hc
    refine wp_sub ?_ h
    exact ⟨rfl, ⟨rfl, ⟨rfl, ⟨rfl, trivial⟩⟩⟩⟩
  · have h := h.2 hc
    refine wp_iconst (pc := 770) (v := 0) d_L_law_770 rfl ?_
    exact wp_zret (pc := 771) d_L_law_771 rfl rfl h
theorem v_L_law_772 {E : EE} {d : Nat} {Q : Option AV → AH → Prop} {x1 : Nat} {x2 : Nat} {x3 : Int32} {G : AH} (h0 : 0 < d) (h : vp_in (x3 + 1) (eS E).2.1 ∧ (vp_in (x3 + 2) (eS E).2.1 ∧ (vp_in (x3 + 3) (eS E).2.1 ∧ (isO E G x1 11 ∧ (wpI E (d - 1) M_X11_change [vr x1, vi ((eS E).2.2 (Int32.toNatClampNeg (x3 + 1))), vi ((eS E).2.2 (Int32.toNatClampNeg (x3 + 2))), vi ((eS E).2.2 (Int32.toNatClampNeg (x3 + 3)))] G (fun r4 G5 => vp_in (x3 + 1) (eS E).2.1 ∧ (vp_in (x3 + 2) (eS E).2.1 ∧ (vp_in (x3 + 3) (eS E).2.1 ∧ (isO E G5 x2 12 ∧ (wpI E (d - 1) M_X12_change [vr x2, vi ((eS E).2.2 (Int32.toNatClampNeg (x3 + 1))), vi ((eS E).2.2 (Int32.toNatClampNeg (x3 + 2))), vi ((eS E).2.2 (Int32.toNatClampNeg (x3 + 3)))] G5 (fun r9 G10 => (r4 = r9 → wp E d M_L_law 2374 [some (vs (eS E).1), some (vr x1), some (vr x2), some (vi x3)] [] G10 Q) ∧ (¬ (r4 = r9) → Q (some (vi 0)) G10)))))))))))) : wp E d M_L_law 772 [some (vs (eS E).1), some (vr x1), some (vr x2), some (vi x3)] [] G Q := by
  refine wp_aload_n (pc := 772) d_L_law_772 rfl ?_
  refine wp_aload_nS (pc := 773) d_L_law_773 rfl ?_
  refine wp_iload_n (pc := 774) d_L_law_774 rfl ?_
  refine wp_iconst (pc := 775) (v := 1) d_L_law_775 rfl ?_
  refine wp_iadd (pc := 776) d_L_law_776 ?_
  obtain ⟨hi1, h⟩ := h
  refine wp_sld (pc := 777) d_L_law_777 hi1 ?_
  refine wp_aload_nS (pc := 778) d_L_law_778 rfl ?_
  refine wp_iload_n (pc := 779) d_L_law_779 rfl ?_
  refine wp_iconst (pc := 780) (v := 2) d_L_law_780 rfl ?_
  refine wp_iadd (pc := 781) d_L_law_781 ?_
  obtain ⟨hi2, h⟩ := h
  refine wp_sld (pc := 782) d_L_law_782 hi2 ?_
  refine wp_aload_nS (pc := 783) d_L_law_783 rfl ?_
  refine wp_iload_n (pc := 784) d_L_law_784 rfl ?_
  refine wp_iconst (pc := 785) (v := 3) d_L_law_785 rfl ?_
  refine wp_iadd (pc := 786) d_L_law_786 ?_
  obtain ⟨hi3, h⟩ := h
  refine wp_sld (pc := 787) d_L_law_787 hi3 ?_
  obtain ⟨ho12, h⟩ := h
  refine wp_invV (pc := 788) (N := M_X11_change) (As := [vi _, vi _, vi _]) (rest := []) (r := (cn_11, ct_11, 12)) d_L_law_788 ml_L_80 mk_X11_change mv_X11_change h0 ho12 rfl rfl (Nat.le_of_ble_eq_true rfl) ?_
  refine wpM.mono h (fun rr G5 hr => ?_)
  obtain ⟨r4, rfl, h⟩ := hr
  show wp E d M_L_law 791 [some (vs (eS E).1), some (vr _), some (vr _), some (vi _)] [vi _] G5 Q
  refine wp_aload_n (pc := 791) d_L_law_791 rfl ?_
  refine wp_aload_nS (pc := 792) d_L_law_792 rfl ?_
  refine wp_iload_n (pc := 793) d_L_law_793 rfl ?_
  refine wp_iconst (pc := 794) (v := 1) d_L_law_794 rfl ?_
  refine wp_iadd (pc := 795) d_L_law_795 ?_
  obtain ⟨hi6, h⟩ := h
  refine wp_sld (pc := 796) d_L_law_796 hi6 ?_
  refine wp_aload_nS (pc := 797) d_L_law_797 rfl ?_
  refine wp_iload_n (pc := 798) d_L_law_798 rfl ?_
  refine wp_iconst (pc := 799) (v := 2) d_L_law_799 rfl ?_
  refine wp_iadd (pc := 800) d_L_law_800 ?_
  obtain ⟨hi7, h⟩ := h
  refine wp_sld (pc := 801) d_L_law_801 hi7 ?_
  refine wp_aload_nS (pc := 802) d_L_law_802 rfl ?_
  refine wp_iload_n (pc := 803) d_L_law_803 rfl ?_
  refine wp_iconst (pc := 804) (v := 3) d_L_law_804 rfl ?_
  refine wp_iadd (pc := 805) d_L_law_805 ?_
  obtain ⟨hi8, h⟩ := h
  refine wp_sld (pc := 806) d_L_law_806 hi8 ?_
  obtain ⟨ho11, h⟩ := h
  refine wp_invV (pc := 807) (N := M_X12_change) (As := [vi _, vi _, vi _]) (rest := [vi _]) (r := (cn_12, ct_12, 95)) d_L_law_807 ml_L_84 mk_X12_change mv_X12_change h0 ho11 rfl rfl (Nat.le_of_ble_eq_true rfl) ?_
  refine wpM.mono h (fun rr G10 hr => ?_)
  obtain ⟨r9, rfl, h⟩ := hr
  show wp E d M_L_law 810 [some (vs (eS E).1), some (vr _), some (vr _), some (vi _)] [vi _, vi _] G10 Q
  refine wp_icmp_eq (pc := 810) (tgt := 2374) d_L_law_810 (by decide) (fun hc => ?_) (fun hc => ?_)
  · have h := h.1 hc
    refine wp_sub ?_ h
    exact ⟨rfl, ⟨rfl, ⟨rfl, ⟨rfl, trivial⟩⟩⟩⟩
  · have h := h.2 hc
    refine wp_iconst (pc := 813) (v := 0) d_L_law_813 rfl ?_
    exact wp_zret (pc := 814) d_L_law_814 rfl rfl h
theorem v_L_law_815 {E : EE} {d : Nat} {Q : Option AV → AH → Prop} {x1 : Nat} {x2 : Nat} {x3 : Int32} {G : AH} (h0 : 0 < d) (h : vp_in (x3 + 1) (eS E).2.1 ∧ (vp_in (x3 + 2) (eS E).2.1 ∧ (isO E G x1 11 ∧ (wpJ E (d - 1) M_X11_value [vr x1, vi ((eS E).2.2 (Int32.toNatClampNeg (x3 + 1))), vi ((eS E).2.2 (Int32.toNatClampNeg (x3 + 2)))] G (fun r3 G4 => vp_in (x3 + 1) (eS E).2.1 ∧ (vp_in (x3 + 2) (eS E).2.1 ∧ (isO E G4 x2 12 ∧ (wpJ E (d - 1) M_X12_value [vr x2, vi ((eS E).2.2 (Int32.toNatClampNeg (x3 + 1))), vi ((eS E).2.2 (Int32.toNatClampNeg (x3 + 2)))] G4 (fun r7 G8 => (r3 = r7 → wp E d M_L_law 2374 [some (vs (eS E).1), some (vr x1), some (vr x2), some (vi x3)] [] G8 Q) ∧ (¬ (r3 = r7) → Q (some (vi 0)) G8)))))))))) : wp E d M_L_law 815 [some (vs (eS E).1), some (vr x1), some (vr x2), some (vi x3)] [] G Q := by
  refine wp_aload_n (pc := 815) d_L_law_815 rfl ?_
  refine wp_aload_nS (pc := 816) d_L_law_816 rfl ?_
  refine wp_iload_n (pc := 817) d_L_law_817 rfl ?_
  refine wp_iconst (pc := 818) (v := 1) d_L_law_818 rfl ?_
  refine wp_iadd (pc := 819) d_L_law_819 ?_
  obtain ⟨hi1, h⟩ := h
  refine wp_sld (pc := 820) d_L_law_820 hi1 ?_
  refine wp_aload_nS (pc := 821) d_L_law_821 rfl ?_
  refine wp_iload_n (pc := 822) d_L_law_822 rfl ?_
  refine wp_iconst (pc := 823) (v := 2) d_L_law_823 rfl ?_
  refine wp_iadd (pc := 824) d_L_law_824 ?_
  obtain ⟨hi2, h⟩ := h
  refine wp_sld (pc := 825) d_L_law_825 hi2 ?_
  obtain ⟨ho10, h⟩ := h
  refine wp_invV (pc := 826) (N := M_X11_value) (As := [vi _, vi _]) (rest := []) (r := (cn_11, ct_11, 12)) d_L_law_826 ml_L_85 mk_X11_value mv_X11_value h0 ho10 rfl rfl (Nat.le_of_ble_eq_true rfl) ?_
  refine wpM.mono h (fun rr G4 hr => ?_)
  obtain ⟨r3, rfl, h⟩ := hr
  show wp E d M_L_law 829 [some (vs (eS E).1), some (vr _), some (vr _), some (vi _)] [vj _] G4 Q
  refine wp_aload_n (pc := 829) d_L_law_829 rfl ?_
  refine wp_aload_nS (pc := 830) d_L_law_830 rfl ?_
  refine wp_iload_n (pc := 831) d_L_law_831 rfl ?_
  refine wp_iconst (pc := 832) (v := 1) d_L_law_832 rfl ?_
  refine wp_iadd (pc := 833) d_L_law_833 ?_
  obtain ⟨hi5, h⟩ := h
  refine wp_sld (pc := 834) d_L_law_834 hi5 ?_
  refine wp_aload_nS (pc := 835) d_L_law_835 rfl ?_
  refine wp_iload_n (pc := 836) d_L_law_836 rfl ?_
  refine wp_iconst (pc := 837) (v := 2) d_L_law_837 rfl ?_
  refine wp_iadd (pc := 838) d_L_law_838 ?_
  obtain ⟨hi6, h⟩ := h
  refine wp_sld (pc := 839) d_L_law_839 hi6 ?_
  obtain ⟨ho9, h⟩ := h
  refine wp_invV (pc := 840) (N := M_X12_value) (As := [vi _, vi _]) (rest := [vj _]) (r := (cn_12, ct_12, 95)) d_L_law_840 ml_L_88 mk_X12_value mv_X12_value h0 ho9 rfl rfl (Nat.le_of_ble_eq_true rfl) ?_
  refine wpM.mono h (fun rr G8 hr => ?_)
  obtain ⟨r7, rfl, h⟩ := hr
  show wp E d M_L_law 843 [some (vs (eS E).1), some (vr _), some (vr _), some (vi _)] [vj _, vj _] G8 Q
  refine wp_lcmp_eq (pc := 843) (tgt := 2374) d_L_law_843 d_L_law_844 (by decide) (fun hc => ?_) (fun hc => ?_)
  · have h := h.1 hc
    refine wp_sub ?_ h
    exact ⟨rfl, ⟨rfl, ⟨rfl, ⟨rfl, trivial⟩⟩⟩⟩
  · have h := h.2 hc
    refine wp_iconst (pc := 847) (v := 0) d_L_law_847 rfl ?_
    exact wp_zret (pc := 848) d_L_law_848 rfl rfl h
theorem v_L_law_849 {E : EE} {d : Nat} {Q : Option AV → AH → Prop} {x1 : Nat} {x2 : Nat} {x3 : Int32} {G : AH} (h0 : 0 < d) (h : vp_in (x3 + 1) (eS E).2.1 ∧ (vp_in (x3 + 2) (eS E).2.1 ∧ (vp_in (x3 + 3) (eS E).2.1 ∧ (isO E G x1 11 ∧ (wpI E (d - 1) M_X11_put [vr x1, vi ((eS E).2.2 (Int32.toNatClampNeg (x3 + 1))), vi ((eS E).2.2 (Int32.toNatClampNeg (x3 + 2))), vi ((eS E).2.2 (Int32.toNatClampNeg (x3 + 3)))] G (fun r4 G5 => vp_in (x3 + 1) (eS E).2.1 ∧ (vp_in (x3 + 2) (eS E).2.1 ∧ (vp_in (x3 + 3) (eS E).2.1 ∧ (isO E G5 x2 12 ∧ (wpI E (d - 1) M_X12_put [vr x2, vi ((eS E).2.2 (Int32.toNatClampNeg (x3 + 1))), vi ((eS E).2.2 (Int32.toNatClampNeg (x3 + 2))), vi ((eS E).2.2 (Int32.toNatClampNeg (x3 + 3)))] G5 (fun r9 G10 => (r4 = r9 → wp E d M_L_law 2374 [some (vs (eS E).1), some (vr x1), some (vr x2), some (vi x3)] [] G10 Q) ∧ (¬ (r4 = r9) → Q (some (vi 0)) G10)))))))))))) : wp E d M_L_law 849 [some (vs (eS E).1), some (vr x1), some (vr x2), some (vi x3)] [] G Q := by
  refine wp_aload_n (pc := 849) d_L_law_849 rfl ?_
  refine wp_aload_nS (pc := 850) d_L_law_850 rfl ?_
  refine wp_iload_n (pc := 851) d_L_law_851 rfl ?_
  refine wp_iconst (pc := 852) (v := 1) d_L_law_852 rfl ?_
  refine wp_iadd (pc := 853) d_L_law_853 ?_
  obtain ⟨hi1, h⟩ := h
  refine wp_sld (pc := 854) d_L_law_854 hi1 ?_
  refine wp_aload_nS (pc := 855) d_L_law_855 rfl ?_
  refine wp_iload_n (pc := 856) d_L_law_856 rfl ?_
  refine wp_iconst (pc := 857) (v := 2) d_L_law_857 rfl ?_
  refine wp_iadd (pc := 858) d_L_law_858 ?_
  obtain ⟨hi2, h⟩ := h
  refine wp_sld (pc := 859) d_L_law_859 hi2 ?_
  refine wp_aload_nS (pc := 860) d_L_law_860 rfl ?_
  refine wp_iload_n (pc := 861) d_L_law_861 rfl ?_
  refine wp_iconst (pc := 862) (v := 3) d_L_law_862 rfl ?_
  refine wp_iadd (pc := 863) d_L_law_863 ?_
  obtain ⟨hi3, h⟩ := h
  refine wp_sld (pc := 864) d_L_law_864 hi3 ?_
  obtain ⟨ho12, h⟩ := h
  refine wp_invV (pc := 865) (N := M_X11_put) (As := [vi _, vi _, vi _]) (rest := []) (r := (cn_11, ct_11, 12)) d_L_law_865 ml_L_89 mk_X11_put mv_X11_put h0 ho12 rfl rfl (Nat.le_of_ble_eq_true rfl) ?_
  refine wpM.mono h (fun rr G5 hr => ?_)
  obtain ⟨r4, rfl, h⟩ := hr
  show wp E d M_L_law 868 [some (vs (eS E).1), some (vr _), some (vr _), some (vi _)] [vi _] G5 Q
  refine wp_aload_n (pc := 868) d_L_law_868 rfl ?_
  refine wp_aload_nS (pc := 869) d_L_law_869 rfl ?_
  refine wp_iload_n (pc := 870) d_L_law_870 rfl ?_
  refine wp_iconst (pc := 871) (v := 1) d_L_law_871 rfl ?_
  refine wp_iadd (pc := 872) d_L_law_872 ?_
  obtain ⟨hi6, h⟩ := h
  refine wp_sld (pc := 873) d_L_law_873 hi6 ?_
  refine wp_aload_nS (pc := 874) d_L_law_874 rfl ?_
  refine wp_iload_n (pc := 875) d_L_law_875 rfl ?_
  refine wp_iconst (pc := 876) (v := 2) d_L_law_876 rfl ?_
  refine wp_iadd (pc := 877) d_L_law_877 ?_
  obtain ⟨hi7, h⟩ := h
  refine wp_sld (pc := 878) d_L_law_878 hi7 ?_
  refine wp_aload_nS (pc := 879) d_L_law_879 rfl ?_
  refine wp_iload_n (pc := 880) d_L_law_880 rfl ?_
  refine wp_iconst (pc := 881) (v := 3) d_L_law_881 rfl ?_
  refine wp_iadd (pc := 882) d_L_law_882 ?_
  obtain ⟨hi8, h⟩ := h
  refine wp_sld (pc := 883) d_L_law_883 hi8 ?_
  obtain ⟨ho11, h⟩ := h
  refine wp_invV (pc := 884) (N := M_X12_put) (As := [vi _, vi _, vi _]) (rest := [vi _]) (r := (cn_12, ct_12, 95)) d_L_law_884 ml_L_92 mk_X12_put mv_X12_put h0 ho11 rfl rfl (Nat.le_of_ble_eq_true rfl) ?_
  refine wpM.mono h (fun rr G10 hr => ?_)
  obtain ⟨r9, rfl, h⟩ := hr
  show wp E d M_L_law 887 [some (vs (eS E).1), some (vr _), some (vr _), some (vi _)] [vi _, vi _] G10 Q
  refine wp_icmp_eq (pc := 887) (tgt := 2374) d_L_law_887 (by decide) (fun hc => ?_) (fun hc => ?_)
  · have h := h.1 hc
    refine wp_sub ?_ h
    exact ⟨rfl, ⟨rfl, ⟨rfl, ⟨rfl, trivial⟩⟩⟩⟩
  · have h := h.2 hc
    refine wp_iconst (pc := 890) (v := 0) d_L_law_890 rfl ?_
    exact wp_zret (pc := 891) d_L_law_891 rfl rfl h
theorem v_L_law_892 {E : EE} {d : Nat} {Q : Option AV → AH → Prop} {x1 : Nat} {x2 : Nat} {x3 : Int32} {G : AH} (h : vp_in (x3 + 1) (eS E).2.1 ∧ (vp_in (x3 + 2) (eS E).2.1 ∧ (vp_in (x3 + 3) (eS E).2.1 ∧ ((((eS E).2.2 (Int32.toNatClampNeg (x3 + 3))) = 0 → wp E d M_L_law 916 [some (vs (eS E).1), some (vr x1), some (vr x2), some (vi x3)] [vi 0, vi ((eS E).2.2 (Int32.toNatClampNeg (x3 + 2))), vi ((eS E).2.2 (Int32.toNatClampNeg (x3 + 1))), vr x1] G Q) ∧ (¬ (((eS E).2.2 (Int32.toNatClampNeg (x3 + 3))) = 0) → wp E d M_L_law 916 [some (vs (eS E).1), some (vr x1), some (vr x2), some (vi x3)] [vi 1, vi ((eS E).2.2 (Int32.toNatClampNeg (x3 + 2))), vi ((eS E).2.2 (Int32.toNatClampNeg (x3 + 1))), vr x1] G Q))))) : wp E d M_L_law 892 [some (vs (eS E).1), some (vr x1), some (vr x2), some (vi x3)] [] G Q := by
  refine wp_aload_n (pc := 892) d_L_law_892 rfl ?_
  refine wp_aload_nS (pc := 893) d_L_law_893 rfl ?_
  refine wp_iload_n (pc := 894) d_L_law_894 rfl ?_
  refine wp_iconst (pc := 895) (v := 1) d_L_law_895 rfl ?_
  refine wp_iadd (pc := 896) d_L_law_896 ?_
  obtain ⟨hi1, h⟩ := h
  refine wp_sld (pc := 897) d_L_law_897 hi1 ?_
  refine wp_aload_nS (pc := 898) d_L_law_898 rfl ?_
  refine wp_iload_n (pc := 899) d_L_law_899 rfl ?_
  refine wp_iconst (pc := 900) (v := 2) d_L_law_900 rfl ?_
  refine wp_iadd (pc := 901) d_L_law_901 ?_
  obtain ⟨hi2, h⟩ := h
  refine wp_sld (pc := 902) d_L_law_902 hi2 ?_
  refine wp_aload_nS (pc := 903) d_L_law_903 rfl ?_
  refine wp_iload_n (pc := 904) d_L_law_904 rfl ?_
  refine wp_iconst (pc := 905) (v := 3) d_L_law_905 rfl ?_
  refine wp_iadd (pc := 906) d_L_law_906 ?_
  obtain ⟨hi3, h⟩ := h
  refine wp_sld (pc := 907) d_L_law_907 hi3 ?_
  refine wp_if_eq (pc := 908) (tgt := 915) d_L_law_908 (by decide) (fun hc => ?_) (fun hc => ?_)
  · have h := h.1 hc
    refine wp_iconst (pc := 915) (v := 0) d_L_law_915 rfl ?_
    refine wp_sub ?_ h
    exact ⟨rfl, ⟨rfl, ⟨rfl, ⟨rfl, trivial⟩⟩⟩⟩
  · have h := h.2 hc
    refine wp_iconst (pc := 911) (v := 1) d_L_law_911 rfl ?_
    refine wp_goto (pc := 912) (tgt := 916) d_L_law_912 (by decide) ?_
    refine wp_sub ?_ h
    exact ⟨rfl, ⟨rfl, ⟨rfl, ⟨rfl, trivial⟩⟩⟩⟩
theorem v_L_law_916 {E : EE} {d : Nat} {Q : Option AV → AH → Prop} {x1 : Nat} {x2 : Nat} {x3 : Int32} {t0 : Nat} {t1 : Int32} {t2 : Int32} {t3 : Int32} {G : AH} (h0 : 0 < d) (h : isO E G t0 11 ∧ (wpI E (d - 1) M_X11_pin [vr t0, vi t1, vi t2, vi t3] G (fun r1 G2 => vp_in (x3 + 1) (eS E).2.1 ∧ (vp_in (x3 + 2) (eS E).2.1 ∧ (vp_in (x3 + 3) (eS E).2.1 ∧ ((((eS E).2.2 (Int32.toNatClampNeg (x3 + 3))) = 0 → wp E d M_L_law 943 [some (vs (eS E).1), some (vr x1), some (vr x2), some (vi x3)] [vi 0, vi ((eS E).2.2 (Int32.toNatClampNeg (x3 + 2))), vi ((eS E).2.2 (Int32.toNatClampNeg (x3 + 1))), vr x2, vi r1] G2 Q) ∧ (¬ (((eS E).2.2 (Int32.toNatClampNeg (x3 + 3))) = 0) → wp E d M_L_law 943 [some (vs (eS E).1), some (vr x1), some (vr x2), some (vi x3)] [vi 1, vi ((eS E).2.2 (Int32.toNatClampNeg (x3 + 2))), vi ((eS E).2.2 (Int32.toNatClampNeg (x3 + 1))), vr x2, vi r1] G2 Q))))))) : wp E d M_L_law 916 [some (vs (eS E).1), some (vr x1), some (vr x2), some (vi x3)] [vi t3, vi t2, vi t1, vr t0] G Q := by
  obtain ⟨ho6, h⟩ := h
  refine wp_invV (pc := 916) (N := M_X11_pin) (As := [vi _, vi _, vi _]) (rest := []) (r := (cn_11, ct_11, 12)) d_L_law_916 ml_L_93 mk_X11_pin mv_X11_pin h0 ho6 rfl rfl (Nat.le_of_ble_eq_true rfl) ?_
  refine wpM.mono h (fun rr G2 hr => ?_)
  obtain ⟨r1, rfl, h⟩ := hr
  show wp E d M_L_law 919 [some (vs (eS E).1), some (vr _), some (vr _), some (vi _)] [vi _] G2 Q
  refine wp_aload_n (pc := 919) d_L_law_919 rfl ?_
  refine wp_aload_nS (pc := 920) d_L_law_920 rfl ?_
  refine wp_iload_n (pc := 921) d_L_law_921 rfl ?_
  refine wp_iconst (pc := 922) (v := 1) d_L_law_922 rfl ?_
  refine wp_iadd (pc := 923) d_L_law_923 ?_
  obtain ⟨hi3, h⟩ := h
  refine wp_sld (pc := 924) d_L_law_924 hi3 ?_
  refine wp_aload_nS (pc := 925) d_L_law_925 rfl ?_
  refine wp_iload_n (pc := 926) d_L_law_926 rfl ?_
  refine wp_iconst (pc := 927) (v := 2) d_L_law_927 rfl ?_
  refine wp_iadd (pc := 928) d_L_law_928 ?_
  obtain ⟨hi4, h⟩ := h
  refine wp_sld (pc := 929) d_L_law_929 hi4 ?_
  refine wp_aload_nS (pc := 930) d_L_law_930 rfl ?_
  refine wp_iload_n (pc := 931) d_L_law_931 rfl ?_
  refine wp_iconst (pc := 932) (v := 3) d_L_law_932 rfl ?_
  refine wp_iadd (pc := 933) d_L_law_933 ?_
  obtain ⟨hi5, h⟩ := h
  refine wp_sld (pc := 934) d_L_law_934 hi5 ?_
  refine wp_if_eq (pc := 935) (tgt := 942) d_L_law_935 (by decide) (fun hc => ?_) (fun hc => ?_)
  · have h := h.1 hc
    refine wp_iconst (pc := 942) (v := 0) d_L_law_942 rfl ?_
    refine wp_sub ?_ h
    exact ⟨rfl, ⟨rfl, ⟨rfl, ⟨rfl, trivial⟩⟩⟩⟩
  · have h := h.2 hc
    refine wp_iconst (pc := 938) (v := 1) d_L_law_938 rfl ?_
    refine wp_goto (pc := 939) (tgt := 943) d_L_law_939 (by decide) ?_
    refine wp_sub ?_ h
    exact ⟨rfl, ⟨rfl, ⟨rfl, ⟨rfl, trivial⟩⟩⟩⟩
theorem v_L_law_943 {E : EE} {d : Nat} {Q : Option AV → AH → Prop} {x1 : Nat} {x2 : Nat} {x3 : Int32} {t0 : Int32} {t1 : Nat} {t2 : Int32} {t3 : Int32} {t4 : Int32} {G : AH} (h0 : 0 < d) (h : isO E G t1 12 ∧ (wpI E (d - 1) M_X12_pin [vr t1, vi t2, vi t3, vi t4] G (fun r1 G2 => (t0 = r1 → wp E d M_L_law 2374 [some (vs (eS E).1), some (vr x1), some (vr x2), some (vi x3)] [] G2 Q) ∧ (¬ (t0 = r1) → Q (some (vi 0)) G2)))) : wp E d M_L_law 943 [some (vs (eS E).1), some (vr x1), some (vr x2), some (vi x3)] [vi t4, vi t3, vi t2, vr t1, vi t0] G Q := by
  obtain ⟨ho3, h⟩ := h
  refine wp_invV (pc := 943) (N := M_X12_pin) (As := [vi _, vi _, vi _]) (rest := [vi _]) (r := (cn_12, ct_12, 95)) d_L_law_943 ml_L_97 mk_X12_pin mv_X12_pin h0 ho3 rfl rfl (Nat.le_of_ble_eq_true rfl) ?_
  refine wpM.mono h (fun rr G2 hr => ?_)
  obtain ⟨r1, rfl, h⟩ := hr
  show wp E d M_L_law 946 [some (vs (eS E).1), some (vr _), some (vr _), some (vi _)] [vi _, vi _] G2 Q
  refine wp_icmp_eq (pc := 946) (tgt := 2374) d_L_law_946 (by decide) (fun hc => ?_) (fun hc => ?_)
  · have h := h.1 hc
    refine wp_sub ?_ h
    exact ⟨rfl, ⟨rfl, ⟨rfl, ⟨rfl, trivial⟩⟩⟩⟩
  · have h := h.2 hc
    refine wp_iconst (pc := 949) (v := 0) d_L_law_949 rfl ?_
    exact wp_zret (pc := 950) d_L_law_950 rfl rfl h
theorem v_L_law_951 {E : EE} {d : Nat} {Q : Option AV → AH → Prop} {x1 : Nat} {x2 : Nat} {x3 : Int32} {G : AH} (h0 : 0 < d) (h : vp_in (x3 + 1) (eS E).2.1 ∧ (vp_in (x3 + 2) (eS E).2.1 ∧ (vp_in (x3 + 3) (eS E).2.1 ∧ (isO E G x1 11 ∧ (wpI E (d - 1) M_X11_weigh [vr x1, vi ((eS E).2.2 (Int32.toNatClampNeg (x3 + 1))), vi ((eS E).2.2 (Int32.toNatClampNeg (x3 + 2))), vi ((eS E).2.2 (Int32.toNatClampNeg (x3 + 3)))] G (fun r4 G5 => vp_in (x3 + 1) (eS E).2.1 ∧ (vp_in (x3 + 2) (eS E).2.1 ∧ (vp_in (x3 + 3) (eS E).2.1 ∧ (isO E G5 x2 12 ∧ (wpI E (d - 1) M_X12_weigh [vr x2, vi ((eS E).2.2 (Int32.toNatClampNeg (x3 + 1))), vi ((eS E).2.2 (Int32.toNatClampNeg (x3 + 2))), vi ((eS E).2.2 (Int32.toNatClampNeg (x3 + 3)))] G5 (fun r9 G10 => (r4 = r9 → wp E d M_L_law 2374 [some (vs (eS E).1), some (vr x1), some (vr x2), some (vi x3)] [] G10 Q) ∧ (¬ (r4 = r9) → Q (some (vi 0)) G10)))))))))))) : wp E d M_L_law 951 [some (vs (eS E).1), some (vr x1), some (vr x2), some (vi x3)] [] G Q := by
  refine wp_aload_n (pc := 951) d_L_law_951 rfl ?_
  refine wp_aload_nS (pc := 952) d_L_law_952 rfl ?_
  refine wp_iload_n (pc := 953) d_L_law_953 rfl ?_
  refine wp_iconst (pc := 954) (v := 1) d_L_law_954 rfl ?_
  refine wp_iadd (pc := 955) d_L_law_955 ?_
  obtain ⟨hi1, h⟩ := h
  refine wp_sld (pc := 956) d_L_law_956 hi1 ?_
  refine wp_aload_nS (pc := 957) d_L_law_957 rfl ?_
  refine wp_iload_n (pc := 958) d_L_law_958 rfl ?_
  refine wp_iconst (pc := 959) (v := 2) d_L_law_959 rfl ?_
  refine wp_iadd (pc := 960) d_L_law_960 ?_
  obtain ⟨hi2, h⟩ := h
  refine wp_sld (pc := 961) d_L_law_961 hi2 ?_
  refine wp_aload_nS (pc := 962) d_L_law_962 rfl ?_
  refine wp_iload_n (pc := 963) d_L_law_963 rfl ?_
  refine wp_iconst (pc := 964) (v := 3) d_L_law_964 rfl ?_
  refine wp_iadd (pc := 965) d_L_law_965 ?_
  obtain ⟨hi3, h⟩ := h
  refine wp_sld (pc := 966) d_L_law_966 hi3 ?_
  obtain ⟨ho12, h⟩ := h
  refine wp_invV (pc := 967) (N := M_X11_weigh) (As := [vi _, vi _, vi _]) (rest := []) (r := (cn_11, ct_11, 12)) d_L_law_967 ml_L_98 mk_X11_weigh mv_X11_weigh h0 ho12 rfl rfl (Nat.le_of_ble_eq_true rfl) ?_
  refine wpM.mono h (fun rr G5 hr => ?_)
  obtain ⟨r4, rfl, h⟩ := hr
  show wp E d M_L_law 970 [some (vs (eS E).1), some (vr _), some (vr _), some (vi _)] [vi _] G5 Q
  refine wp_aload_n (pc := 970) d_L_law_970 rfl ?_
  refine wp_aload_nS (pc := 971) d_L_law_971 rfl ?_
  refine wp_iload_n (pc := 972) d_L_law_972 rfl ?_
  refine wp_iconst (pc := 973) (v := 1) d_L_law_973 rfl ?_
  refine wp_iadd (pc := 974) d_L_law_974 ?_
  obtain ⟨hi6, h⟩ := h
  refine wp_sld (pc := 975) d_L_law_975 hi6 ?_
  refine wp_aload_nS (pc := 976) d_L_law_976 rfl ?_
  refine wp_iload_n (pc := 977) d_L_law_977 rfl ?_
  refine wp_iconst (pc := 978) (v := 2) d_L_law_978 rfl ?_
  refine wp_iadd (pc := 979) d_L_law_979 ?_
  obtain ⟨hi7, h⟩ := h
  refine wp_sld (pc := 980) d_L_law_980 hi7 ?_
  refine wp_aload_nS (pc := 981) d_L_law_981 rfl ?_
  refine wp_iload_n (pc := 982) d_L_law_982 rfl ?_
  refine wp_iconst (pc := 983) (v := 3) d_L_law_983 rfl ?_
  refine wp_iadd (pc := 984) d_L_law_984 ?_
  obtain ⟨hi8, h⟩ := h
  refine wp_sld (pc := 985) d_L_law_985 hi8 ?_
  obtain ⟨ho11, h⟩ := h
  refine wp_invV (pc := 986) (N := M_X12_weigh) (As := [vi _, vi _, vi _]) (rest := [vi _]) (r := (cn_12, ct_12, 95)) d_L_law_986 ml_L_101 mk_X12_weigh mv_X12_weigh h0 ho11 rfl rfl (Nat.le_of_ble_eq_true rfl) ?_
  refine wpM.mono h (fun rr G10 hr => ?_)
  obtain ⟨r9, rfl, h⟩ := hr
  show wp E d M_L_law 989 [some (vs (eS E).1), some (vr _), some (vr _), some (vi _)] [vi _, vi _] G10 Q
  refine wp_icmp_eq (pc := 989) (tgt := 2374) d_L_law_989 (by decide) (fun hc => ?_) (fun hc => ?_)
  · have h := h.1 hc
    refine wp_sub ?_ h
    exact ⟨rfl, ⟨rfl, ⟨rfl, ⟨rfl, trivial⟩⟩⟩⟩
  · have h := h.2 hc
    refine wp_iconst (pc := 992) (v := 0) d_L_law_992 rfl ?_
    exact wp_zret (pc := 993) d_L_law_993 rfl rfl h
theorem v_L_law_994 {E : EE} {d : Nat} {Q : Option AV → AH → Prop} {x1 : Nat} {x2 : Nat} {x3 : Int32} {G : AH} (h0 : 0 < d) (h : vp_in (x3 + 1) (eS E).2.1 ∧ (vp_in (x3 + 2) (eS E).2.1 ∧ (isO E G x1 11 ∧ (wpI E (d - 1) M_X11_broken [vr x1, vi ((eS E).2.2 (Int32.toNatClampNeg (x3 + 1))), vi ((eS E).2.2 (Int32.toNatClampNeg (x3 + 2)))] G (fun r3 G4 => vp_in (x3 + 1) (eS E).2.1 ∧ (vp_in (x3 + 2) (eS E).2.1 ∧ (isO E G4 x2 12 ∧ (wpI E (d - 1) M_X12_broken [vr x2, vi ((eS E).2.2 (Int32.toNatClampNeg (x3 + 1))), vi ((eS E).2.2 (Int32.toNatClampNeg (x3 + 2)))] G4 (fun r7 G8 => (r3 = r7 → wp E d M_L_law 2374 [some (vs (eS E).1), some (vr x1), some (vr x2), some (vi x3)] [] G8 Q) ∧ (¬ (r3 = r7) → Q (some (vi 0)) G8)))))))))) : wp E d M_L_law 994 [some (vs (eS E).1), some (vr x1), some (vr x2), some (vi x3)] [] G Q := by
  refine wp_aload_n (pc := 994) d_L_law_994 rfl ?_
  refine wp_aload_nS (pc := 995) d_L_law_995 rfl ?_
  refine wp_iload_n (pc := 996) d_L_law_996 rfl ?_
  refine wp_iconst (pc := 997) (v := 1) d_L_law_997 rfl ?_
  refine wp_iadd (pc := 998) d_L_law_998 ?_
  obtain ⟨hi1, h⟩ := h
  refine wp_sld (pc := 999) d_L_law_999 hi1 ?_
  refine wp_aload_nS (pc := 1000) d_L_law_1000 rfl ?_
  refine wp_iload_n (pc := 1001) d_L_law_1001 rfl ?_
  refine wp_iconst (pc := 1002) (v := 2) d_L_law_1002 rfl ?_
  refine wp_iadd (pc := 1003) d_L_law_1003 ?_
  obtain ⟨hi2, h⟩ := h
  refine wp_sld (pc := 1004) d_L_law_1004 hi2 ?_
  obtain ⟨ho10, h⟩ := h
  refine wp_invV (pc := 1005) (N := M_X11_broken) (As := [vi _, vi _]) (rest := []) (r := (cn_11, ct_11, 12)) d_L_law_1005 ml_L_102 mk_X11_broken mv_X11_broken h0 ho10 rfl rfl (Nat.le_of_ble_eq_true rfl) ?_
  refine wpM.mono h (fun rr G4 hr => ?_)
  obtain ⟨r3, rfl, h⟩ := hr
  show wp E d M_L_law 1008 [some (vs (eS E).1), some (vr _), some (vr _), some (vi _)] [vi _] G4 Q
  refine wp_aload_n (pc := 1008) d_L_law_1008 rfl ?_
  refine wp_aload_nS (pc := 1009) d_L_law_1009 rfl ?_
  refine wp_iload_n (pc := 1010) d_L_law_1010 rfl ?_
  refine wp_iconst (pc := 1011) (v := 1) d_L_law_1011 rfl ?_
  refine wp_iadd (pc := 1012) d_L_law_1012 ?_
  obtain ⟨hi5, h⟩ := h
  refine wp_sld (pc := 1013) d_L_law_1013 hi5 ?_
  refine wp_aload_nS (pc := 1014) d_L_law_1014 rfl ?_
  refine wp_iload_n (pc := 1015) d_L_law_1015 rfl ?_
  refine wp_iconst (pc := 1016) (v := 2) d_L_law_1016 rfl ?_
  refine wp_iadd (pc := 1017) d_L_law_1017 ?_
  obtain ⟨hi6, h⟩ := h
  refine wp_sld (pc := 1018) d_L_law_1018 hi6 ?_
  obtain ⟨ho9, h⟩ := h
  refine wp_invV (pc := 1019) (N := M_X12_broken) (As := [vi _, vi _]) (rest := [vi _]) (r := (cn_12, ct_12, 95)) d_L_law_1019 ml_L_105 mk_X12_broken mv_X12_broken h0 ho9 rfl rfl (Nat.le_of_ble_eq_true rfl) ?_
  refine wpM.mono h (fun rr G8 hr => ?_)
  obtain ⟨r7, rfl, h⟩ := hr
  show wp E d M_L_law 1022 [some (vs (eS E).1), some (vr _), some (vr _), some (vi _)] [vi _, vi _] G8 Q
  refine wp_icmp_eq (pc := 1022) (tgt := 2374) d_L_law_1022 (by decide) (fun hc => ?_) (fun hc => ?_)
  · have h := h.1 hc
    refine wp_sub ?_ h
    exact ⟨rfl, ⟨rfl, ⟨rfl, ⟨rfl, trivial⟩⟩⟩⟩
  · have h := h.2 hc
    refine wp_iconst (pc := 1025) (v := 0) d_L_law_1025 rfl ?_
    exact wp_zret (pc := 1026) d_L_law_1026 rfl rfl h
theorem v_L_law_1027 {E : EE} {d : Nat} {Q : Option AV → AH → Prop} {x1 : Nat} {x2 : Nat} {x3 : Int32} {G : AH} (h0 : 0 < d) (h : vp_in (x3 + 1) (eS E).2.1 ∧ (vp_in (x3 + 2) (eS E).2.1 ∧ (isO E G x1 11 ∧ (wpJ E (d - 1) M_X11_aim [vr x1, vi ((eS E).2.2 (Int32.toNatClampNeg (x3 + 1))), vi ((eS E).2.2 (Int32.toNatClampNeg (x3 + 2)))] G (fun r3 G4 => vp_in (x3 + 1) (eS E).2.1 ∧ (vp_in (x3 + 2) (eS E).2.1 ∧ (isO E G4 x2 12 ∧ (wpJ E (d - 1) M_X12_aim [vr x2, vi ((eS E).2.2 (Int32.toNatClampNeg (x3 + 1))), vi ((eS E).2.2 (Int32.toNatClampNeg (x3 + 2)))] G4 (fun r7 G8 => (r3 = r7 → wp E d M_L_law 2374 [some (vs (eS E).1), some (vr x1), some (vr x2), some (vi x3)] [] G8 Q) ∧ (¬ (r3 = r7) → Q (some (vi 0)) G8)))))))))) : wp E d M_L_law 1027 [some (vs (eS E).1), some (vr x1), some (vr x2), some (vi x3)] [] G Q := by
  refine wp_aload_n (pc := 1027) d_L_law_1027 rfl ?_
  refine wp_aload_nS (pc := 1028) d_L_law_1028 rfl ?_
  refine wp_iload_n (pc := 1029) d_L_law_1029 rfl ?_
  refine wp_iconst (pc := 1030) (v := 1) d_L_law_1030 rfl ?_
  refine wp_iadd (pc := 1031) d_L_law_1031 ?_
  obtain ⟨hi1, h⟩ := h
  refine wp_sld (pc := 1032) d_L_law_1032 hi1 ?_
  refine wp_aload_nS (pc := 1033) d_L_law_1033 rfl ?_
  refine wp_iload_n (pc := 1034) d_L_law_1034 rfl ?_
  refine wp_iconst (pc := 1035) (v := 2) d_L_law_1035 rfl ?_
  refine wp_iadd (pc := 1036) d_L_law_1036 ?_
  obtain ⟨hi2, h⟩ := h
  refine wp_sld (pc := 1037) d_L_law_1037 hi2 ?_
  obtain ⟨ho10, h⟩ := h
  refine wp_invV (pc := 1038) (N := M_X11_aim) (As := [vi _, vi _]) (rest := []) (r := (cn_11, ct_11, 12)) d_L_law_1038 ml_L_106 mk_X11_aim mv_X11_aim h0 ho10 rfl rfl (Nat.le_of_ble_eq_true rfl) ?_
  refine wpM.mono h (fun rr G4 hr => ?_)
  obtain ⟨r3, rfl, h⟩ := hr
  show wp E d M_L_law 1041 [some (vs (eS E).1), some (vr _), some (vr _), some (vi _)] [vj _] G4 Q
  refine wp_aload_n (pc := 1041) d_L_law_1041 rfl ?_
  refine wp_aload_nS (pc := 1042) d_L_law_1042 rfl ?_
  refine wp_iload_n (pc := 1043) d_L_law_1043 rfl ?_
  refine wp_iconst (pc := 1044) (v := 1) d_L_law_1044 rfl ?_
  refine wp_iadd (pc := 1045) d_L_law_1045 ?_
  obtain ⟨hi5, h⟩ := h
  refine wp_sld (pc := 1046) d_L_law_1046 hi5 ?_
  refine wp_aload_nS (pc := 1047) d_L_law_1047 rfl ?_
  refine wp_iload_n (pc := 1048) d_L_law_1048 rfl ?_
  refine wp_iconst (pc := 1049) (v := 2) d_L_law_1049 rfl ?_
  refine wp_iadd (pc := 1050) d_L_law_1050 ?_
  obtain ⟨hi6, h⟩ := h
  refine wp_sld (pc := 1051) d_L_law_1051 hi6 ?_
  obtain ⟨ho9, h⟩ := h
  refine wp_invV (pc := 1052) (N := M_X12_aim) (As := [vi _, vi _]) (rest := [vj _]) (r := (cn_12, ct_12, 95)) d_L_law_1052 ml_L_109 mk_X12_aim mv_X12_aim h0 ho9 rfl rfl (Nat.le_of_ble_eq_true rfl) ?_
  refine wpM.mono h (fun rr G8 hr => ?_)
  obtain ⟨r7, rfl, h⟩ := hr
  show wp E d M_L_law 1055 [some (vs (eS E).1), some (vr _), some (vr _), some (vi _)] [vj _, vj _] G8 Q
  refine wp_lcmp_eq (pc := 1055) (tgt := 2374) d_L_law_1055 d_L_law_1056 (by decide) (fun hc => ?_) (fun hc => ?_)
  · have h := h.1 hc
    refine wp_sub ?_ h
    exact ⟨rfl, ⟨rfl, ⟨rfl, ⟨rfl, trivial⟩⟩⟩⟩
  · have h := h.2 hc
    refine wp_iconst (pc := 1059) (v := 0) d_L_law_1059 rfl ?_
    exact wp_zret (pc := 1060) d_L_law_1060 rfl rfl h
theorem v_L_law_1061 {E : EE} {d : Nat} {Q : Option AV → AH → Prop} {x1 : Nat} {x2 : Nat} {x3 : Int32} {G : AH} (h0 : 0 < d) (h : vp_in (x3 + 1) (eS E).2.1 ∧ (vp_in (x3 + 2) (eS E).2.1 ∧ (isO E G x1 11 ∧ (wpJ E (d - 1) M_X11_score [vr x1, vi ((eS E).2.2 (Int32.toNatClampNeg (x3 + 1))), vi ((eS E).2.2 (Int32.toNatClampNeg (x3 + 2)))] G (fun r3 G4 => vp_in (x3 + 1) (eS E).2.1 ∧ (vp_in (x3 + 2) (eS E).2.1 ∧ (isO E G4 x2 12 ∧ (wpJ E (d - 1) M_X12_score [vr x2, vi ((eS E).2.2 (Int32.toNatClampNeg (x3 + 1))), vi ((eS E).2.2 (Int32.toNatClampNeg (x3 + 2)))] G4 (fun r7 G8 => (r3 = r7 → wp E d M_L_law 2374 [some (vs (eS E).1), some (vr x1), some (vr x2), some (vi x3)] [] G8 Q) ∧ (¬ (r3 = r7) → Q (some (vi 0)) G8)))))))))) : wp E d M_L_law 1061 [some (vs (eS E).1), some (vr x1), some (vr x2), some (vi x3)] [] G Q := by
  refine wp_aload_n (pc := 1061) d_L_law_1061 rfl ?_
  refine wp_aload_nS (pc := 1062) d_L_law_1062 rfl ?_
  refine wp_iload_n (pc := 1063) d_L_law_1063 rfl ?_
  refine wp_iconst (pc := 1064) (v := 1) d_L_law_1064 rfl ?_
  refine wp_iadd (pc := 1065) d_L_law_1065 ?_
  obtain ⟨hi1, h⟩ := h
  refine wp_sld (pc := 1066) d_L_law_1066 hi1 ?_
  refine wp_aload_nS (pc := 1067) d_L_law_1067 rfl ?_
  refine wp_iload_n (pc := 1068) d_L_law_1068 rfl ?_
  refine wp_iconst (pc := 1069) (v := 2) d_L_law_1069 rfl ?_
  refine wp_iadd (pc := 1070) d_L_law_1070 ?_
  obtain ⟨hi2, h⟩ := h
  refine wp_sld (pc := 1071) d_L_law_1071 hi2 ?_
  obtain ⟨ho10, h⟩ := h
  refine wp_invV (pc := 1072) (N := M_X11_score) (As := [vi _, vi _]) (rest := []) (r := (cn_11, ct_11, 12)) d_L_law_1072 ml_L_110 mk_X11_score mv_X11_score h0 ho10 rfl rfl (Nat.le_of_ble_eq_true rfl) ?_
  refine wpM.mono h (fun rr G4 hr => ?_)
  obtain ⟨r3, rfl, h⟩ := hr
  show wp E d M_L_law 1075 [some (vs (eS E).1), some (vr _), some (vr _), some (vi _)] [vj _] G4 Q
  refine wp_aload_n (pc := 1075) d_L_law_1075 rfl ?_
  refine wp_aload_nS (pc := 1076) d_L_law_1076 rfl ?_
  refine wp_iload_n (pc := 1077) d_L_law_1077 rfl ?_
  refine wp_iconst (pc := 1078) (v := 1) d_L_law_1078 rfl ?_
  refine wp_iadd (pc := 1079) d_L_law_1079 ?_
  obtain ⟨hi5, h⟩ := h
  refine wp_sld (pc := 1080) d_L_law_1080 hi5 ?_
  refine wp_aload_nS (pc := 1081) d_L_law_1081 rfl ?_
  refine wp_iload_n (pc := 1082) d_L_law_1082 rfl ?_
  refine wp_iconst (pc := 1083) (v := 2) d_L_law_1083 rfl ?_
  refine wp_iadd (pc := 1084) d_L_law_1084 ?_
  obtain ⟨hi6, h⟩ := h
  refine wp_sld (pc := 1085) d_L_law_1085 hi6 ?_
  obtain ⟨ho9, h⟩ := h
  refine wp_invV (pc := 1086) (N := M_X12_score) (As := [vi _, vi _]) (rest := [vj _]) (r := (cn_12, ct_12, 95)) d_L_law_1086 ml_L_113 mk_X12_score mv_X12_score h0 ho9 rfl rfl (Nat.le_of_ble_eq_true rfl) ?_
  refine wpM.mono h (fun rr G8 hr => ?_)
  obtain ⟨r7, rfl, h⟩ := hr
  show wp E d M_L_law 1089 [some (vs (eS E).1), some (vr _), some (vr _), some (vi _)] [vj _, vj _] G8 Q
  refine wp_lcmp_eq (pc := 1089) (tgt := 2374) d_L_law_1089 d_L_law_1090 (by decide) (fun hc => ?_) (fun hc => ?_)
  · have h := h.1 hc
    refine wp_sub ?_ h
    exact ⟨rfl, ⟨rfl, ⟨rfl, ⟨rfl, trivial⟩⟩⟩⟩
  · have h := h.2 hc
    refine wp_iconst (pc := 1093) (v := 0) d_L_law_1093 rfl ?_
    exact wp_zret (pc := 1094) d_L_law_1094 rfl rfl h
theorem v_L_law_1095 {E : EE} {d : Nat} {Q : Option AV → AH → Prop} {x1 : Nat} {x2 : Nat} {x3 : Int32} {G : AH} (h0 : 0 < d) (h : vp_in (x3 + 1) (eS E).2.1 ∧ (isO E G x1 11 ∧ (wpI E (d - 1) M_X11_feasible [vr x1, vi ((eS E).2.2 (Int32.toNatClampNeg (x3 + 1)))] G (fun r2 G3 => vp_in (x3 + 1) (eS E).2.1 ∧ (isO E G3 x2 12 ∧ (wpI E (d - 1) M_X12_feasible [vr x2, vi ((eS E).2.2 (Int32.toNatClampNeg (x3 + 1)))] G3 (fun r5 G6 => (r2 = r5 → wp E d M_L_law 2374 [some (vs (eS E).1), some (vr x1), some (vr x2), some (vi x3)] [] G6 Q) ∧ (¬ (r2 = r5) → Q (some (vi 0)) G6)))))))) : wp E d M_L_law 1095 [some (vs (eS E).1), some (vr x1), some (vr x2), some (vi x3)] [] G Q := by
  refine wp_aload_n (pc := 1095) d_L_law_1095 rfl ?_
  refine wp_aload_nS (pc := 1096) d_L_law_1096 rfl ?_
  refine wp_iload_n (pc := 1097) d_L_law_1097 rfl ?_
  refine wp_iconst (pc := 1098) (v := 1) d_L_law_1098 rfl ?_
  refine wp_iadd (pc := 1099) d_L_law_1099 ?_
  obtain ⟨hi1, h⟩ := h
  refine wp_sld (pc := 1100) d_L_law_1100 hi1 ?_
  obtain ⟨ho8, h⟩ := h
  refine wp_invV (pc := 1101) (N := M_X11_feasible) (As := [vi _]) (rest := []) (r := (cn_11, ct_11, 12)) d_L_law_1101 ml_L_114 mk_X11_feasible mv_X11_feasible h0 ho8 rfl rfl (Nat.le_of_ble_eq_true rfl) ?_
  refine wpM.mono h (fun rr G3 hr => ?_)
  obtain ⟨r2, rfl, h⟩ := hr
  show wp E d M_L_law 1104 [some (vs (eS E).1), some (vr _), some (vr _), some (vi _)] [vi _] G3 Q
  refine wp_aload_n (pc := 1104) d_L_law_1104 rfl ?_
  refine wp_aload_nS (pc := 1105) d_L_law_1105 rfl ?_
  refine wp_iload_n (pc := 1106) d_L_law_1106 rfl ?_
  refine wp_iconst (pc := 1107) (v := 1) d_L_law_1107 rfl ?_
  refine wp_iadd (pc := 1108) d_L_law_1108 ?_
  obtain ⟨hi4, h⟩ := h
  refine wp_sld (pc := 1109) d_L_law_1109 hi4 ?_
  obtain ⟨ho7, h⟩ := h
  refine wp_invV (pc := 1110) (N := M_X12_feasible) (As := [vi _]) (rest := [vi _]) (r := (cn_12, ct_12, 95)) d_L_law_1110 ml_L_117 mk_X12_feasible mv_X12_feasible h0 ho7 rfl rfl (Nat.le_of_ble_eq_true rfl) ?_
  refine wpM.mono h (fun rr G6 hr => ?_)
  obtain ⟨r5, rfl, h⟩ := hr
  show wp E d M_L_law 1113 [some (vs (eS E).1), some (vr _), some (vr _), some (vi _)] [vi _, vi _] G6 Q
  refine wp_icmp_eq (pc := 1113) (tgt := 2374) d_L_law_1113 (by decide) (fun hc => ?_) (fun hc => ?_)
  · have h := h.1 hc
    refine wp_sub ?_ h
    exact ⟨rfl, ⟨rfl, ⟨rfl, ⟨rfl, trivial⟩⟩⟩⟩
  · have h := h.2 hc
    refine wp_iconst (pc := 1116) (v := 0) d_L_law_1116 rfl ?_
    exact wp_zret (pc := 1117) d_L_law_1117 rfl rfl h
theorem v_L_law_1118 {E : EE} {d : Nat} {Q : Option AV → AH → Prop} {x1 : Nat} {x2 : Nat} {x3 : Int32} {G : AH} (h0 : 0 < d) (h : vp_in (x3 + 1) (eS E).2.1 ∧ (isO E G x1 11 ∧ (wpI E (d - 1) M_X11_reach [vr x1, vi ((eS E).2.2 (Int32.toNatClampNeg (x3 + 1)))] G (fun r2 G3 => vp_in (x3 + 1) (eS E).2.1 ∧ (isO E G3 x2 12 ∧ (wpI E (d - 1) M_X12_reach [vr x2, vi ((eS E).2.2 (Int32.toNatClampNeg (x3 + 1)))] G3 (fun r5 G6 => (r2 = r5 → wp E d M_L_law 2374 [some (vs (eS E).1), some (vr x1), some (vr x2), some (vi x3)] [] G6 Q) ∧ (¬ (r2 = r5) → Q (some (vi 0)) G6)))))))) : wp E d M_L_law 1118 [some (vs (eS E).1), some (vr x1), some (vr x2), some (vi x3)] [] G Q := by
  refine wp_aload_n (pc := 1118) d_L_law_1118 rfl ?_
  refine wp_aload_nS (pc := 1119) d_L_law_1119 rfl ?_
  refine wp_iload_n (pc := 1120) d_L_law_1120 rfl ?_
  refine wp_iconst (pc := 1121) (v := 1) d_L_law_1121 rfl ?_
  refine wp_iadd (pc := 1122) d_L_law_1122 ?_
  obtain ⟨hi1, h⟩ := h
  refine wp_sld (pc := 1123) d_L_law_1123 hi1 ?_
  obtain ⟨ho8, h⟩ := h
  refine wp_invV (pc := 1124) (N := M_X11_reach) (As := [vi _]) (rest := []) (r := (cn_11, ct_11, 12)) d_L_law_1124 ml_L_118 mk_X11_reach mv_X11_reach h0 ho8 rfl rfl (Nat.le_of_ble_eq_true rfl) ?_
  refine wpM.mono h (fun rr G3 hr => ?_)
  obtain ⟨r2, rfl, h⟩ := hr
  show wp E d M_L_law 1127 [some (vs (eS E).1), some (vr _), some (vr _), some (vi _)] [vi _] G3 Q
  refine wp_aload_n (pc := 1127) d_L_law_1127 rfl ?_
  refine wp_aload_nS (pc := 1128) d_L_law_1128 rfl ?_
  refine wp_iload_n (pc := 1129) d_L_law_1129 rfl ?_
  refine wp_iconst (pc := 1130) (v := 1) d_L_law_1130 rfl ?_
  refine wp_iadd (pc := 1131) d_L_law_1131 ?_
  obtain ⟨hi4, h⟩ := h
  refine wp_sld (pc := 1132) d_L_law_1132 hi4 ?_
  obtain ⟨ho7, h⟩ := h
  refine wp_invV (pc := 1133) (N := M_X12_reach) (As := [vi _]) (rest := [vi _]) (r := (cn_12, ct_12, 95)) d_L_law_1133 ml_L_121 mk_X12_reach mv_X12_reach h0 ho7 rfl rfl (Nat.le_of_ble_eq_true rfl) ?_
  refine wpM.mono h (fun rr G6 hr => ?_)
  obtain ⟨r5, rfl, h⟩ := hr
  show wp E d M_L_law 1136 [some (vs (eS E).1), some (vr _), some (vr _), some (vi _)] [vi _, vi _] G6 Q
  refine wp_icmp_eq (pc := 1136) (tgt := 2374) d_L_law_1136 (by decide) (fun hc => ?_) (fun hc => ?_)
  · have h := h.1 hc
    refine wp_sub ?_ h
    exact ⟨rfl, ⟨rfl, ⟨rfl, ⟨rfl, trivial⟩⟩⟩⟩
  · have h := h.2 hc
    refine wp_iconst (pc := 1139) (v := 0) d_L_law_1139 rfl ?_
    exact wp_zret (pc := 1140) d_L_law_1140 rfl rfl h
theorem v_L_law_1141 {E : EE} {d : Nat} {Q : Option AV → AH → Prop} {x1 : Nat} {x2 : Nat} {x3 : Int32} {G : AH} (h0 : 0 < d) (h : vp_in (x3 + 1) (eS E).2.1 ∧ (vp_in (x3 + 2) (eS E).2.1 ∧ (vp_in (x3 + 3) (eS E).2.1 ∧ (isO E G x1 11 ∧ (wpI E (d - 1) M_X11_isLeft [vr x1, vi ((eS E).2.2 (Int32.toNatClampNeg (x3 + 1))), vi ((eS E).2.2 (Int32.toNatClampNeg (x3 + 2))), vi ((eS E).2.2 (Int32.toNatClampNeg (x3 + 3)))] G (fun r4 G5 => vp_in (x3 + 1) (eS E).2.1 ∧ (vp_in (x3 + 2) (eS E).2.1 ∧ (vp_in (x3 + 3) (eS E).2.1 ∧ (isO E G5 x2 12 ∧ (wpI E (d - 1) M_X12_isLeft [vr x2, vi ((eS E).2.2 (Int32.toNatClampNeg (x3 + 1))), vi ((eS E).2.2 (Int32.toNatClampNeg (x3 + 2))), vi ((eS E).2.2 (Int32.toNatClampNeg (x3 + 3)))] G5 (fun r9 G10 => (r4 = r9 → wp E d M_L_law 2374 [some (vs (eS E).1), some (vr x1), some (vr x2), some (vi x3)] [] G10 Q) ∧ (¬ (r4 = r9) → Q (some (vi 0)) G10)))))))))))) : wp E d M_L_law 1141 [some (vs (eS E).1), some (vr x1), some (vr x2), some (vi x3)] [] G Q := by
  refine wp_aload_n (pc := 1141) d_L_law_1141 rfl ?_
  refine wp_aload_nS (pc := 1142) d_L_law_1142 rfl ?_
  refine wp_iload_n (pc := 1143) d_L_law_1143 rfl ?_
  refine wp_iconst (pc := 1144) (v := 1) d_L_law_1144 rfl ?_
  refine wp_iadd (pc := 1145) d_L_law_1145 ?_
  obtain ⟨hi1, h⟩ := h
  refine wp_sld (pc := 1146) d_L_law_1146 hi1 ?_
  refine wp_aload_nS (pc := 1147) d_L_law_1147 rfl ?_
  refine wp_iload_n (pc := 1148) d_L_law_1148 rfl ?_
  refine wp_iconst (pc := 1149) (v := 2) d_L_law_1149 rfl ?_
  refine wp_iadd (pc := 1150) d_L_law_1150 ?_
  obtain ⟨hi2, h⟩ := h
  refine wp_sld (pc := 1151) d_L_law_1151 hi2 ?_
  refine wp_aload_nS (pc := 1152) d_L_law_1152 rfl ?_
  refine wp_iload_n (pc := 1153) d_L_law_1153 rfl ?_
  refine wp_iconst (pc := 1154) (v := 3) d_L_law_1154 rfl ?_
  refine wp_iadd (pc := 1155) d_L_law_1155 ?_
  obtain ⟨hi3, h⟩ := h
  refine wp_sld (pc := 1156) d_L_law_1156 hi3 ?_
  obtain ⟨ho12, h⟩ := h
  refine wp_invV (pc := 1157) (N := M_X11_isLeft) (As := [vi _, vi _, vi _]) (rest := []) (r := (cn_11, ct_11, 12)) d_L_law_1157 ml_L_122 mk_X11_isLeft mv_X11_isLeft h0 ho12 rfl rfl (Nat.le_of_ble_eq_true rfl) ?_
  refine wpM.mono h (fun rr G5 hr => ?_)
  obtain ⟨r4, rfl, h⟩ := hr
  show wp E d M_L_law 1160 [some (vs (eS E).1), some (vr _), some (vr _), some (vi _)] [vi _] G5 Q
  refine wp_aload_n (pc := 1160) d_L_law_1160 rfl ?_
  refine wp_aload_nS (pc := 1161) d_L_law_1161 rfl ?_
  refine wp_iload_n (pc := 1162) d_L_law_1162 rfl ?_
  refine wp_iconst (pc := 1163) (v := 1) d_L_law_1163 rfl ?_
  refine wp_iadd (pc := 1164) d_L_law_1164 ?_
  obtain ⟨hi6, h⟩ := h
  refine wp_sld (pc := 1165) d_L_law_1165 hi6 ?_
  refine wp_aload_nS (pc := 1166) d_L_law_1166 rfl ?_
  refine wp_iload_n (pc := 1167) d_L_law_1167 rfl ?_
  refine wp_iconst (pc := 1168) (v := 2) d_L_law_1168 rfl ?_
  refine wp_iadd (pc := 1169) d_L_law_1169 ?_
  obtain ⟨hi7, h⟩ := h
  refine wp_sld (pc := 1170) d_L_law_1170 hi7 ?_
  refine wp_aload_nS (pc := 1171) d_L_law_1171 rfl ?_
  refine wp_iload_n (pc := 1172) d_L_law_1172 rfl ?_
  refine wp_iconst (pc := 1173) (v := 3) d_L_law_1173 rfl ?_
  refine wp_iadd (pc := 1174) d_L_law_1174 ?_
  obtain ⟨hi8, h⟩ := h
  refine wp_sld (pc := 1175) d_L_law_1175 hi8 ?_
  obtain ⟨ho11, h⟩ := h
  refine wp_invV (pc := 1176) (N := M_X12_isLeft) (As := [vi _, vi _, vi _]) (rest := [vi _]) (r := (cn_12, ct_12, 95)) d_L_law_1176 ml_L_125 mk_X12_isLeft mv_X12_isLeft h0 ho11 rfl rfl (Nat.le_of_ble_eq_true rfl) ?_
  refine wpM.mono h (fun rr G10 hr => ?_)
  obtain ⟨r9, rfl, h⟩ := hr
  show wp E d M_L_law 1179 [some (vs (eS E).1), some (vr _), some (vr _), some (vi _)] [vi _, vi _] G10 Q
  refine wp_icmp_eq (pc := 1179) (tgt := 2374) d_L_law_1179 (by decide) (fun hc => ?_) (fun hc => ?_)
  · have h := h.1 hc
    refine wp_sub ?_ h
    exact ⟨rfl, ⟨rfl, ⟨rfl, ⟨rfl, trivial⟩⟩⟩⟩
  · have h := h.2 hc
    refine wp_iconst (pc := 1182) (v := 0) d_L_law_1182 rfl ?_
    exact wp_zret (pc := 1183) d_L_law_1183 rfl rfl h
theorem v_L_law_1184 {E : EE} {d : Nat} {Q : Option AV → AH → Prop} {x1 : Nat} {x2 : Nat} {x3 : Int32} {G : AH} (h0 : 0 < d) (h : vp_in (x3 + 1) (eS E).2.1 ∧ (isO E G x1 11 ∧ (wpI E (d - 1) M_X11_hopeless [vr x1, vi ((eS E).2.2 (Int32.toNatClampNeg (x3 + 1)))] G (fun r2 G3 => vp_in (x3 + 1) (eS E).2.1 ∧ (isO E G3 x2 12 ∧ (wpI E (d - 1) M_X12_hopeless [vr x2, vi ((eS E).2.2 (Int32.toNatClampNeg (x3 + 1)))] G3 (fun r5 G6 => (r2 = r5 → wp E d M_L_law 2374 [some (vs (eS E).1), some (vr x1), some (vr x2), some (vi x3)] [] G6 Q) ∧ (¬ (r2 = r5) → Q (some (vi 0)) G6)))))))) : wp E d M_L_law 1184 [some (vs (eS E).1), some (vr x1), some (vr x2), some (vi x3)] [] G Q := by
  refine wp_aload_n (pc := 1184) d_L_law_1184 rfl ?_
  refine wp_aload_nS (pc := 1185) d_L_law_1185 rfl ?_
  refine wp_iload_n (pc := 1186) d_L_law_1186 rfl ?_
  refine wp_iconst (pc := 1187) (v := 1) d_L_law_1187 rfl ?_
  refine wp_iadd (pc := 1188) d_L_law_1188 ?_
  obtain ⟨hi1, h⟩ := h
  refine wp_sld (pc := 1189) d_L_law_1189 hi1 ?_
  obtain ⟨ho8, h⟩ := h
  refine wp_invV (pc := 1190) (N := M_X11_hopeless) (As := [vi _]) (rest := []) (r := (cn_11, ct_11, 12)) d_L_law_1190 ml_L_126 mk_X11_hopeless mv_X11_hopeless h0 ho8 rfl rfl (Nat.le_of_ble_eq_true rfl) ?_
  refine wpM.mono h (fun rr G3 hr => ?_)
  obtain ⟨r2, rfl, h⟩ := hr
  show wp E d M_L_law 1193 [some (vs (eS E).1), some (vr _), some (vr _), some (vi _)] [vi _] G3 Q
  refine wp_aload_n (pc := 1193) d_L_law_1193 rfl ?_
  refine wp_aload_nS (pc := 1194) d_L_law_1194 rfl ?_
  refine wp_iload_n (pc := 1195) d_L_law_1195 rfl ?_
  refine wp_iconst (pc := 1196) (v := 1) d_L_law_1196 rfl ?_
  refine wp_iadd (pc := 1197) d_L_law_1197 ?_
  obtain ⟨hi4, h⟩ := h
  refine wp_sld (pc := 1198) d_L_law_1198 hi4 ?_
  obtain ⟨ho7, h⟩ := h
  refine wp_invV (pc := 1199) (N := M_X12_hopeless) (As := [vi _]) (rest := [vi _]) (r := (cn_12, ct_12, 95)) d_L_law_1199 ml_L_129 mk_X12_hopeless mv_X12_hopeless h0 ho7 rfl rfl (Nat.le_of_ble_eq_true rfl) ?_
  refine wpM.mono h (fun rr G6 hr => ?_)
  obtain ⟨r5, rfl, h⟩ := hr
  show wp E d M_L_law 1202 [some (vs (eS E).1), some (vr _), some (vr _), some (vi _)] [vi _, vi _] G6 Q
  refine wp_icmp_eq (pc := 1202) (tgt := 2374) d_L_law_1202 (by decide) (fun hc => ?_) (fun hc => ?_)
  · have h := h.1 hc
    refine wp_sub ?_ h
    exact ⟨rfl, ⟨rfl, ⟨rfl, ⟨rfl, trivial⟩⟩⟩⟩
  · have h := h.2 hc
    refine wp_iconst (pc := 1205) (v := 0) d_L_law_1205 rfl ?_
    exact wp_zret (pc := 1206) d_L_law_1206 rfl rfl h
theorem v_L_law_1207 {E : EE} {d : Nat} {Q : Option AV → AH → Prop} {x1 : Nat} {x2 : Nat} {x3 : Int32} {G : AH} (h0 : 0 < d) (h : vp_in (x3 + 1) (eS E).2.1 ∧ (isO E G x1 11 ∧ (wpI E (d - 1) M_X11_solve [vr x1, vi ((eS E).2.2 (Int32.toNatClampNeg (x3 + 1)))] G (fun r2 G3 => vp_in (x3 + 1) (eS E).2.1 ∧ (isO E G3 x2 12 ∧ (wpI E (d - 1) M_X12_solve [vr x2, vi ((eS E).2.2 (Int32.toNatClampNeg (x3 + 1)))] G3 (fun r5 G6 => (r2 = r5 → wp E d M_L_law 2374 [some (vs (eS E).1), some (vr x1), some (vr x2), some (vi x3)] [] G6 Q) ∧ (¬ (r2 = r5) → Q (some (vi 0)) G6)))))))) : wp E d M_L_law 1207 [some (vs (eS E).1), some (vr x1), some (vr x2), some (vi x3)] [] G Q := by
  refine wp_aload_n (pc := 1207) d_L_law_1207 rfl ?_
  refine wp_aload_nS (pc := 1208) d_L_law_1208 rfl ?_
  refine wp_iload_n (pc := 1209) d_L_law_1209 rfl ?_
  refine wp_iconst (pc := 1210) (v := 1) d_L_law_1210 rfl ?_
  refine wp_iadd (pc := 1211) d_L_law_1211 ?_
  obtain ⟨hi1, h⟩ := h
  refine wp_sld (pc := 1212) d_L_law_1212 hi1 ?_
  obtain ⟨ho8, h⟩ := h
  refine wp_invV (pc := 1213) (N := M_X11_solve) (As := [vi _]) (rest := []) (r := (cn_11, ct_11, 12)) d_L_law_1213 ml_L_130 mk_X11_solve mv_X11_solve h0 ho8 rfl rfl (Nat.le_of_ble_eq_true rfl) ?_
  refine wpM.mono h (fun rr G3 hr => ?_)
  obtain ⟨r2, rfl, h⟩ := hr
  show wp E d M_L_law 1216 [some (vs (eS E).1), some (vr _), some (vr _), some (vi _)] [vi _] G3 Q
  refine wp_aload_n (pc := 1216) d_L_law_1216 rfl ?_
  refine wp_aload_nS (pc := 1217) d_L_law_1217 rfl ?_
  refine wp_iload_n (pc := 1218) d_L_law_1218 rfl ?_
  refine wp_iconst (pc := 1219) (v := 1) d_L_law_1219 rfl ?_
  refine wp_iadd (pc := 1220) d_L_law_1220 ?_
  obtain ⟨hi4, h⟩ := h
  refine wp_sld (pc := 1221) d_L_law_1221 hi4 ?_
  obtain ⟨ho7, h⟩ := h
  refine wp_invV (pc := 1222) (N := M_X12_solve) (As := [vi _]) (rest := [vi _]) (r := (cn_12, ct_12, 95)) d_L_law_1222 ml_L_133 mk_X12_solve mv_X12_solve h0 ho7 rfl rfl (Nat.le_of_ble_eq_true rfl) ?_
  refine wpM.mono h (fun rr G6 hr => ?_)
  obtain ⟨r5, rfl, h⟩ := hr
  show wp E d M_L_law 1225 [some (vs (eS E).1), some (vr _), some (vr _), some (vi _)] [vi _, vi _] G6 Q
  refine wp_icmp_eq (pc := 1225) (tgt := 2374) d_L_law_1225 (by decide) (fun hc => ?_) (fun hc => ?_)
  · have h := h.1 hc
    refine wp_sub ?_ h
    exact ⟨rfl, ⟨rfl, ⟨rfl, ⟨rfl, trivial⟩⟩⟩⟩
  · have h := h.2 hc
    refine wp_iconst (pc := 1228) (v := 0) d_L_law_1228 rfl ?_
    exact wp_zret (pc := 1229) d_L_law_1229 rfl rfl h
theorem v_L_law_1230 {E : EE} {d : Nat} {Q : Option AV → AH → Prop} {x1 : Nat} {x2 : Nat} {x3 : Int32} {G : AH} (h0 : 0 < d) (h : vp_in (x3 + 1) (eS E).2.1 ∧ (vp_in (x3 + 2) (eS E).2.1 ∧ (isO E G x1 11 ∧ (wpJ E (d - 1) M_X11_best [vr x1, vi ((eS E).2.2 (Int32.toNatClampNeg (x3 + 1))), vi ((eS E).2.2 (Int32.toNatClampNeg (x3 + 2)))] G (fun r3 G4 => vp_in (x3 + 1) (eS E).2.1 ∧ (vp_in (x3 + 2) (eS E).2.1 ∧ (isO E G4 x2 12 ∧ (wpJ E (d - 1) M_X12_best [vr x2, vi ((eS E).2.2 (Int32.toNatClampNeg (x3 + 1))), vi ((eS E).2.2 (Int32.toNatClampNeg (x3 + 2)))] G4 (fun r7 G8 => (r3 = r7 → wp E d M_L_law 2374 [some (vs (eS E).1), some (vr x1), some (vr x2), some (vi x3)] [] G8 Q) ∧ (¬ (r3 = r7) → Q (some (vi 0)) G8)))))))))) : wp E d M_L_law 1230 [some (vs (eS E).1), some (vr x1), some (vr x2), some (vi x3)] [] G Q := by
  refine wp_aload_n (pc := 1230) d_L_law_1230 rfl ?_
  refine wp_aload_nS (pc := 1231) d_L_law_1231 rfl ?_
  refine wp_iload_n (pc := 1232) d_L_law_1232 rfl ?_
  refine wp_iconst (pc := 1233) (v := 1) d_L_law_1233 rfl ?_
  refine wp_iadd (pc := 1234) d_L_law_1234 ?_
  obtain ⟨hi1, h⟩ := h
  refine wp_sld (pc := 1235) d_L_law_1235 hi1 ?_
  refine wp_aload_nS (pc := 1236) d_L_law_1236 rfl ?_
  refine wp_iload_n (pc := 1237) d_L_law_1237 rfl ?_
  refine wp_iconst (pc := 1238) (v := 2) d_L_law_1238 rfl ?_
  refine wp_iadd (pc := 1239) d_L_law_1239 ?_
  obtain ⟨hi2, h⟩ := h
  refine wp_sld (pc := 1240) d_L_law_1240 hi2 ?_
  obtain ⟨ho10, h⟩ := h
  refine wp_invV (pc := 1241) (N := M_X11_best) (As := [vi _, vi _]) (rest := []) (r := (cn_11, ct_11, 12)) d_L_law_1241 ml_L_134 mk_X11_best mv_X11_best h0 ho10 rfl rfl (Nat.le_of_ble_eq_true rfl) ?_
  refine wpM.mono h (fun rr G4 hr => ?_)
  obtain ⟨r3, rfl, h⟩ := hr
  show wp E d M_L_law 1244 [some (vs (eS E).1), some (vr _), some (vr _), some (vi _)] [vj _] G4 Q
  refine wp_aload_n (pc := 1244) d_L_law_1244 rfl ?_
  refine wp_aload_nS (pc := 1245) d_L_law_1245 rfl ?_
  refine wp_iload_n (pc := 1246) d_L_law_1246 rfl ?_
  refine wp_iconst (pc := 1247) (v := 1) d_L_law_1247 rfl ?_
  refine wp_iadd (pc := 1248) d_L_law_1248 ?_
  obtain ⟨hi5, h⟩ := h
  refine wp_sld (pc := 1249) d_L_law_1249 hi5 ?_
  refine wp_aload_nS (pc := 1250) d_L_law_1250 rfl ?_
  refine wp_iload_n (pc := 1251) d_L_law_1251 rfl ?_
  refine wp_iconst (pc := 1252) (v := 2) d_L_law_1252 rfl ?_
  refine wp_iadd (pc := 1253) d_L_law_1253 ?_
  obtain ⟨hi6, h⟩ := h
  refine wp_sld (pc := 1254) d_L_law_1254 hi6 ?_
  obtain ⟨ho9, h⟩ := h
  refine wp_invV (pc := 1255) (N := M_X12_best) (As := [vi _, vi _]) (rest := [vj _]) (r := (cn_12, ct_12, 95)) d_L_law_1255 ml_L_137 mk_X12_best mv_X12_best h0 ho9 rfl rfl (Nat.le_of_ble_eq_true rfl) ?_
  refine wpM.mono h (fun rr G8 hr => ?_)
  obtain ⟨r7, rfl, h⟩ := hr
  show wp E d M_L_law 1258 [some (vs (eS E).1), some (vr _), some (vr _), some (vi _)] [vj _, vj _] G8 Q
  refine wp_lcmp_eq (pc := 1258) (tgt := 2374) d_L_law_1258 d_L_law_1259 (by decide) (fun hc => ?_) (fun hc => ?_)
  · have h := h.1 hc
    refine wp_sub ?_ h
    exact ⟨rfl, ⟨rfl, ⟨rfl, ⟨rfl, trivial⟩⟩⟩⟩
  · have h := h.2 hc
    refine wp_iconst (pc := 1262) (v := 0) d_L_law_1262 rfl ?_
    exact wp_zret (pc := 1263) d_L_law_1263 rfl rfl h
theorem v_L_law_1264 {E : EE} {d : Nat} {Q : Option AV → AH → Prop} {x1 : Nat} {x2 : Nat} {x3 : Int32} {G : AH} (h0 : 0 < d) (h : vp_in (x3 + 1) (eS E).2.1 ∧ (isO E G x1 11 ∧ (wpI E (d - 1) M_X11_bests [vr x1, vi ((eS E).2.2 (Int32.toNatClampNeg (x3 + 1)))] G (fun r2 G3 => vp_in (x3 + 1) (eS E).2.1 ∧ (isO E G3 x2 12 ∧ (wpI E (d - 1) M_X12_bests [vr x2, vi ((eS E).2.2 (Int32.toNatClampNeg (x3 + 1)))] G3 (fun r5 G6 => (r2 = r5 → wp E d M_L_law 2374 [some (vs (eS E).1), some (vr x1), some (vr x2), some (vi x3)] [] G6 Q) ∧ (¬ (r2 = r5) → Q (some (vi 0)) G6)))))))) : wp E d M_L_law 1264 [some (vs (eS E).1), some (vr x1), some (vr x2), some (vi x3)] [] G Q := by
  refine wp_aload_n (pc := 1264) d_L_law_1264 rfl ?_
  refine wp_aload_nS (pc := 1265) d_L_law_1265 rfl ?_
  refine wp_iload_n (pc := 1266) d_L_law_1266 rfl ?_
  refine wp_iconst (pc := 1267) (v := 1) d_L_law_1267 rfl ?_
  refine wp_iadd (pc := 1268) d_L_law_1268 ?_
  obtain ⟨hi1, h⟩ := h
  refine wp_sld (pc := 1269) d_L_law_1269 hi1 ?_
  obtain ⟨ho8, h⟩ := h
  refine wp_invV (pc := 1270) (N := M_X11_bests) (As := [vi _]) (rest := []) (r := (cn_11, ct_11, 12)) d_L_law_1270 ml_L_138 mk_X11_bests mv_X11_bests h0 ho8 rfl rfl (Nat.le_of_ble_eq_true rfl) ?_
  refine wpM.mono h (fun rr G3 hr => ?_)
  obtain ⟨r2, rfl, h⟩ := hr
  show wp E d M_L_law 1273 [some (vs (eS E).1), some (vr _), some (vr _), some (vi _)] [vi _] G3 Q
  refine wp_aload_n (pc := 1273) d_L_law_1273 rfl ?_
  refine wp_aload_nS (pc := 1274) d_L_law_1274 rfl ?_
  refine wp_iload_n (pc := 1275) d_L_law_1275 rfl ?_
  refine wp_iconst (pc := 1276) (v := 1) d_L_law_1276 rfl ?_
  refine wp_iadd (pc := 1277) d_L_law_1277 ?_
  obtain ⟨hi4, h⟩ := h
  refine wp_sld (pc := 1278) d_L_law_1278 hi4 ?_
  obtain ⟨ho7, h⟩ := h
  refine wp_invV (pc := 1279) (N := M_X12_bests) (As := [vi _]) (rest := [vi _]) (r := (cn_12, ct_12, 95)) d_L_law_1279 ml_L_141 mk_X12_bests mv_X12_bests h0 ho7 rfl rfl (Nat.le_of_ble_eq_true rfl) ?_
  refine wpM.mono h (fun rr G6 hr => ?_)
  obtain ⟨r5, rfl, h⟩ := hr
  show wp E d M_L_law 1282 [some (vs (eS E).1), some (vr _), some (vr _), some (vi _)] [vi _, vi _] G6 Q
  refine wp_icmp_eq (pc := 1282) (tgt := 2374) d_L_law_1282 (by decide) (fun hc => ?_) (fun hc => ?_)
  · have h := h.1 hc
    refine wp_sub ?_ h
    exact ⟨rfl, ⟨rfl, ⟨rfl, ⟨rfl, trivial⟩⟩⟩⟩
  · have h := h.2 hc
    refine wp_iconst (pc := 1285) (v := 0) d_L_law_1285 rfl ?_
    exact wp_zret (pc := 1286) d_L_law_1286 rfl rfl h
theorem v_L_law_1287 {E : EE} {d : Nat} {Q : Option AV → AH → Prop} {x1 : Nat} {x2 : Nat} {x3 : Int32} {G : AH} (h0 : 0 < d) (h : vp_in (x3 + 1) (eS E).2.1 ∧ (vp_in (x3 + 2) (eS E).2.1 ∧ (isO E G x1 11 ∧ (wpI E (d - 1) M_X11_bestAt [vr x1, vi ((eS E).2.2 (Int32.toNatClampNeg (x3 + 1))), vi ((eS E).2.2 (Int32.toNatClampNeg (x3 + 2)))] G (fun r3 G4 => vp_in (x3 + 1) (eS E).2.1 ∧ (vp_in (x3 + 2) (eS E).2.1 ∧ (isO E G4 x2 12 ∧ (wpI E (d - 1) M_X12_bestAt [vr x2, vi ((eS E).2.2 (Int32.toNatClampNeg (x3 + 1))), vi ((eS E).2.2 (Int32.toNatClampNeg (x3 + 2)))] G4 (fun r7 G8 => (r3 = r7 → wp E d M_L_law 2374 [some (vs (eS E).1), some (vr x1), some (vr x2), some (vi x3)] [] G8 Q) ∧ (¬ (r3 = r7) → Q (some (vi 0)) G8)))))))))) : wp E d M_L_law 1287 [some (vs (eS E).1), some (vr x1), some (vr x2), some (vi x3)] [] G Q := by
  refine wp_aload_n (pc := 1287) d_L_law_1287 rfl ?_
  refine wp_aload_nS (pc := 1288) d_L_law_1288 rfl ?_
  refine wp_iload_n (pc := 1289) d_L_law_1289 rfl ?_
  refine wp_iconst (pc := 1290) (v := 1) d_L_law_1290 rfl ?_
  refine wp_iadd (pc := 1291) d_L_law_1291 ?_
  obtain ⟨hi1, h⟩ := h
  refine wp_sld (pc := 1292) d_L_law_1292 hi1 ?_
  refine wp_aload_nS (pc := 1293) d_L_law_1293 rfl ?_
  refine wp_iload_n (pc := 1294) d_L_law_1294 rfl ?_
  refine wp_iconst (pc := 1295) (v := 2) d_L_law_1295 rfl ?_
  refine wp_iadd (pc := 1296) d_L_law_1296 ?_
  obtain ⟨hi2, h⟩ := h
  refine wp_sld (pc := 1297) d_L_law_1297 hi2 ?_
  obtain ⟨ho10, h⟩ := h
  refine wp_invV (pc := 1298) (N := M_X11_bestAt) (As := [vi _, vi _]) (rest := []) (r := (cn_11, ct_11, 12)) d_L_law_1298 ml_L_142 mk_X11_bestAt mv_X11_bestAt h0 ho10 rfl rfl (Nat.le_of_ble_eq_true rfl) ?_
  refine wpM.mono h (fun rr G4 hr => ?_)
  obtain ⟨r3, rfl, h⟩ := hr
  show wp E d M_L_law 1301 [some (vs (eS E).1), some (vr _), some (vr _), some (vi _)] [vi _] G4 Q
  refine wp_aload_n (pc := 1301) d_L_law_1301 rfl ?_
  refine wp_aload_nS (pc := 1302) d_L_law_1302 rfl ?_
  refine wp_iload_n (pc := 1303) d_L_law_1303 rfl ?_
  refine wp_iconst (pc := 1304) (v := 1) d_L_law_1304 rfl ?_
  refine wp_iadd (pc := 1305) d_L_law_1305 ?_
  obtain ⟨hi5, h⟩ := h
  refine wp_sld (pc := 1306) d_L_law_1306 hi5 ?_
  refine wp_aload_nS (pc := 1307) d_L_law_1307 rfl ?_
  refine wp_iload_n (pc := 1308) d_L_law_1308 rfl ?_
  refine wp_iconst (pc := 1309) (v := 2) d_L_law_1309 rfl ?_
  refine wp_iadd (pc := 1310) d_L_law_1310 ?_
  obtain ⟨hi6, h⟩ := h
  refine wp_sld (pc := 1311) d_L_law_1311 hi6 ?_
  obtain ⟨ho9, h⟩ := h
  refine wp_invV (pc := 1312) (N := M_X12_bestAt) (As := [vi _, vi _]) (rest := [vi _]) (r := (cn_12, ct_12, 95)) d_L_law_1312 ml_L_146 mk_X12_bestAt mv_X12_bestAt h0 ho9 rfl rfl (Nat.le_of_ble_eq_true rfl) ?_
  refine wpM.mono h (fun rr G8 hr => ?_)
  obtain ⟨r7, rfl, h⟩ := hr
  show wp E d M_L_law 1315 [some (vs (eS E).1), some (vr _), some (vr _), some (vi _)] [vi _, vi _] G8 Q
  refine wp_icmp_eq (pc := 1315) (tgt := 2374) d_L_law_1315 (by decide) (fun hc => ?_) (fun hc => ?_)
  · have h := h.1 hc
    refine wp_sub ?_ h
    exact ⟨rfl, ⟨rfl, ⟨rfl, ⟨rfl, trivial⟩⟩⟩⟩
  · have h := h.2 hc
    refine wp_iconst (pc := 1318) (v := 0) d_L_law_1318 rfl ?_
    exact wp_zret (pc := 1319) d_L_law_1319 rfl rfl h
theorem v_L_law_1320 {E : EE} {d : Nat} {Q : Option AV → AH → Prop} {x1 : Nat} {x2 : Nat} {x3 : Int32} {G : AH} (h0 : 0 < d) (h : vp_in (x3 + 1) (eS E).2.1 ∧ (isO E G x1 11 ∧ (wpI E (d - 1) M_X11_feasibles [vr x1, vi ((eS E).2.2 (Int32.toNatClampNeg (x3 + 1)))] G (fun r2 G3 => vp_in (x3 + 1) (eS E).2.1 ∧ (isO E G3 x2 12 ∧ (wpI E (d - 1) M_X12_feasibles [vr x2, vi ((eS E).2.2 (Int32.toNatClampNeg (x3 + 1)))] G3 (fun r5 G6 => (r2 = r5 → wp E d M_L_law 2374 [some (vs (eS E).1), some (vr x1), some (vr x2), some (vi x3)] [] G6 Q) ∧ (¬ (r2 = r5) → Q (some (vi 0)) G6)))))))) : wp E d M_L_law 1320 [some (vs (eS E).1), some (vr x1), some (vr x2), some (vi x3)] [] G Q := by
  refine wp_aload_n (pc := 1320) d_L_law_1320 rfl ?_
  refine wp_aload_nS (pc := 1321) d_L_law_1321 rfl ?_
  refine wp_iload_n (pc := 1322) d_L_law_1322 rfl ?_
  refine wp_iconst (pc := 1323) (v := 1) d_L_law_1323 rfl ?_
  refine wp_iadd (pc := 1324) d_L_law_1324 ?_
  obtain ⟨hi1, h⟩ := h
  refine wp_sld (pc := 1325) d_L_law_1325 hi1 ?_
  obtain ⟨ho8, h⟩ := h
  refine wp_invV (pc := 1326) (N := M_X11_feasibles) (As := [vi _]) (rest := []) (r := (cn_11, ct_11, 12)) d_L_law_1326 ml_L_147 mk_X11_feasibles mv_X11_feasibles h0 ho8 rfl rfl (Nat.le_of_ble_eq_true rfl) ?_
  refine wpM.mono h (fun rr G3 hr => ?_)
  obtain ⟨r2, rfl, h⟩ := hr
  show wp E d M_L_law 1329 [some (vs (eS E).1), some (vr _), some (vr _), some (vi _)] [vi _] G3 Q
  refine wp_aload_n (pc := 1329) d_L_law_1329 rfl ?_
  refine wp_aload_nS (pc := 1330) d_L_law_1330 rfl ?_
  refine wp_iload_n (pc := 1331) d_L_law_1331 rfl ?_
  refine wp_iconst (pc := 1332) (v := 1) d_L_law_1332 rfl ?_
  refine wp_iadd (pc := 1333) d_L_law_1333 ?_
  obtain ⟨hi4, h⟩ := h
  refine wp_sld (pc := 1334) d_L_law_1334 hi4 ?_
  obtain ⟨ho7, h⟩ := h
  refine wp_invV (pc := 1335) (N := M_X12_feasibles) (As := [vi _]) (rest := [vi _]) (r := (cn_12, ct_12, 95)) d_L_law_1335 ml_L_150 mk_X12_feasibles mv_X12_feasibles h0 ho7 rfl rfl (Nat.le_of_ble_eq_true rfl) ?_
  refine wpM.mono h (fun rr G6 hr => ?_)
  obtain ⟨r5, rfl, h⟩ := hr
  show wp E d M_L_law 1338 [some (vs (eS E).1), some (vr _), some (vr _), some (vi _)] [vi _, vi _] G6 Q
  refine wp_icmp_eq (pc := 1338) (tgt := 2374) d_L_law_1338 (by decide) (fun hc => ?_) (fun hc => ?_)
  · have h := h.1 hc
    refine wp_sub ?_ h
    exact ⟨rfl, ⟨rfl, ⟨rfl, ⟨rfl, trivial⟩⟩⟩⟩
  · have h := h.2 hc
    refine wp_iconst (pc := 1341) (v := 0) d_L_law_1341 rfl ?_
    exact wp_zret (pc := 1342) d_L_law_1342 rfl rfl h
theorem v_L_law_1343 {E : EE} {d : Nat} {Q : Option AV → AH → Prop} {x1 : Nat} {x2 : Nat} {x3 : Int32} {G : AH} (h0 : 0 < d) (h : vp_in (x3 + 1) (eS E).2.1 ∧ (vp_in (x3 + 2) (eS E).2.1 ∧ (isO E G x1 11 ∧ (wpI E (d - 1) M_X11_feasibleAt [vr x1, vi ((eS E).2.2 (Int32.toNatClampNeg (x3 + 1))), vi ((eS E).2.2 (Int32.toNatClampNeg (x3 + 2)))] G (fun r3 G4 => vp_in (x3 + 1) (eS E).2.1 ∧ (vp_in (x3 + 2) (eS E).2.1 ∧ (isO E G4 x2 12 ∧ (wpI E (d - 1) M_X12_feasibleAt [vr x2, vi ((eS E).2.2 (Int32.toNatClampNeg (x3 + 1))), vi ((eS E).2.2 (Int32.toNatClampNeg (x3 + 2)))] G4 (fun r7 G8 => (r3 = r7 → wp E d M_L_law 2374 [some (vs (eS E).1), some (vr x1), some (vr x2), some (vi x3)] [] G8 Q) ∧ (¬ (r3 = r7) → Q (some (vi 0)) G8)))))))))) : wp E d M_L_law 1343 [some (vs (eS E).1), some (vr x1), some (vr x2), some (vi x3)] [] G Q := by
  refine wp_aload_n (pc := 1343) d_L_law_1343 rfl ?_
  refine wp_aload_nS (pc := 1344) d_L_law_1344 rfl ?_
  refine wp_iload_n (pc := 1345) d_L_law_1345 rfl ?_
  refine wp_iconst (pc := 1346) (v := 1) d_L_law_1346 rfl ?_
  refine wp_iadd (pc := 1347) d_L_law_1347 ?_
  obtain ⟨hi1, h⟩ := h
  refine wp_sld (pc := 1348) d_L_law_1348 hi1 ?_
  refine wp_aload_nS (pc := 1349) d_L_law_1349 rfl ?_
  refine wp_iload_n (pc := 1350) d_L_law_1350 rfl ?_
  refine wp_iconst (pc := 1351) (v := 2) d_L_law_1351 rfl ?_
  refine wp_iadd (pc := 1352) d_L_law_1352 ?_
  obtain ⟨hi2, h⟩ := h
  refine wp_sld (pc := 1353) d_L_law_1353 hi2 ?_
  obtain ⟨ho10, h⟩ := h
  refine wp_invV (pc := 1354) (N := M_X11_feasibleAt) (As := [vi _, vi _]) (rest := []) (r := (cn_11, ct_11, 12)) d_L_law_1354 ml_L_151 mk_X11_feasibleAt mv_X11_feasibleAt h0 ho10 rfl rfl (Nat.le_of_ble_eq_true rfl) ?_
  refine wpM.mono h (fun rr G4 hr => ?_)
  obtain ⟨r3, rfl, h⟩ := hr
  show wp E d M_L_law 1357 [some (vs (eS E).1), some (vr _), some (vr _), some (vi _)] [vi _] G4 Q
  refine wp_aload_n (pc := 1357) d_L_law_1357 rfl ?_
  refine wp_aload_nS (pc := 1358) d_L_law_1358 rfl ?_
  refine wp_iload_n (pc := 1359) d_L_law_1359 rfl ?_
  refine wp_iconst (pc := 1360) (v := 1) d_L_law_1360 rfl ?_
  refine wp_iadd (pc := 1361) d_L_law_1361 ?_
  obtain ⟨hi5, h⟩ := h
  refine wp_sld (pc := 1362) d_L_law_1362 hi5 ?_
  refine wp_aload_nS (pc := 1363) d_L_law_1363 rfl ?_
  refine wp_iload_n (pc := 1364) d_L_law_1364 rfl ?_
  refine wp_iconst (pc := 1365) (v := 2) d_L_law_1365 rfl ?_
  refine wp_iadd (pc := 1366) d_L_law_1366 ?_
  obtain ⟨hi6, h⟩ := h
  refine wp_sld (pc := 1367) d_L_law_1367 hi6 ?_
  obtain ⟨ho9, h⟩ := h
  refine wp_invV (pc := 1368) (N := M_X12_feasibleAt) (As := [vi _, vi _]) (rest := [vi _]) (r := (cn_12, ct_12, 95)) d_L_law_1368 ml_L_154 mk_X12_feasibleAt mv_X12_feasibleAt h0 ho9 rfl rfl (Nat.le_of_ble_eq_true rfl) ?_
  refine wpM.mono h (fun rr G8 hr => ?_)
  obtain ⟨r7, rfl, h⟩ := hr
  show wp E d M_L_law 1371 [some (vs (eS E).1), some (vr _), some (vr _), some (vi _)] [vi _, vi _] G8 Q
  refine wp_icmp_eq (pc := 1371) (tgt := 2374) d_L_law_1371 (by decide) (fun hc => ?_) (fun hc => ?_)
  · have h := h.1 hc
    refine wp_sub ?_ h
    exact ⟨rfl, ⟨rfl, ⟨rfl, ⟨rfl, trivial⟩⟩⟩⟩
  · have h := h.2 hc
    refine wp_iconst (pc := 1374) (v := 0) d_L_law_1374 rfl ?_
    exact wp_zret (pc := 1375) d_L_law_1375 rfl rfl h
theorem v_L_law_1376 {E : EE} {d : Nat} {Q : Option AV → AH → Prop} {x1 : Nat} {x2 : Nat} {x3 : Int32} {G : AH} (h : vp_in (x3 + 1) (eS E).2.1 ∧ (vp_in (x3 + 2) (eS E).2.1 ∧ (vp_in (x3 + 3) (eS E).2.1 ∧ (vp_in (x3 + 4) (eS E).2.1 ∧ ((((eS E).2.2 (Int32.toNatClampNeg (x3 + 4))) = 0 → wp E d M_L_law 1405 [some (vs (eS E).1), some (vr x1), some (vr x2), some (vi x3)] [vi 0, vi ((eS E).2.2 (Int32.toNatClampNeg (x3 + 3))), vi ((eS E).2.2 (Int32.toNatClampNeg (x3 + 2))), vi ((eS E).2.2 (Int32.toNatClampNeg (x3 + 1))), vr x1] G Q) ∧ (¬ (((eS E).2.2 (Int32.toNatClampNeg (x3 + 4))) = 0) → wp E d M_L_law 1405 [some (vs (eS E).1), some (vr x1), some (vr x2), some (vi x3)] [vi 1, vi ((eS E).2.2 (Int32.toNatClampNeg (x3 + 3))), vi ((eS E).2.2 (Int32.toNatClampNeg (x3 + 2))), vi ((eS E).2.2 (Int32.toNatClampNeg (x3 + 1))), vr x1] G Q)))))) : wp E d M_L_law 1376 [some (vs (eS E).1), some (vr x1), some (vr x2), some (vi x3)] [] G Q := by
  refine wp_aload_n (pc := 1376) d_L_law_1376 rfl ?_
  refine wp_aload_nS (pc := 1377) d_L_law_1377 rfl ?_
  refine wp_iload_n (pc := 1378) d_L_law_1378 rfl ?_
  refine wp_iconst (pc := 1379) (v := 1) d_L_law_1379 rfl ?_
  refine wp_iadd (pc := 1380) d_L_law_1380 ?_
  obtain ⟨hi1, h⟩ := h
  refine wp_sld (pc := 1381) d_L_law_1381 hi1 ?_
  refine wp_aload_nS (pc := 1382) d_L_law_1382 rfl ?_
  refine wp_iload_n (pc := 1383) d_L_law_1383 rfl ?_
  refine wp_iconst (pc := 1384) (v := 2) d_L_law_1384 rfl ?_
  refine wp_iadd (pc := 1385) d_L_law_1385 ?_
  obtain ⟨hi2, h⟩ := h
  refine wp_sld (pc := 1386) d_L_law_1386 hi2 ?_
  refine wp_aload_nS (pc := 1387) d_L_law_1387 rfl ?_
  refine wp_iload_n (pc := 1388) d_L_law_1388 rfl ?_
  refine wp_iconst (pc := 1389) (v := 3) d_L_law_1389 rfl ?_
  refine wp_iadd (pc := 1390) d_L_law_1390 ?_
  obtain ⟨hi3, h⟩ := h
  refine wp_sld (pc := 1391) d_L_law_1391 hi3 ?_
  refine wp_aload_nS (pc := 1392) d_L_law_1392 rfl ?_
  refine wp_iload_n (pc := 1393) d_L_law_1393 rfl ?_
  refine wp_iconst (pc := 1394) (v := 4) d_L_law_1394 rfl ?_
  refine wp_iadd (pc := 1395) d_L_law_1395 ?_
  obtain ⟨hi4, h⟩ := h
  refine wp_sld (pc := 1396) d_L_law_1396 hi4 ?_
  refine wp_if_eq (pc := 1397) (tgt := 1404) d_L_law_1397 (by decide) (fun hc => ?_) (fun hc => ?_)
  · have h := h.1 hc
    refine wp_iconst (pc := 1404) (v := 0) d_L_law_1404 rfl ?_
    refine wp_sub ?_ h
    exact ⟨rfl, ⟨rfl, ⟨rfl, ⟨rfl, trivial⟩⟩⟩⟩
  · have h := h.2 hc
    refine wp_iconst (pc := 1400) (v := 1) d_L_law_1400 rfl ?_
    refine wp_goto (pc := 1401) (tgt := 1405) d_L_law_1401 (by decide) ?_
    refine wp_sub ?_ h
    exact ⟨rfl, ⟨rfl, ⟨rfl, ⟨rfl, trivial⟩⟩⟩⟩
theorem v_L_law_1405 {E : EE} {d : Nat} {Q : Option AV → AH → Prop} {x1 : Nat} {x2 : Nat} {x3 : Int32} {t0 : Nat} {t1 : Int32} {t2 : Int32} {t3 : Int32} {t4 : Int32} {G : AH} (h0 : 0 < d) (h : isO E G t0 11 ∧ (wpI E (d - 1) M_X11_has [vr t0, vi t1, vi t2, vi t3, vi t4] G (fun r1 G2 => vp_in (x3 + 1) (eS E).2.1 ∧ (vp_in (x3 + 2) (eS E).2.1 ∧ (vp_in (x3 + 3) (eS E).2.1 ∧ (vp_in (x3 + 4) (eS E).2.1 ∧ ((((eS E).2.2 (Int32.toNatClampNeg (x3 + 4))) = 0 → wp E d M_L_law 1437 [some (vs (eS E).1), some (vr x1), some (vr x2), some (vi x3)] [vi 0, vi ((eS E).2.2 (Int32.toNatClampNeg (x3 + 3))), vi ((eS E).2.2 (Int32.toNatClampNeg (x3 + 2))), vi ((eS E).2.2 (Int32.toNatClampNeg (x3 + 1))), vr x2, vi r1] G2 Q) ∧ (¬ (((eS E).2.2 (Int32.toNatClampNeg (x3 + 4))) = 0) → wp E d M_L_law 1437 [some (vs (eS E).1), some (vr x1), some (vr x2), some (vi x3)] [vi 1, vi ((eS E).2.2 (Int32.toNatClampNeg (x3 + 3))), vi ((eS E).2.2 (Int32.toNatClampNeg (x3 + 2))), vi ((eS E).2.2 (Int32.toNatClampNeg (x3 + 1))), vr x2, vi r1] G2 Q)))))))) : wp E d M_L_law 1405 [some (vs (eS E).1), some (vr x1), some (vr x2), some (vi x3)] [vi t4, vi t3, vi t2, vi t1, vr t0] G Q := by
  obtain ⟨ho7, h⟩ := h
  refine wp_invV (pc := 1405) (N := M_X11_has) (As := [vi _, vi _, vi _, vi _]) (rest := []) (r := (cn_11, ct_11, 12)) d_L_law_1405 ml_L_155 mk_X11_has mv_X11_has h0 ho7 rfl rfl (Nat.le_of_ble_eq_true rfl) ?_
  refine wpM.mono h (fun rr G2 hr => ?_)
  obtain ⟨r1, rfl, h⟩ := hr
  show wp E d M_L_law 1408 [some (vs (eS E).1), some (vr _), some (vr _), some (vi _)] [vi _] G2 Q
  refine wp_aload_n (pc := 1408) d_L_law_1408 rfl ?_
  refine wp_aload_nS (pc := 1409) d_L_law_1409 rfl ?_
  refine wp_iload_n (pc := 1410) d_L_law_1410 rfl ?_
  refine wp_iconst (pc := 1411) (v := 1) d_L_law_1411 rfl ?_
  refine wp_iadd (pc := 1412) d_L_law_1412 ?_
  obtain ⟨hi3, h⟩ := h
  refine wp_sld (pc := 1413) d_L_law_1413 hi3 ?_
  refine wp_aload_nS (pc := 1414) d_L_law_1414 rfl ?_
  refine wp_iload_n (pc := 1415) d_L_law_1415 rfl ?_
  refine wp_iconst (pc := 1416) (v := 2) d_L_law_1416 rfl ?_
  refine wp_iadd (pc := 1417) d_L_law_1417 ?_
  obtain ⟨hi4, h⟩ := h
  refine wp_sld (pc := 1418) d_L_law_1418 hi4 ?_
  refine wp_aload_nS (pc := 1419) d_L_law_1419 rfl ?_
  refine wp_iload_n (pc := 1420) d_L_law_1420 rfl ?_
  refine wp_iconst (pc := 1421) (v := 3) d_L_law_1421 rfl ?_
  refine wp_iadd (pc := 1422) d_L_law_1422 ?_
  obtain ⟨hi5, h⟩ := h
  refine wp_sld (pc := 1423) d_L_law_1423 hi5 ?_
  refine wp_aload_nS (pc := 1424) d_L_law_1424 rfl ?_
  refine wp_iload_n (pc := 1425) d_L_law_1425 rfl ?_
  refine wp_iconst (pc := 1426) (v := 4) d_L_law_1426 rfl ?_
  refine wp_iadd (pc := 1427) d_L_law_1427 ?_
  obtain ⟨hi6, h⟩ := h
  refine wp_sld (pc := 1428) d_L_law_1428 hi6 ?_
  refine wp_if_eq (pc := 1429) (tgt := 1436) d_L_law_1429 (by decide) (fun hc => ?_) (fun hc => ?_)
  · have h := h.1 hc
    refine wp_iconst (pc := 1436) (v := 0) d_L_law_1436 rfl ?_
    refine wp_sub ?_ h
    exact ⟨rfl, ⟨rfl, ⟨rfl, ⟨rfl, trivial⟩⟩⟩⟩
  · have h := h.2 hc
    refine wp_iconst (pc := 1432) (v := 1) d_L_law_1432 rfl ?_
    refine wp_goto (pc := 1433) (tgt := 1437) d_L_law_1433 (by decide) ?_
    refine wp_sub ?_ h
    exact ⟨rfl, ⟨rfl, ⟨rfl, ⟨rfl, trivial⟩⟩⟩⟩
theorem v_L_law_1437 {E : EE} {d : Nat} {Q : Option AV → AH → Prop} {x1 : Nat} {x2 : Nat} {x3 : Int32} {t0 : Int32} {t1 : Nat} {t2 : Int32} {t3 : Int32} {t4 : Int32} {t5 : Int32} {G : AH} (h0 : 0 < d) (h : isO E G t1 12 ∧ (wpI E (d - 1) M_X12_has [vr t1, vi t2, vi t3, vi t4, vi t5] G (fun r1 G2 => (t0 = r1 → wp E d M_L_law 2374 [some (vs (eS E).1), some (vr x1), some (vr x2), some (vi x3)] [] G2 Q) ∧ (¬ (t0 = r1) → Q (some (vi 0)) G2)))) : wp E d M_L_law 1437 [some (vs (eS E).1), some (vr x1), some (vr x2), some (vi x3)] [vi t5, vi t4, vi t3, vi t2, vr t1, vi t0] G Q := by
  obtain ⟨ho3, h⟩ := h
  refine wp_invV (pc := 1437) (N := M_X12_has) (As := [vi _, vi _, vi _, vi _]) (rest := [vi _]) (r := (cn_12, ct_12, 95)) d_L_law_1437 ml_L_159 mk_X12_has mv_X12_has h0 ho3 rfl rfl (Nat.le_of_ble_eq_true rfl) ?_
  refine wpM.mono h (fun rr G2 hr => ?_)
  obtain ⟨r1, rfl, h⟩ := hr
  show wp E d M_L_law 1440 [some (vs (eS E).1), some (vr _), some (vr _), some (vi _)] [vi _, vi _] G2 Q
  refine wp_icmp_eq (pc := 1440) (tgt := 2374) d_L_law_1440 (by decide) (fun hc => ?_) (fun hc => ?_)
  · have h := h.1 hc
    refine wp_sub ?_ h
    exact ⟨rfl, ⟨rfl, ⟨rfl, ⟨rfl, trivial⟩⟩⟩⟩
  · have h := h.2 hc
    refine wp_iconst (pc := 1443) (v := 0) d_L_law_1443 rfl ?_
    exact wp_zret (pc := 1444) d_L_law_1444 rfl rfl h
theorem v_L_law_1445 {E : EE} {d : Nat} {Q : Option AV → AH → Prop} {x1 : Nat} {x2 : Nat} {x3 : Int32} {G : AH} (h0 : 0 < d) (h : vp_in (x3 + 1) (eS E).2.1 ∧ (vp_in (x3 + 2) (eS E).2.1 ∧ (isO E G x1 11 ∧ (wpI E (d - 1) M_X11_choices [vr x1, vi ((eS E).2.2 (Int32.toNatClampNeg (x3 + 1))), vi ((eS E).2.2 (Int32.toNatClampNeg (x3 + 2)))] G (fun r3 G4 => vp_in (x3 + 1) (eS E).2.1 ∧ (vp_in (x3 + 2) (eS E).2.1 ∧ (isO E G4 x2 12 ∧ (wpI E (d - 1) M_X12_choices [vr x2, vi ((eS E).2.2 (Int32.toNatClampNeg (x3 + 1))), vi ((eS E).2.2 (Int32.toNatClampNeg (x3 + 2)))] G4 (fun r7 G8 => (r3 = r7 → wp E d M_L_law 2374 [some (vs (eS E).1), some (vr x1), some (vr x2), some (vi x3)] [] G8 Q) ∧ (¬ (r3 = r7) → Q (some (vi 0)) G8)))))))))) : wp E d M_L_law 1445 [some (vs (eS E).1), some (vr x1), some (vr x2), some (vi x3)] [] G Q := by
  refine wp_aload_n (pc := 1445) d_L_law_1445 rfl ?_
  refine wp_aload_nS (pc := 1446) d_L_law_1446 rfl ?_
  refine wp_iload_n (pc := 1447) d_L_law_1447 rfl ?_
  refine wp_iconst (pc := 1448) (v := 1) d_L_law_1448 rfl ?_
  refine wp_iadd (pc := 1449) d_L_law_1449 ?_
  obtain ⟨hi1, h⟩ := h
  refine wp_sld (pc := 1450) d_L_law_1450 hi1 ?_
  refine wp_aload_nS (pc := 1451) d_L_law_1451 rfl ?_
  refine wp_iload_n (pc := 1452) d_L_law_1452 rfl ?_
  refine wp_iconst (pc := 1453) (v := 2) d_L_law_1453 rfl ?_
  refine wp_iadd (pc := 1454) d_L_law_1454 ?_
  obtain ⟨hi2, h⟩ := h
  refine wp_sld (pc := 1455) d_L_law_1455 hi2 ?_
  obtain ⟨ho10, h⟩ := h
  refine wp_invV (pc := 1456) (N := M_X11_choices) (As := [vi _, vi _]) (rest := []) (r := (cn_11, ct_11, 12)) d_L_law_1456 ml_L_160 mk_X11_choices mv_X11_choices h0 ho10 rfl rfl (Nat.le_of_ble_eq_true rfl) ?_
  refine wpM.mono h (fun rr G4 hr => ?_)
  obtain ⟨r3, rfl, h⟩ := hr
  show wp E d M_L_law 1459 [some (vs (eS E).1), some (vr _), some (vr _), some (vi _)] [vi _] G4 Q
  refine wp_aload_n (pc := 1459) d_L_law_1459 rfl ?_
  refine wp_aload_nS (pc := 1460) d_L_law_1460 rfl ?_
  refine wp_iload_n (pc := 1461) d_L_law_1461 rfl ?_
  refine wp_iconst (pc := 1462) (v := 1) d_L_law_1462 rfl ?_
  refine wp_iadd (pc := 1463) d_L_law_1463 ?_
  obtain ⟨hi5, h⟩ := h
  refine wp_sld (pc := 1464) d_L_law_1464 hi5 ?_
  refine wp_aload_nS (pc := 1465) d_L_law_1465 rfl ?_
  refine wp_iload_n (pc := 1466) d_L_law_1466 rfl ?_
  refine wp_iconst (pc := 1467) (v := 2) d_L_law_1467 rfl ?_
  refine wp_iadd (pc := 1468) d_L_law_1468 ?_
  obtain ⟨hi6, h⟩ := h
  refine wp_sld (pc := 1469) d_L_law_1469 hi6 ?_
  obtain ⟨ho9, h⟩ := h
  refine wp_invV (pc := 1470) (N := M_X12_choices) (As := [vi _, vi _]) (rest := [vi _]) (r := (cn_12, ct_12, 95)) d_L_law_1470 ml_L_163 mk_X12_choices mv_X12_choices h0 ho9 rfl rfl (Nat.le_of_ble_eq_true rfl) ?_
  refine wpM.mono h (fun rr G8 hr => ?_)
  obtain ⟨r7, rfl, h⟩ := hr
  show wp E d M_L_law 1473 [some (vs (eS E).1), some (vr _), some (vr _), some (vi _)] [vi _, vi _] G8 Q
  refine wp_icmp_eq (pc := 1473) (tgt := 2374) d_L_law_1473 (by decide) (fun hc => ?_) (fun hc => ?_)
  · have h := h.1 hc
    refine wp_sub ?_ h
    exact ⟨rfl, ⟨rfl, ⟨rfl, ⟨rfl, trivial⟩⟩⟩⟩
  · have h := h.2 hc
    refine wp_iconst (pc := 1476) (v := 0) d_L_law_1476 rfl ?_
    exact wp_zret (pc := 1477) d_L_law_1477 rfl rfl h
theorem v_L_law_1478 {E : EE} {d : Nat} {Q : Option AV → AH → Prop} {x1 : Nat} {x2 : Nat} {x3 : Int32} {G : AH} (h0 : 0 < d) (h : vp_in (x3 + 1) (eS E).2.1 ∧ (vp_in (x3 + 2) (eS E).2.1 ∧ (isO E G x1 11 ∧ (wpI E (d - 1) M_X11_mend [vr x1, vi ((eS E).2.2 (Int32.toNatClampNeg (x3 + 1))), vi ((eS E).2.2 (Int32.toNatClampNeg (x3 + 2)))] G (fun r3 G4 => vp_in (x3 + 1) (eS E).2.1 ∧ (vp_in (x3 + 2) (eS E).2.1 ∧ (isO E G4 x2 12 ∧ (wpI E (d - 1) M_X12_mend [vr x2, vi ((eS E).2.2 (Int32.toNatClampNeg (x3 + 1))), vi ((eS E).2.2 (Int32.toNatClampNeg (x3 + 2)))] G4 (fun r7 G8 => (r3 = r7 → wp E d M_L_law 2374 [some (vs (eS E).1), some (vr x1), some (vr x2), some (vi x3)] [] G8 Q) ∧ (¬ (r3 = r7) → Q (some (vi 0)) G8)))))))))) : wp E d M_L_law 1478 [some (vs (eS E).1), some (vr x1), some (vr x2), some (vi x3)] [] G Q := by
  refine wp_aload_n (pc := 1478) d_L_law_1478 rfl ?_
  refine wp_aload_nS (pc := 1479) d_L_law_1479 rfl ?_
  refine wp_iload_n (pc := 1480) d_L_law_1480 rfl ?_
  refine wp_iconst (pc := 1481) (v := 1) d_L_law_1481 rfl ?_
  refine wp_iadd (pc := 1482) d_L_law_1482 ?_
  obtain ⟨hi1, h⟩ := h
  refine wp_sld (pc := 1483) d_L_law_1483 hi1 ?_
  refine wp_aload_nS (pc := 1484) d_L_law_1484 rfl ?_
  refine wp_iload_n (pc := 1485) d_L_law_1485 rfl ?_
  refine wp_iconst (pc := 1486) (v := 2) d_L_law_1486 rfl ?_
  refine wp_iadd (pc := 1487) d_L_law_1487 ?_
  obtain ⟨hi2, h⟩ := h
  refine wp_sld (pc := 1488) d_L_law_1488 hi2 ?_
  obtain ⟨ho10, h⟩ := h
  refine wp_invV (pc := 1489) (N := M_X11_mend) (As := [vi _, vi _]) (rest := []) (r := (cn_11, ct_11, 12)) d_L_law_1489 ml_L_164 mk_X11_mend mv_X11_mend h0 ho10 rfl rfl (Nat.le_of_ble_eq_true rfl) ?_
  refine wpM.mono h (fun rr G4 hr => ?_)
  obtain ⟨r3, rfl, h⟩ := hr
  show wp E d M_L_law 1492 [some (vs (eS E).1), some (vr _), some (vr _), some (vi _)] [vi _] G4 Q
  refine wp_aload_n (pc := 1492) d_L_law_1492 rfl ?_
  refine wp_aload_nS (pc := 1493) d_L_law_1493 rfl ?_
  refine wp_iload_n (pc := 1494) d_L_law_1494 rfl ?_
  refine wp_iconst (pc := 1495) (v := 1) d_L_law_1495 rfl ?_
  refine wp_iadd (pc := 1496) d_L_law_1496 ?_
  obtain ⟨hi5, h⟩ := h
  refine wp_sld (pc := 1497) d_L_law_1497 hi5 ?_
  refine wp_aload_nS (pc := 1498) d_L_law_1498 rfl ?_
  refine wp_iload_n (pc := 1499) d_L_law_1499 rfl ?_
  refine wp_iconst (pc := 1500) (v := 2) d_L_law_1500 rfl ?_
  refine wp_iadd (pc := 1501) d_L_law_1501 ?_
  obtain ⟨hi6, h⟩ := h
  refine wp_sld (pc := 1502) d_L_law_1502 hi6 ?_
  obtain ⟨ho9, h⟩ := h
  refine wp_invV (pc := 1503) (N := M_X12_mend) (As := [vi _, vi _]) (rest := [vi _]) (r := (cn_12, ct_12, 95)) d_L_law_1503 ml_L_167 mk_X12_mend mv_X12_mend h0 ho9 rfl rfl (Nat.le_of_ble_eq_true rfl) ?_
  refine wpM.mono h (fun rr G8 hr => ?_)
  obtain ⟨r7, rfl, h⟩ := hr
  show wp E d M_L_law 1506 [some (vs (eS E).1), some (vr _), some (vr _), some (vi _)] [vi _, vi _] G8 Q
  refine wp_icmp_eq (pc := 1506) (tgt := 2374) d_L_law_1506 (by decide) (fun hc => ?_) (fun hc => ?_)
  · have h := h.1 hc
    refine wp_sub ?_ h
    exact ⟨rfl, ⟨rfl, ⟨rfl, ⟨rfl, trivial⟩⟩⟩⟩
  · have h := h.2 hc
    refine wp_iconst (pc := 1509) (v := 0) d_L_law_1509 rfl ?_
    exact wp_zret (pc := 1510) d_L_law_1510 rfl rfl h
theorem v_L_law_1511 {E : EE} {d : Nat} {Q : Option AV → AH → Prop} {x1 : Nat} {x2 : Nat} {x3 : Int32} {G : AH} (h0 : 0 < d) (h : vp_in (x3 + 1) (eS E).2.1 ∧ (isO E G x1 11 ∧ (wpI E (d - 1) M_X11_front [vr x1, vi ((eS E).2.2 (Int32.toNatClampNeg (x3 + 1)))] G (fun r2 G3 => vp_in (x3 + 1) (eS E).2.1 ∧ (isO E G3 x2 12 ∧ (wpI E (d - 1) M_X12_front [vr x2, vi ((eS E).2.2 (Int32.toNatClampNeg (x3 + 1)))] G3 (fun r5 G6 => (r2 = r5 → wp E d M_L_law 2374 [some (vs (eS E).1), some (vr x1), some (vr x2), some (vi x3)] [] G6 Q) ∧ (¬ (r2 = r5) → Q (some (vi 0)) G6)))))))) : wp E d M_L_law 1511 [some (vs (eS E).1), some (vr x1), some (vr x2), some (vi x3)] [] G Q := by
  refine wp_aload_n (pc := 1511) d_L_law_1511 rfl ?_
  refine wp_aload_nS (pc := 1512) d_L_law_1512 rfl ?_
  refine wp_iload_n (pc := 1513) d_L_law_1513 rfl ?_
  refine wp_iconst (pc := 1514) (v := 1) d_L_law_1514 rfl ?_
  refine wp_iadd (pc := 1515) d_L_law_1515 ?_
  obtain ⟨hi1, h⟩ := h
  refine wp_sld (pc := 1516) d_L_law_1516 hi1 ?_
  obtain ⟨ho8, h⟩ := h
  refine wp_invV (pc := 1517) (N := M_X11_front) (As := [vi _]) (rest := []) (r := (cn_11, ct_11, 12)) d_L_law_1517 ml_L_168 mk_X11_front mv_X11_front h0 ho8 rfl rfl (Nat.le_of_ble_eq_true rfl) ?_
  refine wpM.mono h (fun rr G3 hr => ?_)
  obtain ⟨r2, rfl, h⟩ := hr
  show wp E d M_L_law 1520 [some (vs (eS E).1), some (vr _), some (vr _), some (vi _)] [vi _] G3 Q
  refine wp_aload_n (pc := 1520) d_L_law_1520 rfl ?_
  refine wp_aload_nS (pc := 1521) d_L_law_1521 rfl ?_
  refine wp_iload_n (pc := 1522) d_L_law_1522 rfl ?_
  refine wp_iconst (pc := 1523) (v := 1) d_L_law_1523 rfl ?_
  refine wp_iadd (pc := 1524) d_L_law_1524 ?_
  obtain ⟨hi4, h⟩ := h
  refine wp_sld (pc := 1525) d_L_law_1525 hi4 ?_
  obtain ⟨ho7, h⟩ := h
  refine wp_invV (pc := 1526) (N := M_X12_front) (As := [vi _]) (rest := [vi _]) (r := (cn_12, ct_12, 95)) d_L_law_1526 ml_L_171 mk_X12_front mv_X12_front h0 ho7 rfl rfl (Nat.le_of_ble_eq_true rfl) ?_
  refine wpM.mono h (fun rr G6 hr => ?_)
  obtain ⟨r5, rfl, h⟩ := hr
  show wp E d M_L_law 1529 [some (vs (eS E).1), some (vr _), some (vr _), some (vi _)] [vi _, vi _] G6 Q
  refine wp_icmp_eq (pc := 1529) (tgt := 2374) d_L_law_1529 (by decide) (fun hc => ?_) (fun hc => ?_)
  · have h := h.1 hc
    refine wp_sub ?_ h
    exact ⟨rfl, ⟨rfl, ⟨rfl, ⟨rfl, trivial⟩⟩⟩⟩
  · have h := h.2 hc
    refine wp_iconst (pc := 1532) (v := 0) d_L_law_1532 rfl ?_
    exact wp_zret (pc := 1533) d_L_law_1533 rfl rfl h
theorem v_L_law_1534 {E : EE} {d : Nat} {Q : Option AV → AH → Prop} {x1 : Nat} {x2 : Nat} {x3 : Int32} {G : AH} (h0 : 0 < d) (h : vp_in (x3 + 1) (eS E).2.1 ∧ (vp_in (x3 + 2) (eS E).2.1 ∧ (vp_in (x3 + 3) (eS E).2.1 ∧ (isO E G x1 11 ∧ (wpJ E (d - 1) M_X11_frontAt [vr x1, vi ((eS E).2.2 (Int32.toNatClampNeg (x3 + 1))), vi ((eS E).2.2 (Int32.toNatClampNeg (x3 + 2))), vi ((eS E).2.2 (Int32.toNatClampNeg (x3 + 3)))] G (fun r4 G5 => vp_in (x3 + 1) (eS E).2.1 ∧ (vp_in (x3 + 2) (eS E).2.1 ∧ (vp_in (x3 + 3) (eS E).2.1 ∧ (isO E G5 x2 12 ∧ (wpJ E (d - 1) M_X12_frontAt [vr x2, vi ((eS E).2.2 (Int32.toNatClampNeg (x3 + 1))), vi ((eS E).2.2 (Int32.toNatClampNeg (x3 + 2))), vi ((eS E).2.2 (Int32.toNatClampNeg (x3 + 3)))] G5 (fun r9 G10 => (r4 = r9 → wp E d M_L_law 2374 [some (vs (eS E).1), some (vr x1), some (vr x2), some (vi x3)] [] G10 Q) ∧ (¬ (r4 = r9) → Q (some (vi 0)) G10)))))))))))) : wp E d M_L_law 1534 [some (vs (eS E).1), some (vr x1), some (vr x2), some (vi x3)] [] G Q := by
  refine wp_aload_n (pc := 1534) d_L_law_1534 rfl ?_
  refine wp_aload_nS (pc := 1535) d_L_law_1535 rfl ?_
  refine wp_iload_n (pc := 1536) d_L_law_1536 rfl ?_
  refine wp_iconst (pc := 1537) (v := 1) d_L_law_1537 rfl ?_
  refine wp_iadd (pc := 1538) d_L_law_1538 ?_
  obtain ⟨hi1, h⟩ := h
  refine wp_sld (pc := 1539) d_L_law_1539 hi1 ?_
  refine wp_aload_nS (pc := 1540) d_L_law_1540 rfl ?_
  refine wp_iload_n (pc := 1541) d_L_law_1541 rfl ?_
  refine wp_iconst (pc := 1542) (v := 2) d_L_law_1542 rfl ?_
  refine wp_iadd (pc := 1543) d_L_law_1543 ?_
  obtain ⟨hi2, h⟩ := h
  refine wp_sld (pc := 1544) d_L_law_1544 hi2 ?_
  refine wp_aload_nS (pc := 1545) d_L_law_1545 rfl ?_
  refine wp_iload_n (pc := 1546) d_L_law_1546 rfl ?_
  refine wp_iconst (pc := 1547) (v := 3) d_L_law_1547 rfl ?_
  refine wp_iadd (pc := 1548) d_L_law_1548 ?_
  obtain ⟨hi3, h⟩ := h
  refine wp_sld (pc := 1549) d_L_law_1549 hi3 ?_
  obtain ⟨ho12, h⟩ := h
  refine wp_invV (pc := 1550) (N := M_X11_frontAt) (As := [vi _, vi _, vi _]) (rest := []) (r := (cn_11, ct_11, 12)) d_L_law_1550 ml_L_172 mk_X11_frontAt mv_X11_frontAt h0 ho12 rfl rfl (Nat.le_of_ble_eq_true rfl) ?_
  refine wpM.mono h (fun rr G5 hr => ?_)
  obtain ⟨r4, rfl, h⟩ := hr
  show wp E d M_L_law 1553 [some (vs (eS E).1), some (vr _), some (vr _), some (vi _)] [vj _] G5 Q
  refine wp_aload_n (pc := 1553) d_L_law_1553 rfl ?_
  refine wp_aload_nS (pc := 1554) d_L_law_1554 rfl ?_
  refine wp_iload_n (pc := 1555) d_L_law_1555 rfl ?_
  refine wp_iconst (pc := 1556) (v := 1) d_L_law_1556 rfl ?_
  refine wp_iadd (pc := 1557) d_L_law_1557 ?_
  obtain ⟨hi6, h⟩ := h
  refine wp_sld (pc := 1558) d_L_law_1558 hi6 ?_
  refine wp_aload_nS (pc := 1559) d_L_law_1559 rfl ?_
  refine wp_iload_n (pc := 1560) d_L_law_1560 rfl ?_
  refine wp_iconst (pc := 1561) (v := 2) d_L_law_1561 rfl ?_
  refine wp_iadd (pc := 1562) d_L_law_1562 ?_
  obtain ⟨hi7, h⟩ := h
  refine wp_sld (pc := 1563) d_L_law_1563 hi7 ?_
  refine wp_aload_nS (pc := 1564) d_L_law_1564 rfl ?_
  refine wp_iload_n (pc := 1565) d_L_law_1565 rfl ?_
  refine wp_iconst (pc := 1566) (v := 3) d_L_law_1566 rfl ?_
  refine wp_iadd (pc := 1567) d_L_law_1567 ?_
  obtain ⟨hi8, h⟩ := h
  refine wp_sld (pc := 1568) d_L_law_1568 hi8 ?_
  obtain ⟨ho11, h⟩ := h
  refine wp_invV (pc := 1569) (N := M_X12_frontAt) (As := [vi _, vi _, vi _]) (rest := [vj _]) (r := (cn_12, ct_12, 95)) d_L_law_1569 ml_L_175 mk_X12_frontAt mv_X12_frontAt h0 ho11 rfl rfl (Nat.le_of_ble_eq_true rfl) ?_
  refine wpM.mono h (fun rr G10 hr => ?_)
  obtain ⟨r9, rfl, h⟩ := hr
  show wp E d M_L_law 1572 [some (vs (eS E).1), some (vr _), some (vr _), some (vi _)] [vj _, vj _] G10 Q
  refine wp_lcmp_eq (pc := 1572) (tgt := 2374) d_L_law_1572 d_L_law_1573 (by decide) (fun hc => ?_) (fun hc => ?_)
  · have h := h.1 hc
    refine wp_sub ?_ h
    exact ⟨rfl, ⟨rfl, ⟨rfl, ⟨rfl, trivial⟩⟩⟩⟩
  · have h := h.2 hc
    refine wp_iconst (pc := 1576) (v := 0) d_L_law_1576 rfl ?_
    exact wp_zret (pc := 1577) d_L_law_1577 rfl rfl h
theorem v_L_law_1578 {E : EE} {d : Nat} {Q : Option AV → AH → Prop} {x1 : Nat} {x2 : Nat} {x3 : Int32} {G : AH} (h0 : 0 < d) (h : vp_in (x3 + 1) (eS E).2.1 ∧ (vp_in (x3 + 2) (eS E).2.1 ∧ (isO E G x1 11 ∧ (wpI E (d - 1) M_X11_frontPlan [vr x1, vi ((eS E).2.2 (Int32.toNatClampNeg (x3 + 1))), vi ((eS E).2.2 (Int32.toNatClampNeg (x3 + 2)))] G (fun r3 G4 => vp_in (x3 + 1) (eS E).2.1 ∧ (vp_in (x3 + 2) (eS E).2.1 ∧ (isO E G4 x2 12 ∧ (wpI E (d - 1) M_X12_frontPlan [vr x2, vi ((eS E).2.2 (Int32.toNatClampNeg (x3 + 1))), vi ((eS E).2.2 (Int32.toNatClampNeg (x3 + 2)))] G4 (fun r7 G8 => (r3 = r7 → wp E d M_L_law 2374 [some (vs (eS E).1), some (vr x1), some (vr x2), some (vi x3)] [] G8 Q) ∧ (¬ (r3 = r7) → Q (some (vi 0)) G8)))))))))) : wp E d M_L_law 1578 [some (vs (eS E).1), some (vr x1), some (vr x2), some (vi x3)] [] G Q := by
  refine wp_aload_n (pc := 1578) d_L_law_1578 rfl ?_
  refine wp_aload_nS (pc := 1579) d_L_law_1579 rfl ?_
  refine wp_iload_n (pc := 1580) d_L_law_1580 rfl ?_
  refine wp_iconst (pc := 1581) (v := 1) d_L_law_1581 rfl ?_
  refine wp_iadd (pc := 1582) d_L_law_1582 ?_
  obtain ⟨hi1, h⟩ := h
  refine wp_sld (pc := 1583) d_L_law_1583 hi1 ?_
  refine wp_aload_nS (pc := 1584) d_L_law_1584 rfl ?_
  refine wp_iload_n (pc := 1585) d_L_law_1585 rfl ?_
  refine wp_iconst (pc := 1586) (v := 2) d_L_law_1586 rfl ?_
  refine wp_iadd (pc := 1587) d_L_law_1587 ?_
  obtain ⟨hi2, h⟩ := h
  refine wp_sld (pc := 1588) d_L_law_1588 hi2 ?_
  obtain ⟨ho10, h⟩ := h
  refine wp_invV (pc := 1589) (N := M_X11_frontPlan) (As := [vi _, vi _]) (rest := []) (r := (cn_11, ct_11, 12)) d_L_law_1589 ml_L_176 mk_X11_frontPlan mv_X11_frontPlan h0 ho10 rfl rfl (Nat.le_of_ble_eq_true rfl) ?_
  refine wpM.mono h (fun rr G4 hr => ?_)
  obtain ⟨r3, rfl, h⟩ := hr
  show wp E d M_L_law 1592 [some (vs (eS E).1), some (vr _), some (vr _), some (vi _)] [vi _] G4 Q
  refine wp_aload_n (pc := 1592) d_L_law_1592 rfl ?_
  refine wp_aload_nS (pc := 1593) d_L_law_1593 rfl ?_
  refine wp_iload_n (pc := 1594) d_L_law_1594 rfl ?_
  refine wp_iconst (pc := 1595) (v := 1) d_L_law_1595 rfl ?_
  refine wp_iadd (pc := 1596) d_L_law_1596 ?_
  obtain ⟨hi5, h⟩ := h
  refine wp_sld (pc := 1597) d_L_law_1597 hi5 ?_
  refine wp_aload_nS (pc := 1598) d_L_law_1598 rfl ?_
  refine wp_iload_n (pc := 1599) d_L_law_1599 rfl ?_
  refine wp_iconst (pc := 1600) (v := 2) d_L_law_1600 rfl ?_
  refine wp_iadd (pc := 1601) d_L_law_1601 ?_
  obtain ⟨hi6, h⟩ := h
  refine wp_sld (pc := 1602) d_L_law_1602 hi6 ?_
  obtain ⟨ho9, h⟩ := h
  refine wp_invV (pc := 1603) (N := M_X12_frontPlan) (As := [vi _, vi _]) (rest := [vi _]) (r := (cn_12, ct_12, 95)) d_L_law_1603 ml_L_179 mk_X12_frontPlan mv_X12_frontPlan h0 ho9 rfl rfl (Nat.le_of_ble_eq_true rfl) ?_
  refine wpM.mono h (fun rr G8 hr => ?_)
  obtain ⟨r7, rfl, h⟩ := hr
  show wp E d M_L_law 1606 [some (vs (eS E).1), some (vr _), some (vr _), some (vi _)] [vi _, vi _] G8 Q
  refine wp_icmp_eq (pc := 1606) (tgt := 2374) d_L_law_1606 (by decide) (fun hc => ?_) (fun hc => ?_)
  · have h := h.1 hc
    refine wp_sub ?_ h
    exact ⟨rfl, ⟨rfl, ⟨rfl, ⟨rfl, trivial⟩⟩⟩⟩
  · have h := h.2 hc
    refine wp_iconst (pc := 1609) (v := 0) d_L_law_1609 rfl ?_
    exact wp_zret (pc := 1610) d_L_law_1610 rfl rfl h
theorem v_L_law_1611 {E : EE} {d : Nat} {Q : Option AV → AH → Prop} {x1 : Nat} {x2 : Nat} {x3 : Int32} {G : AH} (h : vp_in (x3 + 1) (eS E).2.1 ∧ (vp_in (x3 + 2) (eS E).2.1 ∧ ((((eS E).2.2 (Int32.toNatClampNeg (x3 + 2))) = 0 → wp E d M_L_law 1630 [some (vs (eS E).1), some (vr x1), some (vr x2), some (vi x3)] [vi 0, vi ((eS E).2.2 (Int32.toNatClampNeg (x3 + 1))), vr x1] G Q) ∧ (¬ (((eS E).2.2 (Int32.toNatClampNeg (x3 + 2))) = 0) → wp E d M_L_law 1630 [some (vs (eS E).1), some (vr x1), some (vr x2), some (vi x3)] [vi 1, vi ((eS E).2.2 (Int32.toNatClampNeg (x3 + 1))), vr x1] G Q)))) : wp E d M_L_law 1611 [some (vs (eS E).1), some (vr x1), some (vr x2), some (vi x3)] [] G Q := by
  refine wp_aload_n (pc := 1611) d_L_law_1611 rfl ?_
  refine wp_aload_nS (pc := 1612) d_L_law_1612 rfl ?_
  refine wp_iload_n (pc := 1613) d_L_law_1613 rfl ?_
  refine wp_iconst (pc := 1614) (v := 1) d_L_law_1614 rfl ?_
  refine wp_iadd (pc := 1615) d_L_law_1615 ?_
  obtain ⟨hi1, h⟩ := h
  refine wp_sld (pc := 1616) d_L_law_1616 hi1 ?_
  refine wp_aload_nS (pc := 1617) d_L_law_1617 rfl ?_
  refine wp_iload_n (pc := 1618) d_L_law_1618 rfl ?_
  refine wp_iconst (pc := 1619) (v := 2) d_L_law_1619 rfl ?_
  refine wp_iadd (pc := 1620) d_L_law_1620 ?_
  obtain ⟨hi2, h⟩ := h
  refine wp_sld (pc := 1621) d_L_law_1621 hi2 ?_
  refine wp_if_eq (pc := 1622) (tgt := 1629) d_L_law_1622 (by decide) (fun hc => ?_) (fun hc => ?_)
  · have h := h.1 hc
    refine wp_iconst (pc := 1629) (v := 0) d_L_law_1629 rfl ?_
    refine wp_sub ?_ h
    exact ⟨rfl, ⟨rfl, ⟨rfl, ⟨rfl, trivial⟩⟩⟩⟩
  · have h := h.2 hc
    refine wp_iconst (pc := 1625) (v := 1) d_L_law_1625 rfl ?_
    refine wp_goto (pc := 1626) (tgt := 1630) d_L_law_1626 (by decide) ?_
    refine wp_sub ?_ h
    exact ⟨rfl, ⟨rfl, ⟨rfl, ⟨rfl, trivial⟩⟩⟩⟩
theorem v_L_law_1630 {E : EE} {d : Nat} {Q : Option AV → AH → Prop} {x1 : Nat} {x2 : Nat} {x3 : Int32} {t0 : Nat} {t1 : Int32} {t2 : Int32} {G : AH} (h0 : 0 < d) (h : isO E G t0 11 ∧ (wpI E (d - 1) M_X11_near [vr t0, vi t1, vi t2] G (fun r1 G2 => vp_in (x3 + 1) (eS E).2.1 ∧ (vp_in (x3 + 2) (eS E).2.1 ∧ ((((eS E).2.2 (Int32.toNatClampNeg (x3 + 2))) = 0 → wp E d M_L_law 1652 [some (vs (eS E).1), some (vr x1), some (vr x2), some (vi x3)] [vi 0, vi ((eS E).2.2 (Int32.toNatClampNeg (x3 + 1))), vr x2, vi r1] G2 Q) ∧ (¬ (((eS E).2.2 (Int32.toNatClampNeg (x3 + 2))) = 0) → wp E d M_L_law 1652 [some (vs (eS E).1), some (vr x1), some (vr x2), some (vi x3)] [vi 1, vi ((eS E).2.2 (Int32.toNatClampNeg (x3 + 1))), vr x2, vi r1] G2 Q)))))) : wp E d M_L_law 1630 [some (vs (eS E).1), some (vr x1), some (vr x2), some (vi x3)] [vi t2, vi t1, vr t0] G Q := by
  obtain ⟨ho5, h⟩ := h
  refine wp_invV (pc := 1630) (N := M_X11_near) (As := [vi _, vi _]) (rest := []) (r := (cn_11, ct_11, 12)) d_L_law_1630 ml_L_180 mk_X11_near mv_X11_near h0 ho5 rfl rfl (Nat.le_of_ble_eq_true rfl) ?_
  refine wpM.mono h (fun rr G2 hr => ?_)
  obtain ⟨r1, rfl, h⟩ := hr
  show wp E d M_L_law 1633 [some (vs (eS E).1), some (vr _), some (vr _), some (vi _)] [vi _] G2 Q
  refine wp_aload_n (pc := 1633) d_L_law_1633 rfl ?_
  refine wp_aload_nS (pc := 1634) d_L_law_1634 rfl ?_
  refine wp_iload_n (pc := 1635) d_L_law_1635 rfl ?_
  refine wp_iconst (pc := 1636) (v := 1) d_L_law_1636 rfl ?_
  refine wp_iadd (pc := 1637) d_L_law_1637 ?_
  obtain ⟨hi3, h⟩ := h
  refine wp_sld (pc := 1638) d_L_law_1638 hi3 ?_
  refine wp_aload_nS (pc := 1639) d_L_law_1639 rfl ?_
  refine wp_iload_n (pc := 1640) d_L_law_1640 rfl ?_
  refine wp_iconst (pc := 1641) (v := 2) d_L_law_1641 rfl ?_
  refine wp_iadd (pc := 1642) d_L_law_1642 ?_
  obtain ⟨hi4, h⟩ := h
  refine wp_sld (pc := 1643) d_L_law_1643 hi4 ?_
  refine wp_if_eq (pc := 1644) (tgt := 1651) d_L_law_1644 (by decide) (fun hc => ?_) (fun hc => ?_)
  · have h := h.1 hc
    refine wp_iconst (pc := 1651) (v := 0) d_L_law_1651 rfl ?_
    refine wp_sub ?_ h
    exact ⟨rfl, ⟨rfl, ⟨rfl, ⟨rfl, trivial⟩⟩⟩⟩
  · have h := h.2 hc
    refine wp_iconst (pc := 1647) (v := 1) d_L_law_1647 rfl ?_
    refine wp_goto (pc := 1648) (tgt := 1652) d_L_law_1648 (by decide) ?_
    refine wp_sub ?_ h
    exact ⟨rfl, ⟨rfl, ⟨rfl, ⟨rfl, trivial⟩⟩⟩⟩
theorem v_L_law_1652 {E : EE} {d : Nat} {Q : Option AV → AH → Prop} {x1 : Nat} {x2 : Nat} {x3 : Int32} {t0 : Int32} {t1 : Nat} {t2 : Int32} {t3 : Int32} {G : AH} (h0 : 0 < d) (h : isO E G t1 12 ∧ (wpI E (d - 1) M_X12_near [vr t1, vi t2, vi t3] G (fun r1 G2 => (t0 = r1 → wp E d M_L_law 2374 [some (vs (eS E).1), some (vr x1), some (vr x2), some (vi x3)] [] G2 Q) ∧ (¬ (t0 = r1) → Q (some (vi 0)) G2)))) : wp E d M_L_law 1652 [some (vs (eS E).1), some (vr x1), some (vr x2), some (vi x3)] [vi t3, vi t2, vr t1, vi t0] G Q := by
  obtain ⟨ho3, h⟩ := h
  refine wp_invV (pc := 1652) (N := M_X12_near) (As := [vi _, vi _]) (rest := [vi _]) (r := (cn_12, ct_12, 95)) d_L_law_1652 ml_L_184 mk_X12_near mv_X12_near h0 ho3 rfl rfl (Nat.le_of_ble_eq_true rfl) ?_
  refine wpM.mono h (fun rr G2 hr => ?_)
  obtain ⟨r1, rfl, h⟩ := hr
  show wp E d M_L_law 1655 [some (vs (eS E).1), some (vr _), some (vr _), some (vi _)] [vi _, vi _] G2 Q
  refine wp_icmp_eq (pc := 1655) (tgt := 2374) d_L_law_1655 (by decide) (fun hc => ?_) (fun hc => ?_)
  · have h := h.1 hc
    refine wp_sub ?_ h
    exact ⟨rfl, ⟨rfl, ⟨rfl, ⟨rfl, trivial⟩⟩⟩⟩
  · have h := h.2 hc
    refine wp_iconst (pc := 1658) (v := 0) d_L_law_1658 rfl ?_
    exact wp_zret (pc := 1659) d_L_law_1659 rfl rfl h
theorem v_L_law_1660 {E : EE} {d : Nat} {Q : Option AV → AH → Prop} {x1 : Nat} {x2 : Nat} {x3 : Int32} {G : AH} (h0 : 0 < d) (h : vp_in (x3 + 1) (eS E).2.1 ∧ (isO E G x1 11 ∧ (wpI E (d - 1) M_X11_clash [vr x1, vi ((eS E).2.2 (Int32.toNatClampNeg (x3 + 1)))] G (fun r2 G3 => vp_in (x3 + 1) (eS E).2.1 ∧ (isO E G3 x2 12 ∧ (wpI E (d - 1) M_X12_clash [vr x2, vi ((eS E).2.2 (Int32.toNatClampNeg (x3 + 1)))] G3 (fun r5 G6 => (r2 = r5 → wp E d M_L_law 2374 [some (vs (eS E).1), some (vr x1), some (vr x2), some (vi x3)] [] G6 Q) ∧ (¬ (r2 = r5) → Q (some (vi 0)) G6)))))))) : wp E d M_L_law 1660 [some (vs (eS E).1), some (vr x1), some (vr x2), some (vi x3)] [] G Q := by
  refine wp_aload_n (pc := 1660) d_L_law_1660 rfl ?_
  refine wp_aload_nS (pc := 1661) d_L_law_1661 rfl ?_
  refine wp_iload_n (pc := 1662) d_L_law_1662 rfl ?_
  refine wp_iconst (pc := 1663) (v := 1) d_L_law_1663 rfl ?_
  refine wp_iadd (pc := 1664) d_L_law_1664 ?_
  obtain ⟨hi1, h⟩ := h
  refine wp_sld (pc := 1665) d_L_law_1665 hi1 ?_
  obtain ⟨ho8, h⟩ := h
  refine wp_invV (pc := 1666) (N := M_X11_clash) (As := [vi _]) (rest := []) (r := (cn_11, ct_11, 12)) d_L_law_1666 ml_L_185 mk_X11_clash mv_X11_clash h0 ho8 rfl rfl (Nat.le_of_ble_eq_true rfl) ?_
  refine wpM.mono h (fun rr G3 hr => ?_)
  obtain ⟨r2, rfl, h⟩ := hr
  show wp E d M_L_law 1669 [some (vs (eS E).1), some (vr _), some (vr _), some (vi _)] [vi _] G3 Q
  refine wp_aload_n (pc := 1669) d_L_law_1669 rfl ?_
  refine wp_aload_nS (pc := 1670) d_L_law_1670 rfl ?_
  refine wp_iload_n (pc := 1671) d_L_law_1671 rfl ?_
  refine wp_iconst (pc := 1672) (v := 1) d_L_law_1672 rfl ?_
  refine wp_iadd (pc := 1673) d_L_law_1673 ?_
  obtain ⟨hi4, h⟩ := h
  refine wp_sld (pc := 1674) d_L_law_1674 hi4 ?_
  obtain ⟨ho7, h⟩ := h
  refine wp_invV (pc := 1675) (N := M_X12_clash) (As := [vi _]) (rest := [vi _]) (r := (cn_12, ct_12, 95)) d_L_law_1675 ml_L_188 mk_X12_clash mv_X12_clash h0 ho7 rfl rfl (Nat.le_of_ble_eq_true rfl) ?_
  refine wpM.mono h (fun rr G6 hr => ?_)
  obtain ⟨r5, rfl, h⟩ := hr
  show wp E d M_L_law 1678 [some (vs (eS E).1), some (vr _), some (vr _), some (vi _)] [vi _, vi _] G6 Q
  refine wp_icmp_eq (pc := 1678) (tgt := 2374) d_L_law_1678 (by decide) (fun hc => ?_) (fun hc => ?_)
  · have h := h.1 hc
    refine wp_sub ?_ h
    exact ⟨rfl, ⟨rfl, ⟨rfl, ⟨rfl, trivial⟩⟩⟩⟩
  · have h := h.2 hc
    refine wp_iconst (pc := 1681) (v := 0) d_L_law_1681 rfl ?_
    exact wp_zret (pc := 1682) d_L_law_1682 rfl rfl h
theorem v_L_law_1683 {E : EE} {d : Nat} {Q : Option AV → AH → Prop} {x1 : Nat} {x2 : Nat} {x3 : Int32} {G : AH} (h0 : 0 < d) (h : vp_in (x3 + 1) (eS E).2.1 ∧ (isO E G x1 11 ∧ (wpI E (d - 1) M_X11_fewest [vr x1, vi ((eS E).2.2 (Int32.toNatClampNeg (x3 + 1)))] G (fun r2 G3 => vp_in (x3 + 1) (eS E).2.1 ∧ (isO E G3 x2 12 ∧ (wpI E (d - 1) M_X12_fewest [vr x2, vi ((eS E).2.2 (Int32.toNatClampNeg (x3 + 1)))] G3 (fun r5 G6 => (r2 = r5 → wp E d M_L_law 2374 [some (vs (eS E).1), some (vr x1), some (vr x2), some (vi x3)] [] G6 Q) ∧ (¬ (r2 = r5) → Q (some (vi 0)) G6)))))))) : wp E d M_L_law 1683 [some (vs (eS E).1), some (vr x1), some (vr x2), some (vi x3)] [] G Q := by
  refine wp_aload_n (pc := 1683) d_L_law_1683 rfl ?_
  refine wp_aload_nS (pc := 1684) d_L_law_1684 rfl ?_
  refine wp_iload_n (pc := 1685) d_L_law_1685 rfl ?_
  refine wp_iconst (pc := 1686) (v := 1) d_L_law_1686 rfl ?_
  refine wp_iadd (pc := 1687) d_L_law_1687 ?_
  obtain ⟨hi1, h⟩ := h
  refine wp_sld (pc := 1688) d_L_law_1688 hi1 ?_
  obtain ⟨ho8, h⟩ := h
  refine wp_invV (pc := 1689) (N := M_X11_fewest) (As := [vi _]) (rest := []) (r := (cn_11, ct_11, 12)) d_L_law_1689 ml_L_189 mk_X11_fewest mv_X11_fewest h0 ho8 rfl rfl (Nat.le_of_ble_eq_true rfl) ?_
  refine wpM.mono h (fun rr G3 hr => ?_)
  obtain ⟨r2, rfl, h⟩ := hr
  show wp E d M_L_law 1692 [some (vs (eS E).1), some (vr _), some (vr _), some (vi _)] [vi _] G3 Q
  refine wp_aload_n (pc := 1692) d_L_law_1692 rfl ?_
  refine wp_aload_nS (pc := 1693) d_L_law_1693 rfl ?_
  refine wp_iload_n (pc := 1694) d_L_law_1694 rfl ?_
  refine wp_iconst (pc := 1695) (v := 1) d_L_law_1695 rfl ?_
  refine wp_iadd (pc := 1696) d_L_law_1696 ?_
  obtain ⟨hi4, h⟩ := h
  refine wp_sld (pc := 1697) d_L_law_1697 hi4 ?_
  obtain ⟨ho7, h⟩ := h
  refine wp_invV (pc := 1698) (N := M_X12_fewest) (As := [vi _]) (rest := [vi _]) (r := (cn_12, ct_12, 95)) d_L_law_1698 ml_L_192 mk_X12_fewest mv_X12_fewest h0 ho7 rfl rfl (Nat.le_of_ble_eq_true rfl) ?_
  refine wpM.mono h (fun rr G6 hr => ?_)
  obtain ⟨r5, rfl, h⟩ := hr
  show wp E d M_L_law 1701 [some (vs (eS E).1), some (vr _), some (vr _), some (vi _)] [vi _, vi _] G6 Q
  refine wp_icmp_eq (pc := 1701) (tgt := 2374) d_L_law_1701 (by decide) (fun hc => ?_) (fun hc => ?_)
  · have h := h.1 hc
    refine wp_sub ?_ h
    exact ⟨rfl, ⟨rfl, ⟨rfl, ⟨rfl, trivial⟩⟩⟩⟩
  · have h := h.2 hc
    refine wp_iconst (pc := 1704) (v := 0) d_L_law_1704 rfl ?_
    exact wp_zret (pc := 1705) d_L_law_1705 rfl rfl h
theorem v_L_law_1706 {E : EE} {d : Nat} {Q : Option AV → AH → Prop} {x1 : Nat} {x2 : Nat} {x3 : Int32} {G : AH} (h0 : 0 < d) (h : vp_in (x3 + 1) (eS E).2.1 ∧ (isO E G x1 11 ∧ (wpI E (d - 1) M_X11_relax [vr x1, vi ((eS E).2.2 (Int32.toNatClampNeg (x3 + 1)))] G (fun r2 G3 => vp_in (x3 + 1) (eS E).2.1 ∧ (isO E G3 x2 12 ∧ (wpI E (d - 1) M_X12_relax [vr x2, vi ((eS E).2.2 (Int32.toNatClampNeg (x3 + 1)))] G3 (fun r5 G6 => (r2 = r5 → wp E d M_L_law 2374 [some (vs (eS E).1), some (vr x1), some (vr x2), some (vi x3)] [] G6 Q) ∧ (¬ (r2 = r5) → Q (some (vi 0)) G6)))))))) : wp E d M_L_law 1706 [some (vs (eS E).1), some (vr x1), some (vr x2), some (vi x3)] [] G Q := by
  refine wp_aload_n (pc := 1706) d_L_law_1706 rfl ?_
  refine wp_aload_nS (pc := 1707) d_L_law_1707 rfl ?_
  refine wp_iload_n (pc := 1708) d_L_law_1708 rfl ?_
  refine wp_iconst (pc := 1709) (v := 1) d_L_law_1709 rfl ?_
  refine wp_iadd (pc := 1710) d_L_law_1710 ?_
  obtain ⟨hi1, h⟩ := h
  refine wp_sld (pc := 1711) d_L_law_1711 hi1 ?_
  obtain ⟨ho8, h⟩ := h
  refine wp_invV (pc := 1712) (N := M_X11_relax) (As := [vi _]) (rest := []) (r := (cn_11, ct_11, 12)) d_L_law_1712 ml_L_193 mk_X11_relax mv_X11_relax h0 ho8 rfl rfl (Nat.le_of_ble_eq_true rfl) ?_
  refine wpM.mono h (fun rr G3 hr => ?_)
  obtain ⟨r2, rfl, h⟩ := hr
  show wp E d M_L_law 1715 [some (vs (eS E).1), some (vr _), some (vr _), some (vi _)] [vi _] G3 Q
  refine wp_aload_n (pc := 1715) d_L_law_1715 rfl ?_
  refine wp_aload_nS (pc := 1716) d_L_law_1716 rfl ?_
  refine wp_iload_n (pc := 1717) d_L_law_1717 rfl ?_
  refine wp_iconst (pc := 1718) (v := 1) d_L_law_1718 rfl ?_
  refine wp_iadd (pc := 1719) d_L_law_1719 ?_
  obtain ⟨hi4, h⟩ := h
  refine wp_sld (pc := 1720) d_L_law_1720 hi4 ?_
  obtain ⟨ho7, h⟩ := h
  refine wp_invV (pc := 1721) (N := M_X12_relax) (As := [vi _]) (rest := [vi _]) (r := (cn_12, ct_12, 95)) d_L_law_1721 ml_L_196 mk_X12_relax mv_X12_relax h0 ho7 rfl rfl (Nat.le_of_ble_eq_true rfl) ?_
  refine wpM.mono h (fun rr G6 hr => ?_)
  obtain ⟨r5, rfl, h⟩ := hr
  show wp E d M_L_law 1724 [some (vs (eS E).1), some (vr _), some (vr _), some (vi _)] [vi _, vi _] G6 Q
  refine wp_icmp_eq (pc := 1724) (tgt := 2374) d_L_law_1724 (by decide) (fun hc => ?_) (fun hc => ?_)
  · have h := h.1 hc
    refine wp_sub ?_ h
    exact ⟨rfl, ⟨rfl, ⟨rfl, ⟨rfl, trivial⟩⟩⟩⟩
  · have h := h.2 hc
    refine wp_iconst (pc := 1727) (v := 0) d_L_law_1727 rfl ?_
    exact wp_zret (pc := 1728) d_L_law_1728 rfl rfl h
theorem v_L_law_1729 {E : EE} {d : Nat} {Q : Option AV → AH → Prop} {x1 : Nat} {x2 : Nat} {x3 : Int32} {G : AH} (h0 : 0 < d) (h : vp_in (x3 + 1) (eS E).2.1 ∧ (vp_in (x3 + 2) (eS E).2.1 ∧ (vp_in (x3 + 3) (eS E).2.1 ∧ (isO E G x1 11 ∧ (wpJ E (d - 1) M_X11_without [vr x1, vi ((eS E).2.2 (Int32.toNatClampNeg (x3 + 1))), vi ((eS E).2.2 (Int32.toNatClampNeg (x3 + 2))), vi ((eS E).2.2 (Int32.toNatClampNeg (x3 + 3)))] G (fun r4 G5 => vp_in (x3 + 1) (eS E).2.1 ∧ (vp_in (x3 + 2) (eS E).2.1 ∧ (vp_in (x3 + 3) (eS E).2.1 ∧ (isO E G5 x2 12 ∧ (wpJ E (d - 1) M_X12_without [vr x2, vi ((eS E).2.2 (Int32.toNatClampNeg (x3 + 1))), vi ((eS E).2.2 (Int32.toNatClampNeg (x3 + 2))), vi ((eS E).2.2 (Int32.toNatClampNeg (x3 + 3)))] G5 (fun r9 G10 => (r4 = r9 → wp E d M_L_law 2374 [some (vs (eS E).1), some (vr x1), some (vr x2), some (vi x3)] [] G10 Q) ∧ (¬ (r4 = r9) → Q (some (vi 0)) G10)))))))))))) : wp E d M_L_law 1729 [some (vs (eS E).1), some (vr x1), some (vr x2), some (vi x3)] [] G Q := by
  refine wp_aload_n (pc := 1729) d_L_law_1729 rfl ?_
  refine wp_aload_nS (pc := 1730) d_L_law_1730 rfl ?_
  refine wp_iload_n (pc := 1731) d_L_law_1731 rfl ?_
  refine wp_iconst (pc := 1732) (v := 1) d_L_law_1732 rfl ?_
  refine wp_iadd (pc := 1733) d_L_law_1733 ?_
  obtain ⟨hi1, h⟩ := h
  refine wp_sld (pc := 1734) d_L_law_1734 hi1 ?_
  refine wp_aload_nS (pc := 1735) d_L_law_1735 rfl ?_
  refine wp_iload_n (pc := 1736) d_L_law_1736 rfl ?_
  refine wp_iconst (pc := 1737) (v := 2) d_L_law_1737 rfl ?_
  refine wp_iadd (pc := 1738) d_L_law_1738 ?_
  obtain ⟨hi2, h⟩ := h
  refine wp_sld (pc := 1739) d_L_law_1739 hi2 ?_
  refine wp_aload_nS (pc := 1740) d_L_law_1740 rfl ?_
  refine wp_iload_n (pc := 1741) d_L_law_1741 rfl ?_
  refine wp_iconst (pc := 1742) (v := 3) d_L_law_1742 rfl ?_
  refine wp_iadd (pc := 1743) d_L_law_1743 ?_
  obtain ⟨hi3, h⟩ := h
  refine wp_sld (pc := 1744) d_L_law_1744 hi3 ?_
  obtain ⟨ho12, h⟩ := h
  refine wp_invV (pc := 1745) (N := M_X11_without) (As := [vi _, vi _, vi _]) (rest := []) (r := (cn_11, ct_11, 12)) d_L_law_1745 ml_L_197 mk_X11_without mv_X11_without h0 ho12 rfl rfl (Nat.le_of_ble_eq_true rfl) ?_
  refine wpM.mono h (fun rr G5 hr => ?_)
  obtain ⟨r4, rfl, h⟩ := hr
  show wp E d M_L_law 1748 [some (vs (eS E).1), some (vr _), some (vr _), some (vi _)] [vj _] G5 Q
  refine wp_aload_n (pc := 1748) d_L_law_1748 rfl ?_
  refine wp_aload_nS (pc := 1749) d_L_law_1749 rfl ?_
  refine wp_iload_n (pc := 1750) d_L_law_1750 rfl ?_
  refine wp_iconst (pc := 1751) (v := 1) d_L_law_1751 rfl ?_
  refine wp_iadd (pc := 1752) d_L_law_1752 ?_
  obtain ⟨hi6, h⟩ := h
  refine wp_sld (pc := 1753) d_L_law_1753 hi6 ?_
  refine wp_aload_nS (pc := 1754) d_L_law_1754 rfl ?_
  refine wp_iload_n (pc := 1755) d_L_law_1755 rfl ?_
  refine wp_iconst (pc := 1756) (v := 2) d_L_law_1756 rfl ?_
  refine wp_iadd (pc := 1757) d_L_law_1757 ?_
  obtain ⟨hi7, h⟩ := h
  refine wp_sld (pc := 1758) d_L_law_1758 hi7 ?_
  refine wp_aload_nS (pc := 1759) d_L_law_1759 rfl ?_
  refine wp_iload_n (pc := 1760) d_L_law_1760 rfl ?_
  refine wp_iconst (pc := 1761) (v := 3) d_L_law_1761 rfl ?_
  refine wp_iadd (pc := 1762) d_L_law_1762 ?_
  obtain ⟨hi8, h⟩ := h
  refine wp_sld (pc := 1763) d_L_law_1763 hi8 ?_
  obtain ⟨ho11, h⟩ := h
  refine wp_invV (pc := 1764) (N := M_X12_without) (As := [vi _, vi _, vi _]) (rest := [vj _]) (r := (cn_12, ct_12, 95)) d_L_law_1764 ml_L_200 mk_X12_without mv_X12_without h0 ho11 rfl rfl (Nat.le_of_ble_eq_true rfl) ?_
  refine wpM.mono h (fun rr G10 hr => ?_)
  obtain ⟨r9, rfl, h⟩ := hr
  show wp E d M_L_law 1767 [some (vs (eS E).1), some (vr _), some (vr _), some (vi _)] [vj _, vj _] G10 Q
  refine wp_lcmp_eq (pc := 1767) (tgt := 2374) d_L_law_1767 d_L_law_1768 (by decide) (fun hc => ?_) (fun hc => ?_)
  · have h := h.1 hc
    refine wp_sub ?_ h
    exact ⟨rfl, ⟨rfl, ⟨rfl, ⟨rfl, trivial⟩⟩⟩⟩
  · have h := h.2 hc
    refine wp_iconst (pc := 1771) (v := 0) d_L_law_1771 rfl ?_
    exact wp_zret (pc := 1772) d_L_law_1772 rfl rfl h
theorem v_L_law_1773 {E : EE} {d : Nat} {Q : Option AV → AH → Prop} {x1 : Nat} {x2 : Nat} {x3 : Int32} {G : AH} (h0 : 0 < d) (h : vp_in (x3 + 1) (eS E).2.1 ∧ (vp_in (x3 + 2) (eS E).2.1 ∧ (vp_in (x3 + 3) (eS E).2.1 ∧ (vp_in (x3 + 4) (eS E).2.1 ∧ (isO E G x1 11 ∧ (wpJ E (d - 1) M_X11_whyNot [vr x1, vi ((eS E).2.2 (Int32.toNatClampNeg (x3 + 1))), vi ((eS E).2.2 (Int32.toNatClampNeg (x3 + 2))), vi ((eS E).2.2 (Int32.toNatClampNeg (x3 + 3))), vi ((eS E).2.2 (Int32.toNatClampNeg (x3 + 4)))] G (fun r5 G6 => vp_in (x3 + 1) (eS E).2.1 ∧ (vp_in (x3 + 2) (eS E).2.1 ∧ (vp_in (x3 + 3) (eS E).2.1 ∧ (vp_in (x3 + 4) (eS E).2.1 ∧ (isO E G6 x2 12 ∧ (wpJ E (d - 1) M_X12_whyNot [vr x2, vi ((eS E).2.2 (Int32.toNatClampNeg (x3 + 1))), vi ((eS E).2.2 (Int32.toNatClampNeg (x3 + 2))), vi ((eS E).2.2 (Int32.toNatClampNeg (x3 + 3))), vi ((eS E).2.2 (Int32.toNatClampNeg (x3 + 4)))] G6 (fun r11 G12 => (r5 = r11 → wp E d M_L_law 2374 [some (vs (eS E).1), some (vr x1), some (vr x2), some (vi x3)] [] G12 Q) ∧ (¬ (r5 = r11) → Q (some (vi 0)) G12)))))))))))))) : wp E d M_L_law 1773 [some (vs (eS E).1), some (vr x1), some (vr x2), some (vi x3)] [] G Q := by
  refine wp_aload_n (pc := 1773) d_L_law_1773 rfl ?_
  refine wp_aload_nS (pc := 1774) d_L_law_1774 rfl ?_
  refine wp_iload_n (pc := 1775) d_L_law_1775 rfl ?_
  refine wp_iconst (pc := 1776) (v := 1) d_L_law_1776 rfl ?_
  refine wp_iadd (pc := 1777) d_L_law_1777 ?_
  obtain ⟨hi1, h⟩ := h
  refine wp_sld (pc := 1778) d_L_law_1778 hi1 ?_
  refine wp_aload_nS (pc := 1779) d_L_law_1779 rfl ?_
  refine wp_iload_n (pc := 1780) d_L_law_1780 rfl ?_
  refine wp_iconst (pc := 1781) (v := 2) d_L_law_1781 rfl ?_
  refine wp_iadd (pc := 1782) d_L_law_1782 ?_
  obtain ⟨hi2, h⟩ := h
  refine wp_sld (pc := 1783) d_L_law_1783 hi2 ?_
  refine wp_aload_nS (pc := 1784) d_L_law_1784 rfl ?_
  refine wp_iload_n (pc := 1785) d_L_law_1785 rfl ?_
  refine wp_iconst (pc := 1786) (v := 3) d_L_law_1786 rfl ?_
  refine wp_iadd (pc := 1787) d_L_law_1787 ?_
  obtain ⟨hi3, h⟩ := h
  refine wp_sld (pc := 1788) d_L_law_1788 hi3 ?_
  refine wp_aload_nS (pc := 1789) d_L_law_1789 rfl ?_
  refine wp_iload_n (pc := 1790) d_L_law_1790 rfl ?_
  refine wp_iconst (pc := 1791) (v := 4) d_L_law_1791 rfl ?_
  refine wp_iadd (pc := 1792) d_L_law_1792 ?_
  obtain ⟨hi4, h⟩ := h
  refine wp_sld (pc := 1793) d_L_law_1793 hi4 ?_
  obtain ⟨ho14, h⟩ := h
  refine wp_invV (pc := 1794) (N := M_X11_whyNot) (As := [vi _, vi _, vi _, vi _]) (rest := []) (r := (cn_11, ct_11, 12)) d_L_law_1794 ml_L_201 mk_X11_whyNot mv_X11_whyNot h0 ho14 rfl rfl (Nat.le_of_ble_eq_true rfl) ?_
  refine wpM.mono h (fun rr G6 hr => ?_)
  obtain ⟨r5, rfl, h⟩ := hr
  show wp E d M_L_law 1797 [some (vs (eS E).1), some (vr _), some (vr _), some (vi _)] [vj _] G6 Q
  refine wp_aload_n (pc := 1797) d_L_law_1797 rfl ?_
  refine wp_aload_nS (pc := 1798) d_L_law_1798 rfl ?_
  refine wp_iload_n (pc := 1799) d_L_law_1799 rfl ?_
  refine wp_iconst (pc := 1800) (v := 1) d_L_law_1800 rfl ?_
  refine wp_iadd (pc := 1801) d_L_law_1801 ?_
  obtain ⟨hi7, h⟩ := h
  refine wp_sld (pc := 1802) d_L_law_1802 hi7 ?_
  refine wp_aload_nS (pc := 1803) d_L_law_1803 rfl ?_
  refine wp_iload_n (pc := 1804) d_L_law_1804 rfl ?_
  refine wp_iconst (pc := 1805) (v := 2) d_L_law_1805 rfl ?_
  refine wp_iadd (pc := 1806) d_L_law_1806 ?_
  obtain ⟨hi8, h⟩ := h
  refine wp_sld (pc := 1807) d_L_law_1807 hi8 ?_
  refine wp_aload_nS (pc := 1808) d_L_law_1808 rfl ?_
  refine wp_iload_n (pc := 1809) d_L_law_1809 rfl ?_
  refine wp_iconst (pc := 1810) (v := 3) d_L_law_1810 rfl ?_
  refine wp_iadd (pc := 1811) d_L_law_1811 ?_
  obtain ⟨hi9, h⟩ := h
  refine wp_sld (pc := 1812) d_L_law_1812 hi9 ?_
  refine wp_aload_nS (pc := 1813) d_L_law_1813 rfl ?_
  refine wp_iload_n (pc := 1814) d_L_law_1814 rfl ?_
  refine wp_iconst (pc := 1815) (v := 4) d_L_law_1815 rfl ?_
  refine wp_iadd (pc := 1816) d_L_law_1816 ?_
  obtain ⟨hi10, h⟩ := h
  refine wp_sld (pc := 1817) d_L_law_1817 hi10 ?_
  obtain ⟨ho13, h⟩ := h
  refine wp_invV (pc := 1818) (N := M_X12_whyNot) (As := [vi _, vi _, vi _, vi _]) (rest := [vj _]) (r := (cn_12, ct_12, 95)) d_L_law_1818 ml_L_205 mk_X12_whyNot mv_X12_whyNot h0 ho13 rfl rfl (Nat.le_of_ble_eq_true rfl) ?_
  refine wpM.mono h (fun rr G12 hr => ?_)
  obtain ⟨r11, rfl, h⟩ := hr
  show wp E d M_L_law 1821 [some (vs (eS E).1), some (vr _), some (vr _), some (vi _)] [vj _, vj _] G12 Q
  refine wp_lcmp_eq (pc := 1821) (tgt := 2374) d_L_law_1821 d_L_law_1822 (by decide) (fun hc => ?_) (fun hc => ?_)
  · have h := h.1 hc
    refine wp_sub ?_ h
    exact ⟨rfl, ⟨rfl, ⟨rfl, ⟨rfl, trivial⟩⟩⟩⟩
  · have h := h.2 hc
    refine wp_iconst (pc := 1825) (v := 0) d_L_law_1825 rfl ?_
    exact wp_zret (pc := 1826) d_L_law_1826 rfl rfl h
theorem v_L_law_1827 {E : EE} {d : Nat} {Q : Option AV → AH → Prop} {x1 : Nat} {x2 : Nat} {x3 : Int32} {G : AH} (h0 : 0 < d) (h : vp_in (x3 + 1) (eS E).2.1 ∧ (vp_in (x3 + 2) (eS E).2.1 ∧ (vp_in (x3 + 3) (eS E).2.1 ∧ (isO E G x1 11 ∧ (wpI E (d - 1) M_X11_because [vr x1, vi ((eS E).2.2 (Int32.toNatClampNeg (x3 + 1))), vi ((eS E).2.2 (Int32.toNatClampNeg (x3 + 2))), vi ((eS E).2.2 (Int32.toNatClampNeg (x3 + 3)))] G (fun r4 G5 => vp_in (x3 + 1) (eS E).2.1 ∧ (vp_in (x3 + 2) (eS E).2.1 ∧ (vp_in (x3 + 3) (eS E).2.1 ∧ (isO E G5 x2 12 ∧ (wpI E (d - 1) M_X12_because [vr x2, vi ((eS E).2.2 (Int32.toNatClampNeg (x3 + 1))), vi ((eS E).2.2 (Int32.toNatClampNeg (x3 + 2))), vi ((eS E).2.2 (Int32.toNatClampNeg (x3 + 3)))] G5 (fun r9 G10 => (r4 = r9 → wp E d M_L_law 2374 [some (vs (eS E).1), some (vr x1), some (vr x2), some (vi x3)] [] G10 Q) ∧ (¬ (r4 = r9) → Q (some (vi 0)) G10)))))))))))) : wp E d M_L_law 1827 [some (vs (eS E).1), some (vr x1), some (vr x2), some (vi x3)] [] G Q := by
  refine wp_aload_n (pc := 1827) d_L_law_1827 rfl ?_
  refine wp_aload_nS (pc := 1828) d_L_law_1828 rfl ?_
  refine wp_iload_n (pc := 1829) d_L_law_1829 rfl ?_
  refine wp_iconst (pc := 1830) (v := 1) d_L_law_1830 rfl ?_
  refine wp_iadd (pc := 1831) d_L_law_1831 ?_
  obtain ⟨hi1, h⟩ := h
  refine wp_sld (pc := 1832) d_L_law_1832 hi1 ?_
  refine wp_aload_nS (pc := 1833) d_L_law_1833 rfl ?_
  refine wp_iload_n (pc := 1834) d_L_law_1834 rfl ?_
  refine wp_iconst (pc := 1835) (v := 2) d_L_law_1835 rfl ?_
  refine wp_iadd (pc := 1836) d_L_law_1836 ?_
  obtain ⟨hi2, h⟩ := h
  refine wp_sld (pc := 1837) d_L_law_1837 hi2 ?_
  refine wp_aload_nS (pc := 1838) d_L_law_1838 rfl ?_
  refine wp_iload_n (pc := 1839) d_L_law_1839 rfl ?_
  refine wp_iconst (pc := 1840) (v := 3) d_L_law_1840 rfl ?_
  refine wp_iadd (pc := 1841) d_L_law_1841 ?_
  obtain ⟨hi3, h⟩ := h
  refine wp_sld (pc := 1842) d_L_law_1842 hi3 ?_
  obtain ⟨ho12, h⟩ := h
  refine wp_invV (pc := 1843) (N := M_X11_because) (As := [vi _, vi _, vi _]) (rest := []) (r := (cn_11, ct_11, 12)) d_L_law_1843 ml_L_206 mk_X11_because mv_X11_because h0 ho12 rfl rfl (Nat.le_of_ble_eq_true rfl) ?_
  refine wpM.mono h (fun rr G5 hr => ?_)
  obtain ⟨r4, rfl, h⟩ := hr
  show wp E d M_L_law 1846 [some (vs (eS E).1), some (vr _), some (vr _), some (vi _)] [vi _] G5 Q
  refine wp_aload_n (pc := 1846) d_L_law_1846 rfl ?_
  refine wp_aload_nS (pc := 1847) d_L_law_1847 rfl ?_
  refine wp_iload_n (pc := 1848) d_L_law_1848 rfl ?_
  refine wp_iconst (pc := 1849) (v := 1) d_L_law_1849 rfl ?_
  refine wp_iadd (pc := 1850) d_L_law_1850 ?_
  obtain ⟨hi6, h⟩ := h
  refine wp_sld (pc := 1851) d_L_law_1851 hi6 ?_
  refine wp_aload_nS (pc := 1852) d_L_law_1852 rfl ?_
  refine wp_iload_n (pc := 1853) d_L_law_1853 rfl ?_
  refine wp_iconst (pc := 1854) (v := 2) d_L_law_1854 rfl ?_
  refine wp_iadd (pc := 1855) d_L_law_1855 ?_
  obtain ⟨hi7, h⟩ := h
  refine wp_sld (pc := 1856) d_L_law_1856 hi7 ?_
  refine wp_aload_nS (pc := 1857) d_L_law_1857 rfl ?_
  refine wp_iload_n (pc := 1858) d_L_law_1858 rfl ?_
  refine wp_iconst (pc := 1859) (v := 3) d_L_law_1859 rfl ?_
  refine wp_iadd (pc := 1860) d_L_law_1860 ?_
  obtain ⟨hi8, h⟩ := h
  refine wp_sld (pc := 1861) d_L_law_1861 hi8 ?_
  obtain ⟨ho11, h⟩ := h
  refine wp_invV (pc := 1862) (N := M_X12_because) (As := [vi _, vi _, vi _]) (rest := [vi _]) (r := (cn_12, ct_12, 95)) d_L_law_1862 ml_L_209 mk_X12_because mv_X12_because h0 ho11 rfl rfl (Nat.le_of_ble_eq_true rfl) ?_
  refine wpM.mono h (fun rr G10 hr => ?_)
  obtain ⟨r9, rfl, h⟩ := hr
  show wp E d M_L_law 1865 [some (vs (eS E).1), some (vr _), some (vr _), some (vi _)] [vi _, vi _] G10 Q
  refine wp_icmp_eq (pc := 1865) (tgt := 2374) d_L_law_1865 (by decide) (fun hc => ?_) (fun hc => ?_)
  · have h := h.1 hc
    refine wp_sub ?_ h
    exact ⟨rfl, ⟨rfl, ⟨rfl, ⟨rfl, trivial⟩⟩⟩⟩
  · have h := h.2 hc
    refine wp_iconst (pc := 1868) (v := 0) d_L_law_1868 rfl ?_
    exact wp_zret (pc := 1869) d_L_law_1869 rfl rfl h
theorem v_L_law_1870 {E : EE} {d : Nat} {Q : Option AV → AH → Prop} {x1 : Nat} {x2 : Nat} {x3 : Int32} {G : AH} (h0 : 0 < d) (h : vp_in (x3 + 1) (eS E).2.1 ∧ (vp_in (x3 + 2) (eS E).2.1 ∧ (isO E G x1 11 ∧ (wpI E (d - 1) M_X11_future [vr x1, vi ((eS E).2.2 (Int32.toNatClampNeg (x3 + 1))), vi ((eS E).2.2 (Int32.toNatClampNeg (x3 + 2)))] G (fun r3 G4 => vp_in (x3 + 1) (eS E).2.1 ∧ (vp_in (x3 + 2) (eS E).2.1 ∧ (isO E G4 x2 12 ∧ (wpI E (d - 1) M_X12_future [vr x2, vi ((eS E).2.2 (Int32.toNatClampNeg (x3 + 1))), vi ((eS E).2.2 (Int32.toNatClampNeg (x3 + 2)))] G4 (fun r7 G8 => (r3 = r7 → wp E d M_L_law 2374 [some (vs (eS E).1), some (vr x1), some (vr x2), some (vi x3)] [] G8 Q) ∧ (¬ (r3 = r7) → Q (some (vi 0)) G8)))))))))) : wp E d M_L_law 1870 [some (vs (eS E).1), some (vr x1), some (vr x2), some (vi x3)] [] G Q := by
  refine wp_aload_n (pc := 1870) d_L_law_1870 rfl ?_
  refine wp_aload_nS (pc := 1871) d_L_law_1871 rfl ?_
  refine wp_iload_n (pc := 1872) d_L_law_1872 rfl ?_
  refine wp_iconst (pc := 1873) (v := 1) d_L_law_1873 rfl ?_
  refine wp_iadd (pc := 1874) d_L_law_1874 ?_
  obtain ⟨hi1, h⟩ := h
  refine wp_sld (pc := 1875) d_L_law_1875 hi1 ?_
  refine wp_aload_nS (pc := 1876) d_L_law_1876 rfl ?_
  refine wp_iload_n (pc := 1877) d_L_law_1877 rfl ?_
  refine wp_iconst (pc := 1878) (v := 2) d_L_law_1878 rfl ?_
  refine wp_iadd (pc := 1879) d_L_law_1879 ?_
  obtain ⟨hi2, h⟩ := h
  refine wp_sld (pc := 1880) d_L_law_1880 hi2 ?_
  obtain ⟨ho10, h⟩ := h
  refine wp_invV (pc := 1881) (N := M_X11_future) (As := [vi _, vi _]) (rest := []) (r := (cn_11, ct_11, 12)) d_L_law_1881 ml_L_210 mk_X11_future mv_X11_future h0 ho10 rfl rfl (Nat.le_of_ble_eq_true rfl) ?_
  refine wpM.mono h (fun rr G4 hr => ?_)
  obtain ⟨r3, rfl, h⟩ := hr
  show wp E d M_L_law 1884 [some (vs (eS E).1), some (vr _), some (vr _), some (vi _)] [vi _] G4 Q
  refine wp_aload_n (pc := 1884) d_L_law_1884 rfl ?_
  refine wp_aload_nS (pc := 1885) d_L_law_1885 rfl ?_
  refine wp_iload_n (pc := 1886) d_L_law_1886 rfl ?_
  refine wp_iconst (pc := 1887) (v := 1) d_L_law_1887 rfl ?_
  refine wp_iadd (pc := 1888) d_L_law_1888 ?_
  obtain ⟨hi5, h⟩ := h
  refine wp_sld (pc := 1889) d_L_law_1889 hi5 ?_
  refine wp_aload_nS (pc := 1890) d_L_law_1890 rfl ?_
  refine wp_iload_n (pc := 1891) d_L_law_1891 rfl ?_
  refine wp_iconst (pc := 1892) (v := 2) d_L_law_1892 rfl ?_
  refine wp_iadd (pc := 1893) d_L_law_1893 ?_
  obtain ⟨hi6, h⟩ := h
  refine wp_sld (pc := 1894) d_L_law_1894 hi6 ?_
  obtain ⟨ho9, h⟩ := h
  refine wp_invV (pc := 1895) (N := M_X12_future) (As := [vi _, vi _]) (rest := [vi _]) (r := (cn_12, ct_12, 95)) d_L_law_1895 ml_L_213 mk_X12_future mv_X12_future h0 ho9 rfl rfl (Nat.le_of_ble_eq_true rfl) ?_
  refine wpM.mono h (fun rr G8 hr => ?_)
  obtain ⟨r7, rfl, h⟩ := hr
  show wp E d M_L_law 1898 [some (vs (eS E).1), some (vr _), some (vr _), some (vi _)] [vi _, vi _] G8 Q
  refine wp_icmp_eq (pc := 1898) (tgt := 2374) d_L_law_1898 (by decide) (fun hc => ?_) (fun hc => ?_)
  · have h := h.1 hc
    refine wp_sub ?_ h
    exact ⟨rfl, ⟨rfl, ⟨rfl, ⟨rfl, trivial⟩⟩⟩⟩
  · have h := h.2 hc
    refine wp_iconst (pc := 1901) (v := 0) d_L_law_1901 rfl ?_
    exact wp_zret (pc := 1902) d_L_law_1902 rfl rfl h
theorem v_L_law_1903 {E : EE} {d : Nat} {Q : Option AV → AH → Prop} {x1 : Nat} {x2 : Nat} {x3 : Int32} {G : AH} (h0 : 0 < d) (h : vp_in (x3 + 1) (eS E).2.1 ∧ (vp_in (x3 + 2) (eS E).2.1 ∧ (vp_in (x3 + 3) (eS E).2.1 ∧ (vp_in (x3 + 4) (eS E).2.1 ∧ (isO E G x1 11 ∧ (wpI E (d - 1) M_X11_told [vr x1, vi ((eS E).2.2 (Int32.toNatClampNeg (x3 + 1))), vi ((eS E).2.2 (Int32.toNatClampNeg (x3 + 2))), vi ((eS E).2.2 (Int32.toNatClampNeg (x3 + 3))), vi ((eS E).2.2 (Int32.toNatClampNeg (x3 + 4)))] G (fun r5 G6 => vp_in (x3 + 1) (eS E).2.1 ∧ (vp_in (x3 + 2) (eS E).2.1 ∧ (vp_in (x3 + 3) (eS E).2.1 ∧ (vp_in (x3 + 4) (eS E).2.1 ∧ (isO E G6 x2 12 ∧ (wpI E (d - 1) M_X12_told [vr x2, vi ((eS E).2.2 (Int32.toNatClampNeg (x3 + 1))), vi ((eS E).2.2 (Int32.toNatClampNeg (x3 + 2))), vi ((eS E).2.2 (Int32.toNatClampNeg (x3 + 3))), vi ((eS E).2.2 (Int32.toNatClampNeg (x3 + 4)))] G6 (fun r11 G12 => (r5 = r11 → wp E d M_L_law 2374 [some (vs (eS E).1), some (vr x1), some (vr x2), some (vi x3)] [] G12 Q) ∧ (¬ (r5 = r11) → Q (some (vi 0)) G12)))))))))))))) : wp E d M_L_law 1903 [some (vs (eS E).1), some (vr x1), some (vr x2), some (vi x3)] [] G Q := by
  refine wp_aload_n (pc := 1903) d_L_law_1903 rfl ?_
  refine wp_aload_nS (pc := 1904) d_L_law_1904 rfl ?_
  refine wp_iload_n (pc := 1905) d_L_law_1905 rfl ?_
  refine wp_iconst (pc := 1906) (v := 1) d_L_law_1906 rfl ?_
  refine wp_iadd (pc := 1907) d_L_law_1907 ?_
  obtain ⟨hi1, h⟩ := h
  refine wp_sld (pc := 1908) d_L_law_1908 hi1 ?_
  refine wp_aload_nS (pc := 1909) d_L_law_1909 rfl ?_
  refine wp_iload_n (pc := 1910) d_L_law_1910 rfl ?_
  refine wp_iconst (pc := 1911) (v := 2) d_L_law_1911 rfl ?_
  refine wp_iadd (pc := 1912) d_L_law_1912 ?_
  obtain ⟨hi2, h⟩ := h
  refine wp_sld (pc := 1913) d_L_law_1913 hi2 ?_
  refine wp_aload_nS (pc := 1914) d_L_law_1914 rfl ?_
  refine wp_iload_n (pc := 1915) d_L_law_1915 rfl ?_
  refine wp_iconst (pc := 1916) (v := 3) d_L_law_1916 rfl ?_
  refine wp_iadd (pc := 1917) d_L_law_1917 ?_
  obtain ⟨hi3, h⟩ := h
  refine wp_sld (pc := 1918) d_L_law_1918 hi3 ?_
  refine wp_aload_nS (pc := 1919) d_L_law_1919 rfl ?_
  refine wp_iload_n (pc := 1920) d_L_law_1920 rfl ?_
  refine wp_iconst (pc := 1921) (v := 4) d_L_law_1921 rfl ?_
  refine wp_iadd (pc := 1922) d_L_law_1922 ?_
  obtain ⟨hi4, h⟩ := h
  refine wp_sld (pc := 1923) d_L_law_1923 hi4 ?_
  obtain ⟨ho14, h⟩ := h
  refine wp_invV (pc := 1924) (N := M_X11_told) (As := [vi _, vi _, vi _, vi _]) (rest := []) (r := (cn_11, ct_11, 12)) d_L_law_1924 ml_L_214 mk_X11_told mv_X11_told h0 ho14 rfl rfl (Nat.le_of_ble_eq_true rfl) ?_
  refine wpM.mono h (fun rr G6 hr => ?_)
  obtain ⟨r5, rfl, h⟩ := hr
  show wp E d M_L_law 1927 [some (vs (eS E).1), some (vr _), some (vr _), some (vi _)] [vi _] G6 Q
  refine wp_aload_n (pc := 1927) d_L_law_1927 rfl ?_
  refine wp_aload_nS (pc := 1928) d_L_law_1928 rfl ?_
  refine wp_iload_n (pc := 1929) d_L_law_1929 rfl ?_
  refine wp_iconst (pc := 1930) (v := 1) d_L_law_1930 rfl ?_
  refine wp_iadd (pc := 1931) d_L_law_1931 ?_
  obtain ⟨hi7, h⟩ := h
  refine wp_sld (pc := 1932) d_L_law_1932 hi7 ?_
  refine wp_aload_nS (pc := 1933) d_L_law_1933 rfl ?_
  refine wp_iload_n (pc := 1934) d_L_law_1934 rfl ?_
  refine wp_iconst (pc := 1935) (v := 2) d_L_law_1935 rfl ?_
  refine wp_iadd (pc := 1936) d_L_law_1936 ?_
  obtain ⟨hi8, h⟩ := h
  refine wp_sld (pc := 1937) d_L_law_1937 hi8 ?_
  refine wp_aload_nS (pc := 1938) d_L_law_1938 rfl ?_
  refine wp_iload_n (pc := 1939) d_L_law_1939 rfl ?_
  refine wp_iconst (pc := 1940) (v := 3) d_L_law_1940 rfl ?_
  refine wp_iadd (pc := 1941) d_L_law_1941 ?_
  obtain ⟨hi9, h⟩ := h
  refine wp_sld (pc := 1942) d_L_law_1942 hi9 ?_
  refine wp_aload_nS (pc := 1943) d_L_law_1943 rfl ?_
  refine wp_iload_n (pc := 1944) d_L_law_1944 rfl ?_
  refine wp_iconst (pc := 1945) (v := 4) d_L_law_1945 rfl ?_
  refine wp_iadd (pc := 1946) d_L_law_1946 ?_
  obtain ⟨hi10, h⟩ := h
  refine wp_sld (pc := 1947) d_L_law_1947 hi10 ?_
  obtain ⟨ho13, h⟩ := h
  refine wp_invV (pc := 1948) (N := M_X12_told) (As := [vi _, vi _, vi _, vi _]) (rest := [vi _]) (r := (cn_12, ct_12, 95)) d_L_law_1948 ml_L_218 mk_X12_told mv_X12_told h0 ho13 rfl rfl (Nat.le_of_ble_eq_true rfl) ?_
  refine wpM.mono h (fun rr G12 hr => ?_)
  obtain ⟨r11, rfl, h⟩ := hr
  show wp E d M_L_law 1951 [some (vs (eS E).1), some (vr _), some (vr _), some (vi _)] [vi _, vi _] G12 Q
  refine wp_icmp_eq (pc := 1951) (tgt := 2374) d_L_law_1951 (by decide) (fun hc => ?_) (fun hc => ?_)
  · have h := h.1 hc
    refine wp_sub ?_ h
    exact ⟨rfl, ⟨rfl, ⟨rfl, ⟨rfl, trivial⟩⟩⟩⟩
  · have h := h.2 hc
    refine wp_iconst (pc := 1954) (v := 0) d_L_law_1954 rfl ?_
    exact wp_zret (pc := 1955) d_L_law_1955 rfl rfl h
theorem v_L_law_1956 {E : EE} {d : Nat} {Q : Option AV → AH → Prop} {x1 : Nat} {x2 : Nat} {x3 : Int32} {G : AH} (h0 : 0 < d) (h : vp_in (x3 + 1) (eS E).2.1 ∧ (isO E G x1 11 ∧ (wpI E (d - 1) M_X11_unfold [vr x1, vi ((eS E).2.2 (Int32.toNatClampNeg (x3 + 1)))] G (fun r2 G3 => vp_in (x3 + 1) (eS E).2.1 ∧ (isO E G3 x2 12 ∧ (wpI E (d - 1) M_X12_unfold [vr x2, vi ((eS E).2.2 (Int32.toNatClampNeg (x3 + 1)))] G3 (fun r5 G6 => (r2 = r5 → wp E d M_L_law 2374 [some (vs (eS E).1), some (vr x1), some (vr x2), some (vi x3)] [] G6 Q) ∧ (¬ (r2 = r5) → Q (some (vi 0)) G6)))))))) : wp E d M_L_law 1956 [some (vs (eS E).1), some (vr x1), some (vr x2), some (vi x3)] [] G Q := by
  refine wp_aload_n (pc := 1956) d_L_law_1956 rfl ?_
  refine wp_aload_nS (pc := 1957) d_L_law_1957 rfl ?_
  refine wp_iload_n (pc := 1958) d_L_law_1958 rfl ?_
  refine wp_iconst (pc := 1959) (v := 1) d_L_law_1959 rfl ?_
  refine wp_iadd (pc := 1960) d_L_law_1960 ?_
  obtain ⟨hi1, h⟩ := h
  refine wp_sld (pc := 1961) d_L_law_1961 hi1 ?_
  obtain ⟨ho8, h⟩ := h
  refine wp_invV (pc := 1962) (N := M_X11_unfold) (As := [vi _]) (rest := []) (r := (cn_11, ct_11, 12)) d_L_law_1962 ml_L_219 mk_X11_unfold mv_X11_unfold h0 ho8 rfl rfl (Nat.le_of_ble_eq_true rfl) ?_
  refine wpM.mono h (fun rr G3 hr => ?_)
  obtain ⟨r2, rfl, h⟩ := hr
  show wp E d M_L_law 1965 [some (vs (eS E).1), some (vr _), some (vr _), some (vi _)] [vi _] G3 Q
  refine wp_aload_n (pc := 1965) d_L_law_1965 rfl ?_
  refine wp_aload_nS (pc := 1966) d_L_law_1966 rfl ?_
  refine wp_iload_n (pc := 1967) d_L_law_1967 rfl ?_
  refine wp_iconst (pc := 1968) (v := 1) d_L_law_1968 rfl ?_
  refine wp_iadd (pc := 1969) d_L_law_1969 ?_
  obtain ⟨hi4, h⟩ := h
  refine wp_sld (pc := 1970) d_L_law_1970 hi4 ?_
  obtain ⟨ho7, h⟩ := h
  refine wp_invV (pc := 1971) (N := M_X12_unfold) (As := [vi _]) (rest := [vi _]) (r := (cn_12, ct_12, 95)) d_L_law_1971 ml_L_222 mk_X12_unfold mv_X12_unfold h0 ho7 rfl rfl (Nat.le_of_ble_eq_true rfl) ?_
  refine wpM.mono h (fun rr G6 hr => ?_)
  obtain ⟨r5, rfl, h⟩ := hr
  show wp E d M_L_law 1974 [some (vs (eS E).1), some (vr _), some (vr _), some (vi _)] [vi _, vi _] G6 Q
  refine wp_icmp_eq (pc := 1974) (tgt := 2374) d_L_law_1974 (by decide) (fun hc => ?_) (fun hc => ?_)
  · have h := h.1 hc
    refine wp_sub ?_ h
    exact ⟨rfl, ⟨rfl, ⟨rfl, ⟨rfl, trivial⟩⟩⟩⟩
  · have h := h.2 hc
    refine wp_iconst (pc := 1977) (v := 0) d_L_law_1977 rfl ?_
    exact wp_zret (pc := 1978) d_L_law_1978 rfl rfl h
theorem v_L_law_1979 {E : EE} {d : Nat} {Q : Option AV → AH → Prop} {x1 : Nat} {x2 : Nat} {x3 : Int32} {G : AH} (h0 : 0 < d) (h : vp_in (x3 + 1) (eS E).2.1 ∧ (isO E G x1 11 ∧ (wpI E (d - 1) M_X11_robust [vr x1, vi ((eS E).2.2 (Int32.toNatClampNeg (x3 + 1)))] G (fun r2 G3 => vp_in (x3 + 1) (eS E).2.1 ∧ (isO E G3 x2 12 ∧ (wpI E (d - 1) M_X12_robust [vr x2, vi ((eS E).2.2 (Int32.toNatClampNeg (x3 + 1)))] G3 (fun r5 G6 => (r2 = r5 → wp E d M_L_law 2374 [some (vs (eS E).1), some (vr x1), some (vr x2), some (vi x3)] [] G6 Q) ∧ (¬ (r2 = r5) → Q (some (vi 0)) G6)))))))) : wp E d M_L_law 1979 [some (vs (eS E).1), some (vr x1), some (vr x2), some (vi x3)] [] G Q := by
  refine wp_aload_n (pc := 1979) d_L_law_1979 rfl ?_
  refine wp_aload_nS (pc := 1980) d_L_law_1980 rfl ?_
  refine wp_iload_n (pc := 1981) d_L_law_1981 rfl ?_
  refine wp_iconst (pc := 1982) (v := 1) d_L_law_1982 rfl ?_
  refine wp_iadd (pc := 1983) d_L_law_1983 ?_
  obtain ⟨hi1, h⟩ := h
  refine wp_sld (pc := 1984) d_L_law_1984 hi1 ?_
  obtain ⟨ho8, h⟩ := h
  refine wp_invV (pc := 1985) (N := M_X11_robust) (As := [vi _]) (rest := []) (r := (cn_11, ct_11, 12)) d_L_law_1985 ml_L_223 mk_X11_robust mv_X11_robust h0 ho8 rfl rfl (Nat.le_of_ble_eq_true rfl) ?_
  refine wpM.mono h (fun rr G3 hr => ?_)
  obtain ⟨r2, rfl, h⟩ := hr
  show wp E d M_L_law 1988 [some (vs (eS E).1), some (vr _), some (vr _), some (vi _)] [vi _] G3 Q
  refine wp_aload_n (pc := 1988) d_L_law_1988 rfl ?_
  refine wp_aload_nS (pc := 1989) d_L_law_1989 rfl ?_
  refine wp_iload_n (pc := 1990) d_L_law_1990 rfl ?_
  refine wp_iconst (pc := 1991) (v := 1) d_L_law_1991 rfl ?_
  refine wp_iadd (pc := 1992) d_L_law_1992 ?_
  obtain ⟨hi4, h⟩ := h
  refine wp_sld (pc := 1993) d_L_law_1993 hi4 ?_
  obtain ⟨ho7, h⟩ := h
  refine wp_invV (pc := 1994) (N := M_X12_robust) (As := [vi _]) (rest := [vi _]) (r := (cn_12, ct_12, 95)) d_L_law_1994 ml_L_226 mk_X12_robust mv_X12_robust h0 ho7 rfl rfl (Nat.le_of_ble_eq_true rfl) ?_
  refine wpM.mono h (fun rr G6 hr => ?_)
  obtain ⟨r5, rfl, h⟩ := hr
  show wp E d M_L_law 1997 [some (vs (eS E).1), some (vr _), some (vr _), some (vi _)] [vi _, vi _] G6 Q
  refine wp_icmp_eq (pc := 1997) (tgt := 2374) d_L_law_1997 (by decide) (fun hc => ?_) (fun hc => ?_)
  · have h := h.1 hc
    refine wp_sub ?_ h
    exact ⟨rfl, ⟨rfl, ⟨rfl, ⟨rfl, trivial⟩⟩⟩⟩
  · have h := h.2 hc
    refine wp_iconst (pc := 2000) (v := 0) d_L_law_2000 rfl ?_
    exact wp_zret (pc := 2001) d_L_law_2001 rfl rfl h
theorem v_L_law_2002 {E : EE} {d : Nat} {Q : Option AV → AH → Prop} {x1 : Nat} {x2 : Nat} {x3 : Int32} {G : AH} (h0 : 0 < d) (h : vp_in (x3 + 1) (eS E).2.1 ∧ (vp_in (x3 + 2) (eS E).2.1 ∧ (isO E G x1 11 ∧ (wpJ E (d - 1) M_X11_expected [vr x1, vi ((eS E).2.2 (Int32.toNatClampNeg (x3 + 1))), vi ((eS E).2.2 (Int32.toNatClampNeg (x3 + 2)))] G (fun r3 G4 => vp_in (x3 + 1) (eS E).2.1 ∧ (vp_in (x3 + 2) (eS E).2.1 ∧ (isO E G4 x2 12 ∧ (wpJ E (d - 1) M_X12_expected [vr x2, vi ((eS E).2.2 (Int32.toNatClampNeg (x3 + 1))), vi ((eS E).2.2 (Int32.toNatClampNeg (x3 + 2)))] G4 (fun r7 G8 => (r3 = r7 → wp E d M_L_law 2374 [some (vs (eS E).1), some (vr x1), some (vr x2), some (vi x3)] [] G8 Q) ∧ (¬ (r3 = r7) → Q (some (vi 0)) G8)))))))))) : wp E d M_L_law 2002 [some (vs (eS E).1), some (vr x1), some (vr x2), some (vi x3)] [] G Q := by
  refine wp_aload_n (pc := 2002) d_L_law_2002 rfl ?_
  refine wp_aload_nS (pc := 2003) d_L_law_2003 rfl ?_
  refine wp_iload_n (pc := 2004) d_L_law_2004 rfl ?_
  refine wp_iconst (pc := 2005) (v := 1) d_L_law_2005 rfl ?_
  refine wp_iadd (pc := 2006) d_L_law_2006 ?_
  obtain ⟨hi1, h⟩ := h
  refine wp_sld (pc := 2007) d_L_law_2007 hi1 ?_
  refine wp_aload_nS (pc := 2008) d_L_law_2008 rfl ?_
  refine wp_iload_n (pc := 2009) d_L_law_2009 rfl ?_
  refine wp_iconst (pc := 2010) (v := 2) d_L_law_2010 rfl ?_
  refine wp_iadd (pc := 2011) d_L_law_2011 ?_
  obtain ⟨hi2, h⟩ := h
  refine wp_sld (pc := 2012) d_L_law_2012 hi2 ?_
  obtain ⟨ho10, h⟩ := h
  refine wp_invV (pc := 2013) (N := M_X11_expected) (As := [vi _, vi _]) (rest := []) (r := (cn_11, ct_11, 12)) d_L_law_2013 ml_L_227 mk_X11_expected mv_X11_expected h0 ho10 rfl rfl (Nat.le_of_ble_eq_true rfl) ?_
  refine wpM.mono h (fun rr G4 hr => ?_)
  obtain ⟨r3, rfl, h⟩ := hr
  show wp E d M_L_law 2016 [some (vs (eS E).1), some (vr _), some (vr _), some (vi _)] [vj _] G4 Q
  refine wp_aload_n (pc := 2016) d_L_law_2016 rfl ?_
  refine wp_aload_nS (pc := 2017) d_L_law_2017 rfl ?_
  refine wp_iload_n (pc := 2018) d_L_law_2018 rfl ?_
  refine wp_iconst (pc := 2019) (v := 1) d_L_law_2019 rfl ?_
  refine wp_iadd (pc := 2020) d_L_law_2020 ?_
  obtain ⟨hi5, h⟩ := h
  refine wp_sld (pc := 2021) d_L_law_2021 hi5 ?_
  refine wp_aload_nS (pc := 2022) d_L_law_2022 rfl ?_
  refine wp_iload_n (pc := 2023) d_L_law_2023 rfl ?_
  refine wp_iconst (pc := 2024) (v := 2) d_L_law_2024 rfl ?_
  refine wp_iadd (pc := 2025) d_L_law_2025 ?_
  obtain ⟨hi6, h⟩ := h
  refine wp_sld (pc := 2026) d_L_law_2026 hi6 ?_
  obtain ⟨ho9, h⟩ := h
  refine wp_invV (pc := 2027) (N := M_X12_expected) (As := [vi _, vi _]) (rest := [vj _]) (r := (cn_12, ct_12, 95)) d_L_law_2027 ml_L_230 mk_X12_expected mv_X12_expected h0 ho9 rfl rfl (Nat.le_of_ble_eq_true rfl) ?_
  refine wpM.mono h (fun rr G8 hr => ?_)
  obtain ⟨r7, rfl, h⟩ := hr
  show wp E d M_L_law 2030 [some (vs (eS E).1), some (vr _), some (vr _), some (vi _)] [vj _, vj _] G8 Q
  refine wp_lcmp_eq (pc := 2030) (tgt := 2374) d_L_law_2030 d_L_law_2031 (by decide) (fun hc => ?_) (fun hc => ?_)
  · have h := h.1 hc
    refine wp_sub ?_ h
    exact ⟨rfl, ⟨rfl, ⟨rfl, ⟨rfl, trivial⟩⟩⟩⟩
  · have h := h.2 hc
    refine wp_iconst (pc := 2034) (v := 0) d_L_law_2034 rfl ?_
    exact wp_zret (pc := 2035) d_L_law_2035 rfl rfl h
theorem v_L_law_2036 {E : EE} {d : Nat} {Q : Option AV → AH → Prop} {x1 : Nat} {x2 : Nat} {x3 : Int32} {G : AH} (h0 : 0 < d) (h : vp_in (x3 + 1) (eS E).2.1 ∧ (vp_in (x3 + 2) (eS E).2.1 ∧ (isO E G x1 11 ∧ (wpJ E (d - 1) M_X11_regret [vr x1, vi ((eS E).2.2 (Int32.toNatClampNeg (x3 + 1))), vi ((eS E).2.2 (Int32.toNatClampNeg (x3 + 2)))] G (fun r3 G4 => vp_in (x3 + 1) (eS E).2.1 ∧ (vp_in (x3 + 2) (eS E).2.1 ∧ (isO E G4 x2 12 ∧ (wpJ E (d - 1) M_X12_regret [vr x2, vi ((eS E).2.2 (Int32.toNatClampNeg (x3 + 1))), vi ((eS E).2.2 (Int32.toNatClampNeg (x3 + 2)))] G4 (fun r7 G8 => (r3 = r7 → wp E d M_L_law 2374 [some (vs (eS E).1), some (vr x1), some (vr x2), some (vi x3)] [] G8 Q) ∧ (¬ (r3 = r7) → Q (some (vi 0)) G8)))))))))) : wp E d M_L_law 2036 [some (vs (eS E).1), some (vr x1), some (vr x2), some (vi x3)] [] G Q := by
  refine wp_aload_n (pc := 2036) d_L_law_2036 rfl ?_
  refine wp_aload_nS (pc := 2037) d_L_law_2037 rfl ?_
  refine wp_iload_n (pc := 2038) d_L_law_2038 rfl ?_
  refine wp_iconst (pc := 2039) (v := 1) d_L_law_2039 rfl ?_
  refine wp_iadd (pc := 2040) d_L_law_2040 ?_
  obtain ⟨hi1, h⟩ := h
  refine wp_sld (pc := 2041) d_L_law_2041 hi1 ?_
  refine wp_aload_nS (pc := 2042) d_L_law_2042 rfl ?_
  refine wp_iload_n (pc := 2043) d_L_law_2043 rfl ?_
  refine wp_iconst (pc := 2044) (v := 2) d_L_law_2044 rfl ?_
  refine wp_iadd (pc := 2045) d_L_law_2045 ?_
  obtain ⟨hi2, h⟩ := h
  refine wp_sld (pc := 2046) d_L_law_2046 hi2 ?_
  obtain ⟨ho10, h⟩ := h
  refine wp_invV (pc := 2047) (N := M_X11_regret) (As := [vi _, vi _]) (rest := []) (r := (cn_11, ct_11, 12)) d_L_law_2047 ml_L_231 mk_X11_regret mv_X11_regret h0 ho10 rfl rfl (Nat.le_of_ble_eq_true rfl) ?_
  refine wpM.mono h (fun rr G4 hr => ?_)
  obtain ⟨r3, rfl, h⟩ := hr
  show wp E d M_L_law 2050 [some (vs (eS E).1), some (vr _), some (vr _), some (vi _)] [vj _] G4 Q
  refine wp_aload_n (pc := 2050) d_L_law_2050 rfl ?_
  refine wp_aload_nS (pc := 2051) d_L_law_2051 rfl ?_
  refine wp_iload_n (pc := 2052) d_L_law_2052 rfl ?_
  refine wp_iconst (pc := 2053) (v := 1) d_L_law_2053 rfl ?_
  refine wp_iadd (pc := 2054) d_L_law_2054 ?_
  obtain ⟨hi5, h⟩ := h
  refine wp_sld (pc := 2055) d_L_law_2055 hi5 ?_
  refine wp_aload_nS (pc := 2056) d_L_law_2056 rfl ?_
  refine wp_iload_n (pc := 2057) d_L_law_2057 rfl ?_
  refine wp_iconst (pc := 2058) (v := 2) d_L_law_2058 rfl ?_
  refine wp_iadd (pc := 2059) d_L_law_2059 ?_
  obtain ⟨hi6, h⟩ := h
  refine wp_sld (pc := 2060) d_L_law_2060 hi6 ?_
  obtain ⟨ho9, h⟩ := h
  refine wp_invV (pc := 2061) (N := M_X12_regret) (As := [vi _, vi _]) (rest := [vj _]) (r := (cn_12, ct_12, 95)) d_L_law_2061 ml_L_234 mk_X12_regret mv_X12_regret h0 ho9 rfl rfl (Nat.le_of_ble_eq_true rfl) ?_
  refine wpM.mono h (fun rr G8 hr => ?_)
  obtain ⟨r7, rfl, h⟩ := hr
  show wp E d M_L_law 2064 [some (vs (eS E).1), some (vr _), some (vr _), some (vi _)] [vj _, vj _] G8 Q
  refine wp_lcmp_eq (pc := 2064) (tgt := 2374) d_L_law_2064 d_L_law_2065 (by decide) (fun hc => ?_) (fun hc => ?_)
  · have h := h.1 hc
    refine wp_sub ?_ h
    exact ⟨rfl, ⟨rfl, ⟨rfl, ⟨rfl, trivial⟩⟩⟩⟩
  · have h := h.2 hc
    refine wp_iconst (pc := 2068) (v := 0) d_L_law_2068 rfl ?_
    exact wp_zret (pc := 2069) d_L_law_2069 rfl rfl h
theorem v_L_law_2070 {E : EE} {d : Nat} {Q : Option AV → AH → Prop} {x1 : Nat} {x2 : Nat} {x3 : Int32} {G : AH} (h0 : 0 < d) (h : vp_in (x3 + 1) (eS E).2.1 ∧ (vp_in (x3 + 2) (eS E).2.1 ∧ (vp_in (x3 + 3) (eS E).2.1 ∧ (vp_in (x3 + 4) (eS E).2.1 ∧ (vp_in (x3 + 5) (eS E).2.1 ∧ (isO E G x1 11 ∧ (wpI E (d - 1) M_X11_search [vr x1, vi ((eS E).2.2 (Int32.toNatClampNeg (x3 + 1))), vi ((eS E).2.2 (Int32.toNatClampNeg (x3 + 2))), vi ((eS E).2.2 (Int32.toNatClampNeg (x3 + 3))), vi ((eS E).2.2 (Int32.toNatClampNeg (x3 + 4))), vi ((eS E).2.2 (Int32.toNatClampNeg (x3 + 5)))] G (fun r6 G7 => vp_in (x3 + 1) (eS E).2.1 ∧ (vp_in (x3 + 2) (eS E).2.1 ∧ (vp_in (x3 + 3) (eS E).2.1 ∧ (vp_in (x3 + 4) (eS E).2.1 ∧ (vp_in (x3 + 5) (eS E).2.1 ∧ (isO E G7 x2 12 ∧ (wpI E (d - 1) M_X12_search [vr x2, vi ((eS E).2.2 (Int32.toNatClampNeg (x3 + 1))), vi ((eS E).2.2 (Int32.toNatClampNeg (x3 + 2))), vi ((eS E).2.2 (Int32.toNatClampNeg (x3 + 3))), vi ((eS E).2.2 (Int32.toNatClampNeg (x3 + 4))), vi ((eS E).2.2 (Int32.toNatClampNeg (x3 + 5)))] G7 (fun r13 G14 => (r6 = r13 → wp E d M_L_law 2374 [some (vs (eS E).1), some (vr x1), some (vr x2), some (vi x3)] [] G14 Q) ∧ (¬ (r6 = r13) → Q (some (vi 0)) G14)))))))))))))))) : wp E d M_L_law 2070 [some (vs (eS E).1), some (vr x1), some (vr x2), some (vi x3)] [] G Q := by
  refine wp_aload_n (pc := 2070) d_L_law_2070 rfl ?_
  refine wp_aload_nS (pc := 2071) d_L_law_2071 rfl ?_
  refine wp_iload_n (pc := 2072) d_L_law_2072 rfl ?_
  refine wp_iconst (pc := 2073) (v := 1) d_L_law_2073 rfl ?_
  refine wp_iadd (pc := 2074) d_L_law_2074 ?_
  obtain ⟨hi1, h⟩ := h
  refine wp_sld (pc := 2075) d_L_law_2075 hi1 ?_
  refine wp_aload_nS (pc := 2076) d_L_law_2076 rfl ?_
  refine wp_iload_n (pc := 2077) d_L_law_2077 rfl ?_
  refine wp_iconst (pc := 2078) (v := 2) d_L_law_2078 rfl ?_
  refine wp_iadd (pc := 2079) d_L_law_2079 ?_
  obtain ⟨hi2, h⟩ := h
  refine wp_sld (pc := 2080) d_L_law_2080 hi2 ?_
  refine wp_aload_nS (pc := 2081) d_L_law_2081 rfl ?_
  refine wp_iload_n (pc := 2082) d_L_law_2082 rfl ?_
  refine wp_iconst (pc := 2083) (v := 3) d_L_law_2083 rfl ?_
  refine wp_iadd (pc := 2084) d_L_law_2084 ?_
  obtain ⟨hi3, h⟩ := h
  refine wp_sld (pc := 2085) d_L_law_2085 hi3 ?_
  refine wp_aload_nS (pc := 2086) d_L_law_2086 rfl ?_
  refine wp_iload_n (pc := 2087) d_L_law_2087 rfl ?_
  refine wp_iconst (pc := 2088) (v := 4) d_L_law_2088 rfl ?_
  refine wp_iadd (pc := 2089) d_L_law_2089 ?_
  obtain ⟨hi4, h⟩ := h
  refine wp_sld (pc := 2090) d_L_law_2090 hi4 ?_
  refine wp_aload_nS (pc := 2091) d_L_law_2091 rfl ?_
  refine wp_iload_n (pc := 2092) d_L_law_2092 rfl ?_
  refine wp_iconst (pc := 2093) (v := 5) d_L_law_2093 rfl ?_
  refine wp_iadd (pc := 2094) d_L_law_2094 ?_
  obtain ⟨hi5, h⟩ := h
  refine wp_sld (pc := 2095) d_L_law_2095 hi5 ?_
  obtain ⟨ho16, h⟩ := h
  refine wp_invV (pc := 2096) (N := M_X11_search) (As := [vi _, vi _, vi _, vi _, vi _]) (rest := []) (r := (cn_11, ct_11, 12)) d_L_law_2096 ml_L_235 mk_X11_search mv_X11_search h0 ho16 rfl rfl (Nat.le_of_ble_eq_true rfl) ?_
  refine wpM.mono h (fun rr G7 hr => ?_)
  obtain ⟨r6, rfl, h⟩ := hr
  show wp E d M_L_law 2099 [some (vs (eS E).1), some (vr _), some (vr _), some (vi _)] [vi _] G7 Q
  refine wp_aload_n (pc := 2099) d_L_law_2099 rfl ?_
  refine wp_aload_nS (pc := 2100) d_L_law_2100 rfl ?_
  refine wp_iload_n (pc := 2101) d_L_law_2101 rfl ?_
  refine wp_iconst (pc := 2102) (v := 1) d_L_law_2102 rfl ?_
  refine wp_iadd (pc := 2103) d_L_law_2103 ?_
  obtain ⟨hi8, h⟩ := h
  refine wp_sld (pc := 2104) d_L_law_2104 hi8 ?_
  refine wp_aload_nS (pc := 2105) d_L_law_2105 rfl ?_
  refine wp_iload_n (pc := 2106) d_L_law_2106 rfl ?_
  refine wp_iconst (pc := 2107) (v := 2) d_L_law_2107 rfl ?_
  refine wp_iadd (pc := 2108) d_L_law_2108 ?_
  obtain ⟨hi9, h⟩ := h
  refine wp_sld (pc := 2109) d_L_law_2109 hi9 ?_
  refine wp_aload_nS (pc := 2110) d_L_law_2110 rfl ?_
  refine wp_iload_n (pc := 2111) d_L_law_2111 rfl ?_
  refine wp_iconst (pc := 2112) (v := 3) d_L_law_2112 rfl ?_
  refine wp_iadd (pc := 2113) d_L_law_2113 ?_
  obtain ⟨hi10, h⟩ := h
  refine wp_sld (pc := 2114) d_L_law_2114 hi10 ?_
  refine wp_aload_nS (pc := 2115) d_L_law_2115 rfl ?_
  refine wp_iload_n (pc := 2116) d_L_law_2116 rfl ?_
  refine wp_iconst (pc := 2117) (v := 4) d_L_law_2117 rfl ?_
  refine wp_iadd (pc := 2118) d_L_law_2118 ?_
  obtain ⟨hi11, h⟩ := h
  refine wp_sld (pc := 2119) d_L_law_2119 hi11 ?_
  refine wp_aload_nS (pc := 2120) d_L_law_2120 rfl ?_
  refine wp_iload_n (pc := 2121) d_L_law_2121 rfl ?_
  refine wp_iconst (pc := 2122) (v := 5) d_L_law_2122 rfl ?_
  refine wp_iadd (pc := 2123) d_L_law_2123 ?_
  obtain ⟨hi12, h⟩ := h
  refine wp_sld (pc := 2124) d_L_law_2124 hi12 ?_
  obtain ⟨ho15, h⟩ := h
  refine wp_invV (pc := 2125) (N := M_X12_search) (As := [vi _, vi _, vi _, vi _, vi _]) (rest := [vi _]) (r := (cn_12, ct_12, 95)) d_L_law_2125 ml_L_239 mk_X12_search mv_X12_search h0 ho15 rfl rfl (Nat.le_of_ble_eq_true rfl) ?_
  refine wpM.mono h (fun rr G14 hr => ?_)
  obtain ⟨r13, rfl, h⟩ := hr
  show wp E d M_L_law 2128 [some (vs (eS E).1), some (vr _), some (vr _), some (vi _)] [vi _, vi _] G14 Q
  refine wp_icmp_eq (pc := 2128) (tgt := 2374) d_L_law_2128 (by decide) (fun hc => ?_) (fun hc => ?_)
  · have h := h.1 hc
    refine wp_sub ?_ h
    exact ⟨rfl, ⟨rfl, ⟨rfl, ⟨rfl, trivial⟩⟩⟩⟩
  · have h := h.2 hc
    refine wp_iconst (pc := 2131) (v := 0) d_L_law_2131 rfl ?_
    exact wp_zret (pc := 2132) d_L_law_2132 rfl rfl h
theorem v_L_law_2133 {E : EE} {d : Nat} {Q : Option AV → AH → Prop} {x1 : Nat} {x2 : Nat} {x3 : Int32} {G : AH} (h0 : 0 < d) (h : vp_in (x3 + 1) (eS E).2.1 ∧ (isO E G x1 11 ∧ (wpI E (d - 1) M_X11_searched [vr x1, vi ((eS E).2.2 (Int32.toNatClampNeg (x3 + 1)))] G (fun r2 G3 => vp_in (x3 + 1) (eS E).2.1 ∧ (isO E G3 x2 12 ∧ (wpI E (d - 1) M_X12_searched [vr x2, vi ((eS E).2.2 (Int32.toNatClampNeg (x3 + 1)))] G3 (fun r5 G6 => (r2 = r5 → wp E d M_L_law 2374 [some (vs (eS E).1), some (vr x1), some (vr x2), some (vi x3)] [] G6 Q) ∧ (¬ (r2 = r5) → Q (some (vi 0)) G6)))))))) : wp E d M_L_law 2133 [some (vs (eS E).1), some (vr x1), some (vr x2), some (vi x3)] [] G Q := by
  refine wp_aload_n (pc := 2133) d_L_law_2133 rfl ?_
  refine wp_aload_nS (pc := 2134) d_L_law_2134 rfl ?_
  refine wp_iload_n (pc := 2135) d_L_law_2135 rfl ?_
  refine wp_iconst (pc := 2136) (v := 1) d_L_law_2136 rfl ?_
  refine wp_iadd (pc := 2137) d_L_law_2137 ?_
  obtain ⟨hi1, h⟩ := h
  refine wp_sld (pc := 2138) d_L_law_2138 hi1 ?_
  obtain ⟨ho8, h⟩ := h
  refine wp_invV (pc := 2139) (N := M_X11_searched) (As := [vi _]) (rest := []) (r := (cn_11, ct_11, 12)) d_L_law_2139 ml_L_240 mk_X11_searched mv_X11_searched h0 ho8 rfl rfl (Nat.le_of_ble_eq_true rfl) ?_
  refine wpM.mono h (fun rr G3 hr => ?_)
  obtain ⟨r2, rfl, h⟩ := hr
  show wp E d M_L_law 2142 [some (vs (eS E).1), some (vr _), some (vr _), some (vi _)] [vi _] G3 Q
  refine wp_aload_n (pc := 2142) d_L_law_2142 rfl ?_
  refine wp_aload_nS (pc := 2143) d_L_law_2143 rfl ?_
  refine wp_iload_n (pc := 2144) d_L_law_2144 rfl ?_
  refine wp_iconst (pc := 2145) (v := 1) d_L_law_2145 rfl ?_
  refine wp_iadd (pc := 2146) d_L_law_2146 ?_
  obtain ⟨hi4, h⟩ := h
  refine wp_sld (pc := 2147) d_L_law_2147 hi4 ?_
  obtain ⟨ho7, h⟩ := h
  refine wp_invV (pc := 2148) (N := M_X12_searched) (As := [vi _]) (rest := [vi _]) (r := (cn_12, ct_12, 95)) d_L_law_2148 ml_L_243 mk_X12_searched mv_X12_searched h0 ho7 rfl rfl (Nat.le_of_ble_eq_true rfl) ?_
  refine wpM.mono h (fun rr G6 hr => ?_)
  obtain ⟨r5, rfl, h⟩ := hr
  show wp E d M_L_law 2151 [some (vs (eS E).1), some (vr _), some (vr _), some (vi _)] [vi _, vi _] G6 Q
  refine wp_icmp_eq (pc := 2151) (tgt := 2374) d_L_law_2151 (by decide) (fun hc => ?_) (fun hc => ?_)
  · have h := h.1 hc
    refine wp_sub ?_ h
    exact ⟨rfl, ⟨rfl, ⟨rfl, ⟨rfl, trivial⟩⟩⟩⟩
  · have h := h.2 hc
    refine wp_iconst (pc := 2154) (v := 0) d_L_law_2154 rfl ?_
    exact wp_zret (pc := 2155) d_L_law_2155 rfl rfl h
theorem v_L_law_2156 {E : EE} {d : Nat} {Q : Option AV → AH → Prop} {x1 : Nat} {x2 : Nat} {x3 : Int32} {G : AH} (h0 : 0 < d) (h : vp_in (x3 + 1) (eS E).2.1 ∧ (isO E G x1 11 ∧ (wpI E (d - 1) M_X11_check [vr x1, vi ((eS E).2.2 (Int32.toNatClampNeg (x3 + 1)))] G (fun r2 G3 => vp_in (x3 + 1) (eS E).2.1 ∧ (isO E G3 x2 12 ∧ (wpI E (d - 1) M_X12_check [vr x2, vi ((eS E).2.2 (Int32.toNatClampNeg (x3 + 1)))] G3 (fun r5 G6 => (r2 = r5 → wp E d M_L_law 2374 [some (vs (eS E).1), some (vr x1), some (vr x2), some (vi x3)] [] G6 Q) ∧ (¬ (r2 = r5) → Q (some (vi 0)) G6)))))))) : wp E d M_L_law 2156 [some (vs (eS E).1), some (vr x1), some (vr x2), some (vi x3)] [] G Q := by
  refine wp_aload_n (pc := 2156) d_L_law_2156 rfl ?_
  refine wp_aload_nS (pc := 2157) d_L_law_2157 rfl ?_
  refine wp_iload_n (pc := 2158) d_L_law_2158 rfl ?_
  refine wp_iconst (pc := 2159) (v := 1) d_L_law_2159 rfl ?_
  refine wp_iadd (pc := 2160) d_L_law_2160 ?_
  obtain ⟨hi1, h⟩ := h
  refine wp_sld (pc := 2161) d_L_law_2161 hi1 ?_
  obtain ⟨ho8, h⟩ := h
  refine wp_invV (pc := 2162) (N := M_X11_check) (As := [vi _]) (rest := []) (r := (cn_11, ct_11, 12)) d_L_law_2162 ml_L_244 mk_X11_check mv_X11_check h0 ho8 rfl rfl (Nat.le_of_ble_eq_true rfl) ?_
  refine wpM.mono h (fun rr G3 hr => ?_)
  obtain ⟨r2, rfl, h⟩ := hr
  show wp E d M_L_law 2165 [some (vs (eS E).1), some (vr _), some (vr _), some (vi _)] [vi _] G3 Q
  refine wp_aload_n (pc := 2165) d_L_law_2165 rfl ?_
  refine wp_aload_nS (pc := 2166) d_L_law_2166 rfl ?_
  refine wp_iload_n (pc := 2167) d_L_law_2167 rfl ?_
  refine wp_iconst (pc := 2168) (v := 1) d_L_law_2168 rfl ?_
  refine wp_iadd (pc := 2169) d_L_law_2169 ?_
  obtain ⟨hi4, h⟩ := h
  refine wp_sld (pc := 2170) d_L_law_2170 hi4 ?_
  obtain ⟨ho7, h⟩ := h
  refine wp_invV (pc := 2171) (N := M_X12_check) (As := [vi _]) (rest := [vi _]) (r := (cn_12, ct_12, 95)) d_L_law_2171 ml_L_247 mk_X12_check mv_X12_check h0 ho7 rfl rfl (Nat.le_of_ble_eq_true rfl) ?_
  refine wpM.mono h (fun rr G6 hr => ?_)
  obtain ⟨r5, rfl, h⟩ := hr
  show wp E d M_L_law 2174 [some (vs (eS E).1), some (vr _), some (vr _), some (vi _)] [vi _, vi _] G6 Q
  refine wp_icmp_eq (pc := 2174) (tgt := 2374) d_L_law_2174 (by decide) (fun hc => ?_) (fun hc => ?_)
  · have h := h.1 hc
    refine wp_sub ?_ h
    exact ⟨rfl, ⟨rfl, ⟨rfl, ⟨rfl, trivial⟩⟩⟩⟩
  · have h := h.2 hc
    refine wp_iconst (pc := 2177) (v := 0) d_L_law_2177 rfl ?_
    exact wp_zret (pc := 2178) d_L_law_2178 rfl rfl h
theorem v_L_law_2179 {E : EE} {d : Nat} {Q : Option AV → AH → Prop} {x1 : Nat} {x2 : Nat} {x3 : Int32} {G : AH} (h0 : 0 < d) (h : vp_in (x3 + 1) (eS E).2.1 ∧ (isO E G x1 11 ∧ (wpI E (d - 1) M_X11_prove [vr x1, vi ((eS E).2.2 (Int32.toNatClampNeg (x3 + 1)))] G (fun r2 G3 => vp_in (x3 + 1) (eS E).2.1 ∧ (isO E G3 x2 12 ∧ (wpI E (d - 1) M_X12_prove [vr x2, vi ((eS E).2.2 (Int32.toNatClampNeg (x3 + 1)))] G3 (fun r5 G6 => (r2 = r5 → wp E d M_L_law 2374 [some (vs (eS E).1), some (vr x1), some (vr x2), some (vi x3)] [] G6 Q) ∧ (¬ (r2 = r5) → Q (some (vi 0)) G6)))))))) : wp E d M_L_law 2179 [some (vs (eS E).1), some (vr x1), some (vr x2), some (vi x3)] [] G Q := by
  refine wp_aload_n (pc := 2179) d_L_law_2179 rfl ?_
  refine wp_aload_nS (pc := 2180) d_L_law_2180 rfl ?_
  refine wp_iload_n (pc := 2181) d_L_law_2181 rfl ?_
  refine wp_iconst (pc := 2182) (v := 1) d_L_law_2182 rfl ?_
  refine wp_iadd (pc := 2183) d_L_law_2183 ?_
  obtain ⟨hi1, h⟩ := h
  refine wp_sld (pc := 2184) d_L_law_2184 hi1 ?_
  obtain ⟨ho8, h⟩ := h
  refine wp_invV (pc := 2185) (N := M_X11_prove) (As := [vi _]) (rest := []) (r := (cn_11, ct_11, 12)) d_L_law_2185 ml_L_248 mk_X11_prove mv_X11_prove h0 ho8 rfl rfl (Nat.le_of_ble_eq_true rfl) ?_
  refine wpM.mono h (fun rr G3 hr => ?_)
  obtain ⟨r2, rfl, h⟩ := hr
  show wp E d M_L_law 2188 [some (vs (eS E).1), some (vr _), some (vr _), some (vi _)] [vi _] G3 Q
  refine wp_aload_n (pc := 2188) d_L_law_2188 rfl ?_
  refine wp_aload_nS (pc := 2189) d_L_law_2189 rfl ?_
  refine wp_iload_n (pc := 2190) d_L_law_2190 rfl ?_
  refine wp_iconst (pc := 2191) (v := 1) d_L_law_2191 rfl ?_
  refine wp_iadd (pc := 2192) d_L_law_2192 ?_
  obtain ⟨hi4, h⟩ := h
  refine wp_sld (pc := 2193) d_L_law_2193 hi4 ?_
  obtain ⟨ho7, h⟩ := h
  refine wp_invV (pc := 2194) (N := M_X12_prove) (As := [vi _]) (rest := [vi _]) (r := (cn_12, ct_12, 95)) d_L_law_2194 ml_L_251 mk_X12_prove mv_X12_prove h0 ho7 rfl rfl (Nat.le_of_ble_eq_true rfl) ?_
  refine wpM.mono h (fun rr G6 hr => ?_)
  obtain ⟨r5, rfl, h⟩ := hr
  show wp E d M_L_law 2197 [some (vs (eS E).1), some (vr _), some (vr _), some (vi _)] [vi _, vi _] G6 Q
  refine wp_icmp_eq (pc := 2197) (tgt := 2374) d_L_law_2197 (by decide) (fun hc => ?_) (fun hc => ?_)
  · have h := h.1 hc
    refine wp_sub ?_ h
    exact ⟨rfl, ⟨rfl, ⟨rfl, ⟨rfl, trivial⟩⟩⟩⟩
  · have h := h.2 hc
    refine wp_iconst (pc := 2200) (v := 0) d_L_law_2200 rfl ?_
    exact wp_zret (pc := 2201) d_L_law_2201 rfl rfl h
theorem v_L_law_2202 {E : EE} {d : Nat} {Q : Option AV → AH → Prop} {x1 : Nat} {x2 : Nat} {x3 : Int32} {G : AH} (h0 : 0 < d) (h : isO E G x1 11 ∧ (wpJ E (d - 1) M_X11_above [vr x1] G (fun r1 G2 => isO E G2 x2 12 ∧ (wpJ E (d - 1) M_X12_above [vr x2] G2 (fun r3 G4 => (r1 = r3 → wp E d M_L_law 2374 [some (vs (eS E).1), some (vr x1), some (vr x2), some (vi x3)] [] G4 Q) ∧ (¬ (r1 = r3) → Q (some (vi 0)) G4)))))) : wp E d M_L_law 2202 [some (vs (eS E).1), some (vr x1), some (vr x2), some (vi x3)] [] G Q := by
  refine wp_aload_n (pc := 2202) d_L_law_2202 rfl ?_
  obtain ⟨ho6, h⟩ := h
  refine wp_invV (pc := 2203) (N := M_X11_above) (As := []) (rest := []) (r := (cn_11, ct_11, 12)) d_L_law_2203 ml_L_252 mk_X11_above mv_X11_above h0 ho6 rfl rfl (Nat.le_of_ble_eq_true rfl) ?_
  refine wpM.mono h (fun rr G2 hr => ?_)
  obtain ⟨r1, rfl, h⟩ := hr
  show wp E d M_L_law 2206 [some (vs (eS E).1), some (vr _), some (vr _), some (vi _)] [vj _] G2 Q
  refine wp_aload_n (pc := 2206) d_L_law_2206 rfl ?_
  obtain ⟨ho5, h⟩ := h
  refine wp_invV (pc := 2207) (N := M_X12_above) (As := []) (rest := [vj _]) (r := (cn_12, ct_12, 95)) d_L_law_2207 ml_L_256 mk_X12_above mv_X12_above h0 ho5 rfl rfl (Nat.le_of_ble_eq_true rfl) ?_
  refine wpM.mono h (fun rr G4 hr => ?_)
  obtain ⟨r3, rfl, h⟩ := hr
  show wp E d M_L_law 2210 [some (vs (eS E).1), some (vr _), some (vr _), some (vi _)] [vj _, vj _] G4 Q
  refine wp_lcmp_eq (pc := 2210) (tgt := 2374) d_L_law_2210 d_L_law_2211 (by decide) (fun hc => ?_) (fun hc => ?_)
  · have h := h.1 hc
    refine wp_sub ?_ h
    exact ⟨rfl, ⟨rfl, ⟨rfl, ⟨rfl, trivial⟩⟩⟩⟩
  · have h := h.2 hc
    refine wp_iconst (pc := 2214) (v := 0) d_L_law_2214 rfl ?_
    exact wp_zret (pc := 2215) d_L_law_2215 rfl rfl h
theorem v_L_law_2216 {E : EE} {d : Nat} {Q : Option AV → AH → Prop} {x1 : Nat} {x2 : Nat} {x3 : Int32} {G : AH} (h0 : 0 < d) (h : isO E G x1 11 ∧ (wpJ E (d - 1) M_X11_below [vr x1] G (fun r1 G2 => isO E G2 x2 12 ∧ (wpJ E (d - 1) M_X12_below [vr x2] G2 (fun r3 G4 => (r1 = r3 → wp E d M_L_law 2374 [some (vs (eS E).1), some (vr x1), some (vr x2), some (vi x3)] [] G4 Q) ∧ (¬ (r1 = r3) → Q (some (vi 0)) G4)))))) : wp E d M_L_law 2216 [some (vs (eS E).1), some (vr x1), some (vr x2), some (vi x3)] [] G Q := by
  refine wp_aload_n (pc := 2216) d_L_law_2216 rfl ?_
  obtain ⟨ho6, h⟩ := h
  refine wp_invV (pc := 2217) (N := M_X11_below) (As := []) (rest := []) (r := (cn_11, ct_11, 12)) d_L_law_2217 ml_L_257 mk_X11_below mv_X11_below h0 ho6 rfl rfl (Nat.le_of_ble_eq_true rfl) ?_
  refine wpM.mono h (fun rr G2 hr => ?_)
  obtain ⟨r1, rfl, h⟩ := hr
  show wp E d M_L_law 2220 [some (vs (eS E).1), some (vr _), some (vr _), some (vi _)] [vj _] G2 Q
  refine wp_aload_n (pc := 2220) d_L_law_2220 rfl ?_
  obtain ⟨ho5, h⟩ := h
  refine wp_invV (pc := 2221) (N := M_X12_below) (As := []) (rest := [vj _]) (r := (cn_12, ct_12, 95)) d_L_law_2221 ml_L_260 mk_X12_below mv_X12_below h0 ho5 rfl rfl (Nat.le_of_ble_eq_true rfl) ?_
  refine wpM.mono h (fun rr G4 hr => ?_)
  obtain ⟨r3, rfl, h⟩ := hr
  show wp E d M_L_law 2224 [some (vs (eS E).1), some (vr _), some (vr _), some (vi _)] [vj _, vj _] G4 Q
  refine wp_lcmp_eq (pc := 2224) (tgt := 2374) d_L_law_2224 d_L_law_2225 (by decide) (fun hc => ?_) (fun hc => ?_)
  · have h := h.1 hc
    refine wp_sub ?_ h
    exact ⟨rfl, ⟨rfl, ⟨rfl, ⟨rfl, trivial⟩⟩⟩⟩
  · have h := h.2 hc
    refine wp_iconst (pc := 2228) (v := 0) d_L_law_2228 rfl ?_
    exact wp_zret (pc := 2229) d_L_law_2229 rfl rfl h
theorem v_L_law_2230 {E : EE} {d : Nat} {Q : Option AV → AH → Prop} {x1 : Nat} {x2 : Nat} {x3 : Int32} {G : AH} (h0 : 0 < d) (h : vp_in (x3 + 1) (eS E).2.1 ∧ (isO E G x1 11 ∧ (wpI E (d - 1) M_X11_save [vr x1, vi ((eS E).2.2 (Int32.toNatClampNeg (x3 + 1)))] G (fun r2 G3 => vp_in (x3 + 1) (eS E).2.1 ∧ (isO E G3 x2 12 ∧ (wpI E (d - 1) M_X12_save [vr x2, vi ((eS E).2.2 (Int32.toNatClampNeg (x3 + 1)))] G3 (fun r5 G6 => (r2 = r5 → wp E d M_L_law 2374 [some (vs (eS E).1), some (vr x1), some (vr x2), some (vi x3)] [] G6 Q) ∧ (¬ (r2 = r5) → Q (some (vi 0)) G6)))))))) : wp E d M_L_law 2230 [some (vs (eS E).1), some (vr x1), some (vr x2), some (vi x3)] [] G Q := by
  refine wp_aload_n (pc := 2230) d_L_law_2230 rfl ?_
  refine wp_aload_nS (pc := 2231) d_L_law_2231 rfl ?_
  refine wp_iload_n (pc := 2232) d_L_law_2232 rfl ?_
  refine wp_iconst (pc := 2233) (v := 1) d_L_law_2233 rfl ?_
  refine wp_iadd (pc := 2234) d_L_law_2234 ?_
  obtain ⟨hi1, h⟩ := h
  refine wp_sld (pc := 2235) d_L_law_2235 hi1 ?_
  obtain ⟨ho8, h⟩ := h
  refine wp_invV (pc := 2236) (N := M_X11_save) (As := [vi _]) (rest := []) (r := (cn_11, ct_11, 12)) d_L_law_2236 ml_L_261 mk_X11_save mv_X11_save h0 ho8 rfl rfl (Nat.le_of_ble_eq_true rfl) ?_
  refine wpM.mono h (fun rr G3 hr => ?_)
  obtain ⟨r2, rfl, h⟩ := hr
  show wp E d M_L_law 2239 [some (vs (eS E).1), some (vr _), some (vr _), some (vi _)] [vi _] G3 Q
  refine wp_aload_n (pc := 2239) d_L_law_2239 rfl ?_
  refine wp_aload_nS (pc := 2240) d_L_law_2240 rfl ?_
  refine wp_iload_n (pc := 2241) d_L_law_2241 rfl ?_
  refine wp_iconst (pc := 2242) (v := 1) d_L_law_2242 rfl ?_
  refine wp_iadd (pc := 2243) d_L_law_2243 ?_
  obtain ⟨hi4, h⟩ := h
  refine wp_sld (pc := 2244) d_L_law_2244 hi4 ?_
  obtain ⟨ho7, h⟩ := h
  refine wp_invV (pc := 2245) (N := M_X12_save) (As := [vi _]) (rest := [vi _]) (r := (cn_12, ct_12, 95)) d_L_law_2245 ml_L_264 mk_X12_save mv_X12_save h0 ho7 rfl rfl (Nat.le_of_ble_eq_true rfl) ?_
  refine wpM.mono h (fun rr G6 hr => ?_)
  obtain ⟨r5, rfl, h⟩ := hr
  show wp E d M_L_law 2248 [some (vs (eS E).1), some (vr _), some (vr _), some (vi _)] [vi _, vi _] G6 Q
  refine wp_icmp_eq (pc := 2248) (tgt := 2374) d_L_law_2248 (by decide) (fun hc => ?_) (fun hc => ?_)
  · have h := h.1 hc
    refine wp_sub ?_ h
    exact ⟨rfl, ⟨rfl, ⟨rfl, ⟨rfl, trivial⟩⟩⟩⟩
  · have h := h.2 hc
    refine wp_iconst (pc := 2251) (v := 0) d_L_law_2251 rfl ?_
    exact wp_zret (pc := 2252) d_L_law_2252 rfl rfl h
theorem v_L_law_2253 {E : EE} {d : Nat} {Q : Option AV → AH → Prop} {x1 : Nat} {x2 : Nat} {x3 : Int32} {G : AH} (h0 : 0 < d) (h : vp_in (x3 + 1) (eS E).2.1 ∧ (isO E G x1 11 ∧ (wpI E (d - 1) M_X11_load [vr x1, vi ((eS E).2.2 (Int32.toNatClampNeg (x3 + 1)))] G (fun r2 G3 => vp_in (x3 + 1) (eS E).2.1 ∧ (isO E G3 x2 12 ∧ (wpI E (d - 1) M_X12_load [vr x2, vi ((eS E).2.2 (Int32.toNatClampNeg (x3 + 1)))] G3 (fun r5 G6 => (r2 = r5 → wp E d M_L_law 2374 [some (vs (eS E).1), some (vr x1), some (vr x2), some (vi x3)] [] G6 Q) ∧ (¬ (r2 = r5) → Q (some (vi 0)) G6)))))))) : wp E d M_L_law 2253 [some (vs (eS E).1), some (vr x1), some (vr x2), some (vi x3)] [] G Q := by
  refine wp_aload_n (pc := 2253) d_L_law_2253 rfl ?_
  refine wp_aload_nS (pc := 2254) d_L_law_2254 rfl ?_
  refine wp_iload_n (pc := 2255) d_L_law_2255 rfl ?_
  refine wp_iconst (pc := 2256) (v := 1) d_L_law_2256 rfl ?_
  refine wp_iadd (pc := 2257) d_L_law_2257 ?_
  obtain ⟨hi1, h⟩ := h
  refine wp_sld (pc := 2258) d_L_law_2258 hi1 ?_
  obtain ⟨ho8, h⟩ := h
  refine wp_invV (pc := 2259) (N := M_X11_load) (As := [vi _]) (rest := []) (r := (cn_11, ct_11, 12)) d_L_law_2259 ml_L_265 mk_X11_load mv_X11_load h0 ho8 rfl rfl (Nat.le_of_ble_eq_true rfl) ?_
  refine wpM.mono h (fun rr G3 hr => ?_)
  obtain ⟨r2, rfl, h⟩ := hr
  show wp E d M_L_law 2262 [some (vs (eS E).1), some (vr _), some (vr _), some (vi _)] [vi _] G3 Q
  refine wp_aload_n (pc := 2262) d_L_law_2262 rfl ?_
  refine wp_aload_nS (pc := 2263) d_L_law_2263 rfl ?_
  refine wp_iload_n (pc := 2264) d_L_law_2264 rfl ?_
  refine wp_iconst (pc := 2265) (v := 1) d_L_law_2265 rfl ?_
  refine wp_iadd (pc := 2266) d_L_law_2266 ?_
  obtain ⟨hi4, h⟩ := h
  refine wp_sld (pc := 2267) d_L_law_2267 hi4 ?_
  obtain ⟨ho7, h⟩ := h
  refine wp_invV (pc := 2268) (N := M_X12_load) (As := [vi _]) (rest := [vi _]) (r := (cn_12, ct_12, 95)) d_L_law_2268 ml_L_268 mk_X12_load mv_X12_load h0 ho7 rfl rfl (Nat.le_of_ble_eq_true rfl) ?_
  refine wpM.mono h (fun rr G6 hr => ?_)
  obtain ⟨r5, rfl, h⟩ := hr
  show wp E d M_L_law 2271 [some (vs (eS E).1), some (vr _), some (vr _), some (vi _)] [vi _, vi _] G6 Q
  refine wp_icmp_eq (pc := 2271) (tgt := 2374) d_L_law_2271 (by decide) (fun hc => ?_) (fun hc => ?_)
  · have h := h.1 hc
    refine wp_sub ?_ h
    exact ⟨rfl, ⟨rfl, ⟨rfl, ⟨rfl, trivial⟩⟩⟩⟩
  · have h := h.2 hc
    refine wp_iconst (pc := 2274) (v := 0) d_L_law_2274 rfl ?_
    exact wp_zret (pc := 2275) d_L_law_2275 rfl rfl h
theorem v_L_law_2276 {E : EE} {d : Nat} {Q : Option AV → AH → Prop} {x1 : Nat} {x2 : Nat} {x3 : Int32} {G : AH} (h0 : 0 < d) (h : isO E G x1 11 ∧ (wpI E (d - 1) M_X11_rows [vr x1] G (fun r1 G2 => isO E G2 x2 12 ∧ (wpI E (d - 1) M_X12_rows [vr x2] G2 (fun r3 G4 => (r1 = r3 → wp E d M_L_law 2374 [some (vs (eS E).1), some (vr x1), some (vr x2), some (vi x3)] [] G4 Q) ∧ (¬ (r1 = r3) → Q (some (vi 0)) G4)))))) : wp E d M_L_law 2276 [some (vs (eS E).1), some (vr x1), some (vr x2), some (vi x3)] [] G Q := by
  refine wp_aload_n (pc := 2276) d_L_law_2276 rfl ?_
  obtain ⟨ho6, h⟩ := h
  refine wp_invV (pc := 2277) (N := M_X11_rows) (As := []) (rest := []) (r := (cn_11, ct_11, 12)) d_L_law_2277 ml_L_269 mk_X11_rows mv_X11_rows h0 ho6 rfl rfl (Nat.le_of_ble_eq_true rfl) ?_
  refine wpM.mono h (fun rr G2 hr => ?_)
  obtain ⟨r1, rfl, h⟩ := hr
  show wp E d M_L_law 2280 [some (vs (eS E).1), some (vr _), some (vr _), some (vi _)] [vi _] G2 Q
  refine wp_aload_n (pc := 2280) d_L_law_2280 rfl ?_
  obtain ⟨ho5, h⟩ := h
  refine wp_invV (pc := 2281) (N := M_X12_rows) (As := []) (rest := [vi _]) (r := (cn_12, ct_12, 95)) d_L_law_2281 ml_L_272 mk_X12_rows mv_X12_rows h0 ho5 rfl rfl (Nat.le_of_ble_eq_true rfl) ?_
  refine wpM.mono h (fun rr G4 hr => ?_)
  obtain ⟨r3, rfl, h⟩ := hr
  show wp E d M_L_law 2284 [some (vs (eS E).1), some (vr _), some (vr _), some (vi _)] [vi _, vi _] G4 Q
  refine wp_icmp_eq (pc := 2284) (tgt := 2374) d_L_law_2284 (by decide) (fun hc => ?_) (fun hc => ?_)
  · have h := h.1 hc
    refine wp_sub ?_ h
    exact ⟨rfl, ⟨rfl, ⟨rfl, ⟨rfl, trivial⟩⟩⟩⟩
  · have h := h.2 hc
    refine wp_iconst (pc := 2287) (v := 0) d_L_law_2287 rfl ?_
    exact wp_zret (pc := 2288) d_L_law_2288 rfl rfl h
theorem v_L_law_2289 {E : EE} {d : Nat} {Q : Option AV → AH → Prop} {x1 : Nat} {x2 : Nat} {x3 : Int32} {G : AH} (h0 : 0 < d) (h : isO E G x1 11 ∧ (wpI E (d - 1) M_X11_size [vr x1] G (fun r1 G2 => isO E G2 x2 12 ∧ (wpI E (d - 1) M_X12_size [vr x2] G2 (fun r3 G4 => (r1 = r3 → wp E d M_L_law 2374 [some (vs (eS E).1), some (vr x1), some (vr x2), some (vi x3)] [] G4 Q) ∧ (¬ (r1 = r3) → Q (some (vi 0)) G4)))))) : wp E d M_L_law 2289 [some (vs (eS E).1), some (vr x1), some (vr x2), some (vi x3)] [] G Q := by
  refine wp_aload_n (pc := 2289) d_L_law_2289 rfl ?_
  obtain ⟨ho6, h⟩ := h
  refine wp_invV (pc := 2290) (N := M_X11_size) (As := []) (rest := []) (r := (cn_11, ct_11, 12)) d_L_law_2290 ml_L_273 mk_X11_size mv_X11_size h0 ho6 rfl rfl (Nat.le_of_ble_eq_true rfl) ?_
  refine wpM.mono h (fun rr G2 hr => ?_)
  obtain ⟨r1, rfl, h⟩ := hr
  show wp E d M_L_law 2293 [some (vs (eS E).1), some (vr _), some (vr _), some (vi _)] [vi _] G2 Q
  refine wp_aload_n (pc := 2293) d_L_law_2293 rfl ?_
  obtain ⟨ho5, h⟩ := h
  refine wp_invV (pc := 2294) (N := M_X12_size) (As := []) (rest := [vi _]) (r := (cn_12, ct_12, 95)) d_L_law_2294 ml_L_276 mk_X12_size mv_X12_size h0 ho5 rfl rfl (Nat.le_of_ble_eq_true rfl) ?_
  refine wpM.mono h (fun rr G4 hr => ?_)
  obtain ⟨r3, rfl, h⟩ := hr
  show wp E d M_L_law 2297 [some (vs (eS E).1), some (vr _), some (vr _), some (vi _)] [vi _, vi _] G4 Q
  refine wp_icmp_eq (pc := 2297) (tgt := 2374) d_L_law_2297 (by decide) (fun hc => ?_) (fun hc => ?_)
  · have h := h.1 hc
    refine wp_sub ?_ h
    exact ⟨rfl, ⟨rfl, ⟨rfl, ⟨rfl, trivial⟩⟩⟩⟩
  · have h := h.2 hc
    refine wp_iconst (pc := 2300) (v := 0) d_L_law_2300 rfl ?_
    exact wp_zret (pc := 2301) d_L_law_2301 rfl rfl h
theorem v_L_law_2302 {E : EE} {d : Nat} {Q : Option AV → AH → Prop} {x1 : Nat} {x2 : Nat} {x3 : Int32} {G : AH} (h0 : 0 < d) (h : vp_in (x3 + 1) (eS E).2.1 ∧ (isO E G x1 11 ∧ (wpI E (d - 1) M_X11_byteAt [vr x1, vi ((eS E).2.2 (Int32.toNatClampNeg (x3 + 1)))] G (fun r2 G3 => vp_in (x3 + 1) (eS E).2.1 ∧ (isO E G3 x2 12 ∧ (wpI E (d - 1) M_X12_byteAt [vr x2, vi ((eS E).2.2 (Int32.toNatClampNeg (x3 + 1)))] G3 (fun r5 G6 => (r2 = r5 → wp E d M_L_law 2374 [some (vs (eS E).1), some (vr x1), some (vr x2), some (vi x3)] [] G6 Q) ∧ (¬ (r2 = r5) → Q (some (vi 0)) G6)))))))) : wp E d M_L_law 2302 [some (vs (eS E).1), some (vr x1), some (vr x2), some (vi x3)] [] G Q := by
  refine wp_aload_n (pc := 2302) d_L_law_2302 rfl ?_
  refine wp_aload_nS (pc := 2303) d_L_law_2303 rfl ?_
  refine wp_iload_n (pc := 2304) d_L_law_2304 rfl ?_
  refine wp_iconst (pc := 2305) (v := 1) d_L_law_2305 rfl ?_
  refine wp_iadd (pc := 2306) d_L_law_2306 ?_
  obtain ⟨hi1, h⟩ := h
  refine wp_sld (pc := 2307) d_L_law_2307 hi1 ?_
  obtain ⟨ho8, h⟩ := h
  refine wp_invV (pc := 2308) (N := M_X11_byteAt) (As := [vi _]) (rest := []) (r := (cn_11, ct_11, 12)) d_L_law_2308 ml_L_277 mk_X11_byteAt mv_X11_byteAt h0 ho8 rfl rfl (Nat.le_of_ble_eq_true rfl) ?_
  refine wpM.mono h (fun rr G3 hr => ?_)
  obtain ⟨r2, rfl, h⟩ := hr
  show wp E d M_L_law 2311 [some (vs (eS E).1), some (vr _), some (vr _), some (vi _)] [vi _] G3 Q
  refine wp_aload_n (pc := 2311) d_L_law_2311 rfl ?_
  refine wp_aload_nS (pc := 2312) d_L_law_2312 rfl ?_
  refine wp_iload_n (pc := 2313) d_L_law_2313 rfl ?_
  refine wp_iconst (pc := 2314) (v := 1) d_L_law_2314 rfl ?_
  refine wp_iadd (pc := 2315) d_L_law_2315 ?_
  obtain ⟨hi4, h⟩ := h
  refine wp_sld (pc := 2316) d_L_law_2316 hi4 ?_
  obtain ⟨ho7, h⟩ := h
  refine wp_invV (pc := 2317) (N := M_X12_byteAt) (As := [vi _]) (rest := [vi _]) (r := (cn_12, ct_12, 95)) d_L_law_2317 ml_L_280 mk_X12_byteAt mv_X12_byteAt h0 ho7 rfl rfl (Nat.le_of_ble_eq_true rfl) ?_
  refine wpM.mono h (fun rr G6 hr => ?_)
  obtain ⟨r5, rfl, h⟩ := hr
  show wp E d M_L_law 2320 [some (vs (eS E).1), some (vr _), some (vr _), some (vi _)] [vi _, vi _] G6 Q
  refine wp_icmp_eq (pc := 2320) (tgt := 2374) d_L_law_2320 (by decide) (fun hc => ?_) (fun hc => ?_)
  · have h := h.1 hc
    refine wp_sub ?_ h
    exact ⟨rfl, ⟨rfl, ⟨rfl, ⟨rfl, trivial⟩⟩⟩⟩
  · have h := h.2 hc
    refine wp_iconst (pc := 2323) (v := 0) d_L_law_2323 rfl ?_
    exact wp_zret (pc := 2324) d_L_law_2324 rfl rfl h
theorem v_L_law_2325 {E : EE} {d : Nat} {Q : Option AV → AH → Prop} {x1 : Nat} {x2 : Nat} {x3 : Int32} {G : AH} (h0 : 0 < d) (h : vp_in (x3 + 1) (eS E).2.1 ∧ (isO E G x1 11 ∧ (wpI E (d - 1) M_X11_crash [vr x1, vi ((eS E).2.2 (Int32.toNatClampNeg (x3 + 1)))] G (fun r2 G3 => vp_in (x3 + 1) (eS E).2.1 ∧ (isO E G3 x2 12 ∧ (wpI E (d - 1) M_X12_crash [vr x2, vi ((eS E).2.2 (Int32.toNatClampNeg (x3 + 1)))] G3 (fun r5 G6 => (r2 = r5 → wp E d M_L_law 2374 [some (vs (eS E).1), some (vr x1), some (vr x2), some (vi x3)] [] G6 Q) ∧ (¬ (r2 = r5) → Q (some (vi 0)) G6)))))))) : wp E d M_L_law 2325 [some (vs (eS E).1), some (vr x1), some (vr x2), some (vi x3)] [] G Q := by
  refine wp_aload_n (pc := 2325) d_L_law_2325 rfl ?_
  refine wp_aload_nS (pc := 2326) d_L_law_2326 rfl ?_
  refine wp_iload_n (pc := 2327) d_L_law_2327 rfl ?_
  refine wp_iconst (pc := 2328) (v := 1) d_L_law_2328 rfl ?_
  refine wp_iadd (pc := 2329) d_L_law_2329 ?_
  obtain ⟨hi1, h⟩ := h
  refine wp_sld (pc := 2330) d_L_law_2330 hi1 ?_
  obtain ⟨ho8, h⟩ := h
  refine wp_invV (pc := 2331) (N := M_X11_crash) (As := [vi _]) (rest := []) (r := (cn_11, ct_11, 12)) d_L_law_2331 ml_L_281 mk_X11_crash mv_X11_crash h0 ho8 rfl rfl (Nat.le_of_ble_eq_true rfl) ?_
  refine wpM.mono h (fun rr G3 hr => ?_)
  obtain ⟨r2, rfl, h⟩ := hr
  show wp E d M_L_law 2334 [some (vs (eS E).1), some (vr _), some (vr _), some (vi _)] [vi _] G3 Q
  refine wp_aload_n (pc := 2334) d_L_law_2334 rfl ?_
  refine wp_aload_nS (pc := 2335) d_L_law_2335 rfl ?_
  refine wp_iload_n (pc := 2336) d_L_law_2336 rfl ?_
  refine wp_iconst (pc := 2337) (v := 1) d_L_law_2337 rfl ?_
  refine wp_iadd (pc := 2338) d_L_law_2338 ?_
  obtain ⟨hi4, h⟩ := h
  refine wp_sld (pc := 2339) d_L_law_2339 hi4 ?_
  obtain ⟨ho7, h⟩ := h
  refine wp_invV (pc := 2340) (N := M_X12_crash) (As := [vi _]) (rest := [vi _]) (r := (cn_12, ct_12, 95)) d_L_law_2340 ml_L_284 mk_X12_crash mv_X12_crash h0 ho7 rfl rfl (Nat.le_of_ble_eq_true rfl) ?_
  refine wpM.mono h (fun rr G6 hr => ?_)
  obtain ⟨r5, rfl, h⟩ := hr
  show wp E d M_L_law 2343 [some (vs (eS E).1), some (vr _), some (vr _), some (vi _)] [vi _, vi _] G6 Q
  refine wp_icmp_eq (pc := 2343) (tgt := 2374) d_L_law_2343 (by decide) (fun hc => ?_) (fun hc => ?_)
  · have h := h.1 hc
    refine wp_sub ?_ h
    exact ⟨rfl, ⟨rfl, ⟨rfl, ⟨rfl, trivial⟩⟩⟩⟩
  · have h := h.2 hc
    refine wp_iconst (pc := 2346) (v := 0) d_L_law_2346 rfl ?_
    exact wp_zret (pc := 2347) d_L_law_2347 rfl rfl h
theorem v_L_law_2348 {E : EE} {d : Nat} {Q : Option AV → AH → Prop} {x1 : Nat} {x2 : Nat} {x3 : Int32} {G : AH} (h0 : 0 < d) (h : isO E G x1 11 ∧ (wpI E (d - 1) M_X11_take [vr x1] G (fun r1 G2 => isO E G2 x2 12 ∧ (wpI E (d - 1) M_X12_take [vr x2] G2 (fun r3 G4 => (r1 = r3 → wp E d M_L_law 2374 [some (vs (eS E).1), some (vr x1), some (vr x2), some (vi x3)] [] G4 Q) ∧ (¬ (r1 = r3) → Q (some (vi 0)) G4)))))) : wp E d M_L_law 2348 [some (vs (eS E).1), some (vr x1), some (vr x2), some (vi x3)] [] G Q := by
  refine wp_aload_n (pc := 2348) d_L_law_2348 rfl ?_
  obtain ⟨ho6, h⟩ := h
  refine wp_invV (pc := 2349) (N := M_X11_take) (As := []) (rest := []) (r := (cn_11, ct_11, 12)) d_L_law_2349 ml_L_285 mk_X11_take mv_X11_take h0 ho6 rfl rfl (Nat.le_of_ble_eq_true rfl) ?_
  refine wpM.mono h (fun rr G2 hr => ?_)
  obtain ⟨r1, rfl, h⟩ := hr
  show wp E d M_L_law 2352 [some (vs (eS E).1), some (vr _), some (vr _), some (vi _)] [vi _] G2 Q
  refine wp_aload_n (pc := 2352) d_L_law_2352 rfl ?_
  obtain ⟨ho5, h⟩ := h
  refine wp_invV (pc := 2353) (N := M_X12_take) (As := []) (rest := [vi _]) (r := (cn_12, ct_12, 95)) d_L_law_2353 ml_L_288 mk_X12_take mv_X12_take h0 ho5 rfl rfl (Nat.le_of_ble_eq_true rfl) ?_
  refine wpM.mono h (fun rr G4 hr => ?_)
  obtain ⟨r3, rfl, h⟩ := hr
  show wp E d M_L_law 2356 [some (vs (eS E).1), some (vr _), some (vr _), some (vi _)] [vi _, vi _] G4 Q
  refine wp_icmp_eq (pc := 2356) (tgt := 2374) d_L_law_2356 (by decide) (fun hc => ?_) (fun hc => ?_)
  · have h := h.1 hc
    refine wp_sub ?_ h
    exact ⟨rfl, ⟨rfl, ⟨rfl, ⟨rfl, trivial⟩⟩⟩⟩
  · have h := h.2 hc
    refine wp_iconst (pc := 2359) (v := 0) d_L_law_2359 rfl ?_
    exact wp_zret (pc := 2360) d_L_law_2360 rfl rfl h
theorem v_L_law_2361 {E : EE} {d : Nat} {Q : Option AV → AH → Prop} {x1 : Nat} {x2 : Nat} {x3 : Int32} {G : AH} (h0 : 0 < d) (h : isO E G x1 11 ∧ (wpI E (d - 1) M_X11_bring [vr x1] G (fun r1 G2 => isO E G2 x2 12 ∧ (wpI E (d - 1) M_X12_bring [vr x2] G2 (fun r3 G4 => (r1 = r3 → wp E d M_L_law 2374 [some (vs (eS E).1), some (vr x1), some (vr x2), some (vi x3)] [] G4 Q) ∧ (¬ (r1 = r3) → Q (some (vi 0)) G4)))))) : wp E d M_L_law 2361 [some (vs (eS E).1), some (vr x1), some (vr x2), some (vi x3)] [] G Q := by
  refine wp_aload_n (pc := 2361) d_L_law_2361 rfl ?_
  obtain ⟨ho6, h⟩ := h
  refine wp_invV (pc := 2362) (N := M_X11_bring) (As := []) (rest := []) (r := (cn_11, ct_11, 12)) d_L_law_2362 ml_L_289 mk_X11_bring mv_X11_bring h0 ho6 rfl rfl (Nat.le_of_ble_eq_true rfl) ?_
  refine wpM.mono h (fun rr G2 hr => ?_)
  obtain ⟨r1, rfl, h⟩ := hr
  show wp E d M_L_law 2365 [some (vs (eS E).1), some (vr _), some (vr _), some (vi _)] [vi _] G2 Q
  refine wp_aload_n (pc := 2365) d_L_law_2365 rfl ?_
  obtain ⟨ho5, h⟩ := h
  refine wp_invV (pc := 2366) (N := M_X12_bring) (As := []) (rest := [vi _]) (r := (cn_12, ct_12, 95)) d_L_law_2366 ml_L_292 mk_X12_bring mv_X12_bring h0 ho5 rfl rfl (Nat.le_of_ble_eq_true rfl) ?_
  refine wpM.mono h (fun rr G4 hr => ?_)
  obtain ⟨r3, rfl, h⟩ := hr
  show wp E d M_L_law 2369 [some (vs (eS E).1), some (vr _), some (vr _), some (vi _)] [vi _, vi _] G4 Q
  refine wp_icmp_eq (pc := 2369) (tgt := 2374) d_L_law_2369 (by decide) (fun hc => ?_) (fun hc => ?_)
  · have h := h.1 hc
    refine wp_sub ?_ h
    exact ⟨rfl, ⟨rfl, ⟨rfl, ⟨rfl, trivial⟩⟩⟩⟩
  · have h := h.2 hc
    refine wp_iconst (pc := 2372) (v := 0) d_L_law_2372 rfl ?_
    exact wp_zret (pc := 2373) d_L_law_2373 rfl rfl h
theorem v_L_law_2374 {E : EE} {d : Nat} {Q : Option AV → AH → Prop} {x1 : Nat} {x2 : Nat} {x3 : Int32} {G : AH} (h : wp E d M_L_law 18 [some (vs (eS E).1), some (vr x1), some (vr x2), some (vi (x3 + 6))] [] G Q) : wp E d M_L_law 2374 [some (vs (eS E).1), some (vr x1), some (vr x2), some (vi x3)] [] G Q := by
  refine wp_iinc (pc := 2374) (v := 6) (lv' := [some (vs (eS E).1), some (vr _), some (vr _), some (vi _)]) d_L_law_2374 (by decide) rfl rfl rfl ?_
  refine wp_goto (pc := 2377) (tgt := 18) d_L_law_2377 (by decide) ?_
  refine wp_sub ?_ h
  exact ⟨rfl, ⟨rfl, ⟨rfl, ⟨rfl, trivial⟩⟩⟩⟩

