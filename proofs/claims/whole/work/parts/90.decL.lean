theorem dL_law_0 : decode cL_law 0 = .ok (.new 7, 3) := by decide +kernel
theorem dL_law_3 : decode cL_law 3 = .ok (.dup, 1) := by decide +kernel
theorem dL_law_4 : decode cL_law 4 = .ok (.invokespecial 9, 3) := by decide +kernel
theorem dL_law_7 : decode cL_law 7 = .ok (.astore_n 1, 1) := by decide +kernel
theorem dL_law_8 : decode cL_law 8 = .ok (.new 10, 3) := by decide +kernel
theorem dL_law_11 : decode cL_law 11 = .ok (.dup, 1) := by decide +kernel
theorem dL_law_12 : decode cL_law 12 = .ok (.invokespecial 12, 3) := by decide +kernel
theorem dL_law_15 : decode cL_law 15 = .ok (.astore_n 2, 1) := by decide +kernel
theorem dL_law_16 : decode cL_law 16 = .ok (.iconst 0, 1) := by decide +kernel
theorem dL_law_17 : decode cL_law 17 = .ok (.istore_n 3, 1) := by decide +kernel
theorem dL_law_18 : decode cL_law 18 = .ok (.iload_n 3, 1) := by decide +kernel
theorem dL_law_19 : decode cL_law 19 = .ok (.aload_n 0, 1) := by decide +kernel
theorem dL_law_20 : decode cL_law 20 = .ok (.arraylength, 1) := by decide +kernel
theorem dL_law_21 : decode cL_law 21 = .ok (.bipush 6, 2) := by decide +kernel
theorem dL_law_23 : decode cL_law 23 = .ok (.isub, 1) := by decide +kernel
theorem dL_law_24 : decode cL_law 24 = .ok (.if_icmp .gt 2422, 3) := by decide +kernel
theorem dL_law_27 : decode cL_law 27 = .ok (.aload_n 0, 1) := by decide +kernel
theorem dL_law_28 : decode cL_law 28 = .ok (.iload_n 3, 1) := by decide +kernel
theorem dL_law_29 : decode cL_law 29 = .ok (.iaload, 1) := by decide +kernel
theorem dL_law_30 : decode cL_law 30 = .ok (.bipush 127, 2) := by decide +kernel
theorem dL_law_32 : decode cL_law 32 = .ok (.iand, 1) := by decide +kernel
theorem dL_law_33 : decode cL_law 33 = .ok (.tableswitch 2407 0 75 #[319, 382, 405, 418, 441, 474, 517, 550, 583, 616, 649, 682, 715, 748, 781, 804, 837, 860, 893, 916, 939, 962, 975, 988, 1021, 1054, 1077, 1110, 1143, 1166, 1179, 1202, 1225, 1248, 1281, 1314, 1337, 1360, 1373, 1386, 1409, 1422, 1435, 1448, 1461, 1484, 1507, 1520, 1553, 1606, 1649, 1672, 1685, 1698, 1731, 1754, 1777, 1800, 1823, 1846, 1859, 1892, 1915, 1938, 1981, 2034, 2047, 2060, 2093, 2136, 2159, 2182, 2205, 2228, 2271, 2344], 319) := by decide +kernel
theorem dL_law_352 : decode cL_law 352 = .ok (.aload_n 1, 1) := by decide +kernel
theorem dL_law_353 : decode cL_law 353 = .ok (.aload_n 0, 1) := by decide +kernel
theorem dL_law_354 : decode cL_law 354 = .ok (.iload_n 3, 1) := by decide +kernel
theorem dL_law_355 : decode cL_law 355 = .ok (.iconst 1, 1) := by decide +kernel
theorem dL_law_356 : decode cL_law 356 = .ok (.iadd, 1) := by decide +kernel
theorem dL_law_357 : decode cL_law 357 = .ok (.iaload, 1) := by decide +kernel
theorem dL_law_358 : decode cL_law 358 = .ok (.aload_n 0, 1) := by decide +kernel
theorem dL_law_359 : decode cL_law 359 = .ok (.iload_n 3, 1) := by decide +kernel
theorem dL_law_360 : decode cL_law 360 = .ok (.iconst 2, 1) := by decide +kernel
theorem dL_law_361 : decode cL_law 361 = .ok (.iadd, 1) := by decide +kernel
theorem dL_law_362 : decode cL_law 362 = .ok (.iaload, 1) := by decide +kernel
theorem dL_law_363 : decode cL_law 363 = .ok (.aload_n 0, 1) := by decide +kernel
theorem dL_law_364 : decode cL_law 364 = .ok (.iload_n 3, 1) := by decide +kernel
theorem dL_law_365 : decode cL_law 365 = .ok (.iconst 3, 1) := by decide +kernel
theorem dL_law_366 : decode cL_law 366 = .ok (.iadd, 1) := by decide +kernel
theorem dL_law_367 : decode cL_law 367 = .ok (.iaload, 1) := by decide +kernel
theorem dL_law_368 : decode cL_law 368 = .ok (.aload_n 0, 1) := by decide +kernel
theorem dL_law_369 : decode cL_law 369 = .ok (.iload_n 3, 1) := by decide +kernel
theorem dL_law_370 : decode cL_law 370 = .ok (.iconst 4, 1) := by decide +kernel
theorem dL_law_371 : decode cL_law 371 = .ok (.iadd, 1) := by decide +kernel
theorem dL_law_372 : decode cL_law 372 = .ok (.iaload, 1) := by decide +kernel
theorem dL_law_373 : decode cL_law 373 = .ok (.aload_n 0, 1) := by decide +kernel
theorem dL_law_374 : decode cL_law 374 = .ok (.iload_n 3, 1) := by decide +kernel
theorem dL_law_375 : decode cL_law 375 = .ok (.iconst 5, 1) := by decide +kernel
theorem dL_law_376 : decode cL_law 376 = .ok (.iadd, 1) := by decide +kernel
theorem dL_law_377 : decode cL_law 377 = .ok (.iaload, 1) := by decide +kernel
theorem dL_law_378 : decode cL_law 378 = .ok (.invokevirtual 13, 3) := by decide +kernel
theorem dL_law_381 : decode cL_law 381 = .ok (.aload_n 2, 1) := by decide +kernel
theorem dL_law_382 : decode cL_law 382 = .ok (.aload_n 0, 1) := by decide +kernel
theorem dL_law_383 : decode cL_law 383 = .ok (.iload_n 3, 1) := by decide +kernel
theorem dL_law_384 : decode cL_law 384 = .ok (.iconst 1, 1) := by decide +kernel
theorem dL_law_385 : decode cL_law 385 = .ok (.iadd, 1) := by decide +kernel
theorem dL_law_386 : decode cL_law 386 = .ok (.iaload, 1) := by decide +kernel
theorem dL_law_387 : decode cL_law 387 = .ok (.aload_n 0, 1) := by decide +kernel
theorem dL_law_388 : decode cL_law 388 = .ok (.iload_n 3, 1) := by decide +kernel
theorem dL_law_389 : decode cL_law 389 = .ok (.iconst 2, 1) := by decide +kernel
theorem dL_law_390 : decode cL_law 390 = .ok (.iadd, 1) := by decide +kernel
theorem dL_law_391 : decode cL_law 391 = .ok (.iaload, 1) := by decide +kernel
theorem dL_law_392 : decode cL_law 392 = .ok (.aload_n 0, 1) := by decide +kernel
theorem dL_law_393 : decode cL_law 393 = .ok (.iload_n 3, 1) := by decide +kernel
theorem dL_law_394 : decode cL_law 394 = .ok (.iconst 3, 1) := by decide +kernel
theorem dL_law_395 : decode cL_law 395 = .ok (.iadd, 1) := by decide +kernel
theorem dL_law_396 : decode cL_law 396 = .ok (.iaload, 1) := by decide +kernel
theorem dL_law_397 : decode cL_law 397 = .ok (.aload_n 0, 1) := by decide +kernel
theorem dL_law_398 : decode cL_law 398 = .ok (.iload_n 3, 1) := by decide +kernel
theorem dL_law_399 : decode cL_law 399 = .ok (.iconst 4, 1) := by decide +kernel
theorem dL_law_400 : decode cL_law 400 = .ok (.iadd, 1) := by decide +kernel
theorem dL_law_401 : decode cL_law 401 = .ok (.iaload, 1) := by decide +kernel
theorem dL_law_402 : decode cL_law 402 = .ok (.aload_n 0, 1) := by decide +kernel
theorem dL_law_403 : decode cL_law 403 = .ok (.iload_n 3, 1) := by decide +kernel
theorem dL_law_404 : decode cL_law 404 = .ok (.iconst 5, 1) := by decide +kernel
theorem dL_law_405 : decode cL_law 405 = .ok (.iadd, 1) := by decide +kernel
theorem dL_law_406 : decode cL_law 406 = .ok (.iaload, 1) := by decide +kernel
theorem dL_law_407 : decode cL_law 407 = .ok (.invokevirtual 17, 3) := by decide +kernel
theorem dL_law_410 : decode cL_law 410 = .ok (.if_icmp .eq 2030, 3) := by decide +kernel
theorem dL_law_413 : decode cL_law 413 = .ok (.iconst 0, 1) := by decide +kernel
theorem dL_law_414 : decode cL_law 414 = .ok (.ireturn, 1) := by decide +kernel
theorem dL_law_415 : decode cL_law 415 = .ok (.aload_n 1, 1) := by decide +kernel
theorem dL_law_416 : decode cL_law 416 = .ok (.aload_n 0, 1) := by decide +kernel
theorem dL_law_417 : decode cL_law 417 = .ok (.iload_n 3, 1) := by decide +kernel
theorem dL_law_418 : decode cL_law 418 = .ok (.iconst 1, 1) := by decide +kernel
theorem dL_law_419 : decode cL_law 419 = .ok (.iadd, 1) := by decide +kernel
theorem dL_law_420 : decode cL_law 420 = .ok (.iaload, 1) := by decide +kernel
theorem dL_law_421 : decode cL_law 421 = .ok (.invokevirtual 18, 3) := by decide +kernel
theorem dL_law_424 : decode cL_law 424 = .ok (.aload_n 2, 1) := by decide +kernel
theorem dL_law_425 : decode cL_law 425 = .ok (.aload_n 0, 1) := by decide +kernel
theorem dL_law_426 : decode cL_law 426 = .ok (.iload_n 3, 1) := by decide +kernel
theorem dL_law_427 : decode cL_law 427 = .ok (.iconst 1, 1) := by decide +kernel
theorem dL_law_428 : decode cL_law 428 = .ok (.iadd, 1) := by decide +kernel
theorem dL_law_429 : decode cL_law 429 = .ok (.iaload, 1) := by decide +kernel
theorem dL_law_430 : decode cL_law 430 = .ok (.invokevirtual 22, 3) := by decide +kernel
theorem dL_law_433 : decode cL_law 433 = .ok (.if_icmp .eq 2007, 3) := by decide +kernel
theorem dL_law_436 : decode cL_law 436 = .ok (.iconst 0, 1) := by decide +kernel
theorem dL_law_437 : decode cL_law 437 = .ok (.ireturn, 1) := by decide +kernel
theorem dL_law_438 : decode cL_law 438 = .ok (.aload_n 1, 1) := by decide +kernel
theorem dL_law_439 : decode cL_law 439 = .ok (.invokevirtual 23, 3) := by decide +kernel
theorem dL_law_442 : decode cL_law 442 = .ok (.aload_n 2, 1) := by decide +kernel
theorem dL_law_443 : decode cL_law 443 = .ok (.invokevirtual 27, 3) := by decide +kernel
theorem dL_law_446 : decode cL_law 446 = .ok (.if_icmp .eq 1994, 3) := by decide +kernel
theorem dL_law_449 : decode cL_law 449 = .ok (.iconst 0, 1) := by decide +kernel
theorem dL_law_450 : decode cL_law 450 = .ok (.ireturn, 1) := by decide +kernel
theorem dL_law_451 : decode cL_law 451 = .ok (.aload_n 1, 1) := by decide +kernel
theorem dL_law_452 : decode cL_law 452 = .ok (.aload_n 0, 1) := by decide +kernel
theorem dL_law_453 : decode cL_law 453 = .ok (.iload_n 3, 1) := by decide +kernel
theorem dL_law_454 : decode cL_law 454 = .ok (.iconst 1, 1) := by decide +kernel
theorem dL_law_455 : decode cL_law 455 = .ok (.iadd, 1) := by decide +kernel
theorem dL_law_456 : decode cL_law 456 = .ok (.iaload, 1) := by decide +kernel
theorem dL_law_457 : decode cL_law 457 = .ok (.invokevirtual 28, 3) := by decide +kernel
theorem dL_law_460 : decode cL_law 460 = .ok (.aload_n 2, 1) := by decide +kernel
theorem dL_law_461 : decode cL_law 461 = .ok (.aload_n 0, 1) := by decide +kernel
theorem dL_law_462 : decode cL_law 462 = .ok (.iload_n 3, 1) := by decide +kernel
theorem dL_law_463 : decode cL_law 463 = .ok (.iconst 1, 1) := by decide +kernel
theorem dL_law_464 : decode cL_law 464 = .ok (.iadd, 1) := by decide +kernel
theorem dL_law_465 : decode cL_law 465 = .ok (.iaload, 1) := by decide +kernel
theorem dL_law_466 : decode cL_law 466 = .ok (.invokevirtual 31, 3) := by decide +kernel
theorem dL_law_469 : decode cL_law 469 = .ok (.if_icmp .eq 1971, 3) := by decide +kernel
theorem dL_law_472 : decode cL_law 472 = .ok (.iconst 0, 1) := by decide +kernel
theorem dL_law_473 : decode cL_law 473 = .ok (.ireturn, 1) := by decide +kernel
theorem dL_law_474 : decode cL_law 474 = .ok (.aload_n 1, 1) := by decide +kernel
theorem dL_law_475 : decode cL_law 475 = .ok (.aload_n 0, 1) := by decide +kernel
theorem dL_law_476 : decode cL_law 476 = .ok (.iload_n 3, 1) := by decide +kernel
theorem dL_law_477 : decode cL_law 477 = .ok (.iconst 1, 1) := by decide +kernel
theorem dL_law_478 : decode cL_law 478 = .ok (.iadd, 1) := by decide +kernel
theorem dL_law_479 : decode cL_law 479 = .ok (.iaload, 1) := by decide +kernel
theorem dL_law_480 : decode cL_law 480 = .ok (.aload_n 0, 1) := by decide +kernel
theorem dL_law_481 : decode cL_law 481 = .ok (.iload_n 3, 1) := by decide +kernel
theorem dL_law_482 : decode cL_law 482 = .ok (.iconst 2, 1) := by decide +kernel
theorem dL_law_483 : decode cL_law 483 = .ok (.iadd, 1) := by decide +kernel
theorem dL_law_484 : decode cL_law 484 = .ok (.iaload, 1) := by decide +kernel
theorem dL_law_485 : decode cL_law 485 = .ok (.invokevirtual 32, 3) := by decide +kernel
theorem dL_law_488 : decode cL_law 488 = .ok (.aload_n 2, 1) := by decide +kernel
theorem dL_law_489 : decode cL_law 489 = .ok (.aload_n 0, 1) := by decide +kernel
theorem dL_law_490 : decode cL_law 490 = .ok (.iload_n 3, 1) := by decide +kernel
theorem dL_law_491 : decode cL_law 491 = .ok (.iconst 1, 1) := by decide +kernel
theorem dL_law_492 : decode cL_law 492 = .ok (.iadd, 1) := by decide +kernel
theorem dL_law_493 : decode cL_law 493 = .ok (.iaload, 1) := by decide +kernel
theorem dL_law_494 : decode cL_law 494 = .ok (.aload_n 0, 1) := by decide +kernel
theorem dL_law_495 : decode cL_law 495 = .ok (.iload_n 3, 1) := by decide +kernel
theorem dL_law_496 : decode cL_law 496 = .ok (.iconst 2, 1) := by decide +kernel
theorem dL_law_497 : decode cL_law 497 = .ok (.iadd, 1) := by decide +kernel
theorem dL_law_498 : decode cL_law 498 = .ok (.iaload, 1) := by decide +kernel
theorem dL_law_499 : decode cL_law 499 = .ok (.invokevirtual 36, 3) := by decide +kernel
theorem dL_law_502 : decode cL_law 502 = .ok (.if_icmp .eq 1938, 3) := by decide +kernel
theorem dL_law_505 : decode cL_law 505 = .ok (.iconst 0, 1) := by decide +kernel
theorem dL_law_506 : decode cL_law 506 = .ok (.ireturn, 1) := by decide +kernel
theorem dL_law_507 : decode cL_law 507 = .ok (.aload_n 1, 1) := by decide +kernel
theorem dL_law_508 : decode cL_law 508 = .ok (.aload_n 0, 1) := by decide +kernel
theorem dL_law_509 : decode cL_law 509 = .ok (.iload_n 3, 1) := by decide +kernel
theorem dL_law_510 : decode cL_law 510 = .ok (.iconst 1, 1) := by decide +kernel
theorem dL_law_511 : decode cL_law 511 = .ok (.iadd, 1) := by decide +kernel
theorem dL_law_512 : decode cL_law 512 = .ok (.iaload, 1) := by decide +kernel
theorem dL_law_513 : decode cL_law 513 = .ok (.aload_n 0, 1) := by decide +kernel
theorem dL_law_514 : decode cL_law 514 = .ok (.iload_n 3, 1) := by decide +kernel
theorem dL_law_515 : decode cL_law 515 = .ok (.iconst 2, 1) := by decide +kernel
theorem dL_law_516 : decode cL_law 516 = .ok (.iadd, 1) := by decide +kernel
theorem dL_law_517 : decode cL_law 517 = .ok (.iaload, 1) := by decide +kernel
theorem dL_law_518 : decode cL_law 518 = .ok (.aload_n 0, 1) := by decide +kernel
theorem dL_law_519 : decode cL_law 519 = .ok (.iload_n 3, 1) := by decide +kernel
theorem dL_law_520 : decode cL_law 520 = .ok (.iconst 3, 1) := by decide +kernel
theorem dL_law_521 : decode cL_law 521 = .ok (.iadd, 1) := by decide +kernel
theorem dL_law_522 : decode cL_law 522 = .ok (.iaload, 1) := by decide +kernel
theorem dL_law_523 : decode cL_law 523 = .ok (.invokevirtual 37, 3) := by decide +kernel
theorem dL_law_526 : decode cL_law 526 = .ok (.aload_n 2, 1) := by decide +kernel
theorem dL_law_527 : decode cL_law 527 = .ok (.aload_n 0, 1) := by decide +kernel
theorem dL_law_528 : decode cL_law 528 = .ok (.iload_n 3, 1) := by decide +kernel
theorem dL_law_529 : decode cL_law 529 = .ok (.iconst 1, 1) := by decide +kernel
theorem dL_law_530 : decode cL_law 530 = .ok (.iadd, 1) := by decide +kernel
theorem dL_law_531 : decode cL_law 531 = .ok (.iaload, 1) := by decide +kernel
theorem dL_law_532 : decode cL_law 532 = .ok (.aload_n 0, 1) := by decide +kernel
theorem dL_law_533 : decode cL_law 533 = .ok (.iload_n 3, 1) := by decide +kernel
theorem dL_law_534 : decode cL_law 534 = .ok (.iconst 2, 1) := by decide +kernel
theorem dL_law_535 : decode cL_law 535 = .ok (.iadd, 1) := by decide +kernel
theorem dL_law_536 : decode cL_law 536 = .ok (.iaload, 1) := by decide +kernel
theorem dL_law_537 : decode cL_law 537 = .ok (.aload_n 0, 1) := by decide +kernel
theorem dL_law_538 : decode cL_law 538 = .ok (.iload_n 3, 1) := by decide +kernel
theorem dL_law_539 : decode cL_law 539 = .ok (.iconst 3, 1) := by decide +kernel
theorem dL_law_540 : decode cL_law 540 = .ok (.iadd, 1) := by decide +kernel
theorem dL_law_541 : decode cL_law 541 = .ok (.iaload, 1) := by decide +kernel
theorem dL_law_542 : decode cL_law 542 = .ok (.invokevirtual 41, 3) := by decide +kernel
theorem dL_law_545 : decode cL_law 545 = .ok (.if_icmp .eq 1895, 3) := by decide +kernel
theorem dL_law_548 : decode cL_law 548 = .ok (.iconst 0, 1) := by decide +kernel
theorem dL_law_549 : decode cL_law 549 = .ok (.ireturn, 1) := by decide +kernel
theorem dL_law_550 : decode cL_law 550 = .ok (.aload_n 1, 1) := by decide +kernel
theorem dL_law_551 : decode cL_law 551 = .ok (.aload_n 0, 1) := by decide +kernel
theorem dL_law_552 : decode cL_law 552 = .ok (.iload_n 3, 1) := by decide +kernel
theorem dL_law_553 : decode cL_law 553 = .ok (.iconst 1, 1) := by decide +kernel
theorem dL_law_554 : decode cL_law 554 = .ok (.iadd, 1) := by decide +kernel
theorem dL_law_555 : decode cL_law 555 = .ok (.iaload, 1) := by decide +kernel
theorem dL_law_556 : decode cL_law 556 = .ok (.aload_n 0, 1) := by decide +kernel
theorem dL_law_557 : decode cL_law 557 = .ok (.iload_n 3, 1) := by decide +kernel
theorem dL_law_558 : decode cL_law 558 = .ok (.iconst 2, 1) := by decide +kernel
theorem dL_law_559 : decode cL_law 559 = .ok (.iadd, 1) := by decide +kernel
theorem dL_law_560 : decode cL_law 560 = .ok (.iaload, 1) := by decide +kernel
theorem dL_law_561 : decode cL_law 561 = .ok (.invokevirtual 42, 3) := by decide +kernel
theorem dL_law_564 : decode cL_law 564 = .ok (.aload_n 2, 1) := by decide +kernel
theorem dL_law_565 : decode cL_law 565 = .ok (.aload_n 0, 1) := by decide +kernel
theorem dL_law_566 : decode cL_law 566 = .ok (.iload_n 3, 1) := by decide +kernel
theorem dL_law_567 : decode cL_law 567 = .ok (.iconst 1, 1) := by decide +kernel
theorem dL_law_568 : decode cL_law 568 = .ok (.iadd, 1) := by decide +kernel
theorem dL_law_569 : decode cL_law 569 = .ok (.iaload, 1) := by decide +kernel
theorem dL_law_570 : decode cL_law 570 = .ok (.aload_n 0, 1) := by decide +kernel
theorem dL_law_571 : decode cL_law 571 = .ok (.iload_n 3, 1) := by decide +kernel
theorem dL_law_572 : decode cL_law 572 = .ok (.iconst 2, 1) := by decide +kernel
theorem dL_law_573 : decode cL_law 573 = .ok (.iadd, 1) := by decide +kernel
theorem dL_law_574 : decode cL_law 574 = .ok (.iaload, 1) := by decide +kernel
theorem dL_law_575 : decode cL_law 575 = .ok (.invokevirtual 45, 3) := by decide +kernel
theorem dL_law_578 : decode cL_law 578 = .ok (.if_icmp .eq 1862, 3) := by decide +kernel
theorem dL_law_581 : decode cL_law 581 = .ok (.iconst 0, 1) := by decide +kernel
theorem dL_law_582 : decode cL_law 582 = .ok (.ireturn, 1) := by decide +kernel
theorem dL_law_583 : decode cL_law 583 = .ok (.aload_n 1, 1) := by decide +kernel
theorem dL_law_584 : decode cL_law 584 = .ok (.aload_n 0, 1) := by decide +kernel
theorem dL_law_585 : decode cL_law 585 = .ok (.iload_n 3, 1) := by decide +kernel
theorem dL_law_586 : decode cL_law 586 = .ok (.iconst 1, 1) := by decide +kernel
theorem dL_law_587 : decode cL_law 587 = .ok (.iadd, 1) := by decide +kernel
theorem dL_law_588 : decode cL_law 588 = .ok (.iaload, 1) := by decide +kernel
theorem dL_law_589 : decode cL_law 589 = .ok (.aload_n 0, 1) := by decide +kernel
theorem dL_law_590 : decode cL_law 590 = .ok (.iload_n 3, 1) := by decide +kernel
theorem dL_law_591 : decode cL_law 591 = .ok (.iconst 2, 1) := by decide +kernel
theorem dL_law_592 : decode cL_law 592 = .ok (.iadd, 1) := by decide +kernel
theorem dL_law_593 : decode cL_law 593 = .ok (.iaload, 1) := by decide +kernel
theorem dL_law_594 : decode cL_law 594 = .ok (.invokevirtual 46, 3) := by decide +kernel
theorem dL_law_597 : decode cL_law 597 = .ok (.aload_n 2, 1) := by decide +kernel
theorem dL_law_598 : decode cL_law 598 = .ok (.aload_n 0, 1) := by decide +kernel
theorem dL_law_599 : decode cL_law 599 = .ok (.iload_n 3, 1) := by decide +kernel
theorem dL_law_600 : decode cL_law 600 = .ok (.iconst 1, 1) := by decide +kernel
theorem dL_law_601 : decode cL_law 601 = .ok (.iadd, 1) := by decide +kernel
theorem dL_law_602 : decode cL_law 602 = .ok (.iaload, 1) := by decide +kernel
theorem dL_law_603 : decode cL_law 603 = .ok (.aload_n 0, 1) := by decide +kernel
theorem dL_law_604 : decode cL_law 604 = .ok (.iload_n 3, 1) := by decide +kernel
theorem dL_law_605 : decode cL_law 605 = .ok (.iconst 2, 1) := by decide +kernel
theorem dL_law_606 : decode cL_law 606 = .ok (.iadd, 1) := by decide +kernel
theorem dL_law_607 : decode cL_law 607 = .ok (.iaload, 1) := by decide +kernel
theorem dL_law_608 : decode cL_law 608 = .ok (.invokevirtual 49, 3) := by decide +kernel
theorem dL_law_611 : decode cL_law 611 = .ok (.if_icmp .eq 1829, 3) := by decide +kernel
theorem dL_law_614 : decode cL_law 614 = .ok (.iconst 0, 1) := by decide +kernel
theorem dL_law_615 : decode cL_law 615 = .ok (.ireturn, 1) := by decide +kernel
theorem dL_law_616 : decode cL_law 616 = .ok (.aload_n 1, 1) := by decide +kernel
theorem dL_law_617 : decode cL_law 617 = .ok (.aload_n 0, 1) := by decide +kernel
theorem dL_law_618 : decode cL_law 618 = .ok (.iload_n 3, 1) := by decide +kernel
theorem dL_law_619 : decode cL_law 619 = .ok (.iconst 1, 1) := by decide +kernel
theorem dL_law_620 : decode cL_law 620 = .ok (.iadd, 1) := by decide +kernel
theorem dL_law_621 : decode cL_law 621 = .ok (.iaload, 1) := by decide +kernel
theorem dL_law_622 : decode cL_law 622 = .ok (.aload_n 0, 1) := by decide +kernel
theorem dL_law_623 : decode cL_law 623 = .ok (.iload_n 3, 1) := by decide +kernel
theorem dL_law_624 : decode cL_law 624 = .ok (.iconst 2, 1) := by decide +kernel
theorem dL_law_625 : decode cL_law 625 = .ok (.iadd, 1) := by decide +kernel
theorem dL_law_626 : decode cL_law 626 = .ok (.iaload, 1) := by decide +kernel
theorem dL_law_627 : decode cL_law 627 = .ok (.invokevirtual 50, 3) := by decide +kernel
theorem dL_law_630 : decode cL_law 630 = .ok (.aload_n 2, 1) := by decide +kernel
theorem dL_law_631 : decode cL_law 631 = .ok (.aload_n 0, 1) := by decide +kernel
theorem dL_law_632 : decode cL_law 632 = .ok (.iload_n 3, 1) := by decide +kernel
theorem dL_law_633 : decode cL_law 633 = .ok (.iconst 1, 1) := by decide +kernel
theorem dL_law_634 : decode cL_law 634 = .ok (.iadd, 1) := by decide +kernel
theorem dL_law_635 : decode cL_law 635 = .ok (.iaload, 1) := by decide +kernel
theorem dL_law_636 : decode cL_law 636 = .ok (.aload_n 0, 1) := by decide +kernel
theorem dL_law_637 : decode cL_law 637 = .ok (.iload_n 3, 1) := by decide +kernel
theorem dL_law_638 : decode cL_law 638 = .ok (.iconst 2, 1) := by decide +kernel
theorem dL_law_639 : decode cL_law 639 = .ok (.iadd, 1) := by decide +kernel
theorem dL_law_640 : decode cL_law 640 = .ok (.iaload, 1) := by decide +kernel
theorem dL_law_641 : decode cL_law 641 = .ok (.invokevirtual 53, 3) := by decide +kernel
theorem dL_law_644 : decode cL_law 644 = .ok (.if_icmp .eq 1796, 3) := by decide +kernel
theorem dL_law_647 : decode cL_law 647 = .ok (.iconst 0, 1) := by decide +kernel
theorem dL_law_648 : decode cL_law 648 = .ok (.ireturn, 1) := by decide +kernel
theorem dL_law_649 : decode cL_law 649 = .ok (.aload_n 1, 1) := by decide +kernel
theorem dL_law_650 : decode cL_law 650 = .ok (.aload_n 0, 1) := by decide +kernel
theorem dL_law_651 : decode cL_law 651 = .ok (.iload_n 3, 1) := by decide +kernel
theorem dL_law_652 : decode cL_law 652 = .ok (.iconst 1, 1) := by decide +kernel
theorem dL_law_653 : decode cL_law 653 = .ok (.iadd, 1) := by decide +kernel
theorem dL_law_654 : decode cL_law 654 = .ok (.iaload, 1) := by decide +kernel
theorem dL_law_655 : decode cL_law 655 = .ok (.aload_n 0, 1) := by decide +kernel
theorem dL_law_656 : decode cL_law 656 = .ok (.iload_n 3, 1) := by decide +kernel
theorem dL_law_657 : decode cL_law 657 = .ok (.iconst 2, 1) := by decide +kernel
theorem dL_law_658 : decode cL_law 658 = .ok (.iadd, 1) := by decide +kernel
theorem dL_law_659 : decode cL_law 659 = .ok (.iaload, 1) := by decide +kernel
theorem dL_law_660 : decode cL_law 660 = .ok (.invokevirtual 54, 3) := by decide +kernel
theorem dL_law_663 : decode cL_law 663 = .ok (.aload_n 2, 1) := by decide +kernel
theorem dL_law_664 : decode cL_law 664 = .ok (.aload_n 0, 1) := by decide +kernel
theorem dL_law_665 : decode cL_law 665 = .ok (.iload_n 3, 1) := by decide +kernel
theorem dL_law_666 : decode cL_law 666 = .ok (.iconst 1, 1) := by decide +kernel
theorem dL_law_667 : decode cL_law 667 = .ok (.iadd, 1) := by decide +kernel
theorem dL_law_668 : decode cL_law 668 = .ok (.iaload, 1) := by decide +kernel
theorem dL_law_669 : decode cL_law 669 = .ok (.aload_n 0, 1) := by decide +kernel
theorem dL_law_670 : decode cL_law 670 = .ok (.iload_n 3, 1) := by decide +kernel
theorem dL_law_671 : decode cL_law 671 = .ok (.iconst 2, 1) := by decide +kernel
theorem dL_law_672 : decode cL_law 672 = .ok (.iadd, 1) := by decide +kernel
theorem dL_law_673 : decode cL_law 673 = .ok (.iaload, 1) := by decide +kernel
theorem dL_law_674 : decode cL_law 674 = .ok (.invokevirtual 57, 3) := by decide +kernel
theorem dL_law_677 : decode cL_law 677 = .ok (.if_icmp .eq 1763, 3) := by decide +kernel
theorem dL_law_680 : decode cL_law 680 = .ok (.iconst 0, 1) := by decide +kernel
theorem dL_law_681 : decode cL_law 681 = .ok (.ireturn, 1) := by decide +kernel
theorem dL_law_682 : decode cL_law 682 = .ok (.aload_n 1, 1) := by decide +kernel
theorem dL_law_683 : decode cL_law 683 = .ok (.aload_n 0, 1) := by decide +kernel
theorem dL_law_684 : decode cL_law 684 = .ok (.iload_n 3, 1) := by decide +kernel
theorem dL_law_685 : decode cL_law 685 = .ok (.iconst 1, 1) := by decide +kernel
theorem dL_law_686 : decode cL_law 686 = .ok (.iadd, 1) := by decide +kernel
theorem dL_law_687 : decode cL_law 687 = .ok (.iaload, 1) := by decide +kernel
theorem dL_law_688 : decode cL_law 688 = .ok (.aload_n 0, 1) := by decide +kernel
theorem dL_law_689 : decode cL_law 689 = .ok (.iload_n 3, 1) := by decide +kernel
theorem dL_law_690 : decode cL_law 690 = .ok (.iconst 2, 1) := by decide +kernel
theorem dL_law_691 : decode cL_law 691 = .ok (.iadd, 1) := by decide +kernel
theorem dL_law_692 : decode cL_law 692 = .ok (.iaload, 1) := by decide +kernel
theorem dL_law_693 : decode cL_law 693 = .ok (.invokevirtual 58, 3) := by decide +kernel
theorem dL_law_696 : decode cL_law 696 = .ok (.aload_n 2, 1) := by decide +kernel
theorem dL_law_697 : decode cL_law 697 = .ok (.aload_n 0, 1) := by decide +kernel
theorem dL_law_698 : decode cL_law 698 = .ok (.iload_n 3, 1) := by decide +kernel
theorem dL_law_699 : decode cL_law 699 = .ok (.iconst 1, 1) := by decide +kernel
theorem dL_law_700 : decode cL_law 700 = .ok (.iadd, 1) := by decide +kernel
theorem dL_law_701 : decode cL_law 701 = .ok (.iaload, 1) := by decide +kernel
theorem dL_law_702 : decode cL_law 702 = .ok (.aload_n 0, 1) := by decide +kernel
theorem dL_law_703 : decode cL_law 703 = .ok (.iload_n 3, 1) := by decide +kernel
theorem dL_law_704 : decode cL_law 704 = .ok (.iconst 2, 1) := by decide +kernel
theorem dL_law_705 : decode cL_law 705 = .ok (.iadd, 1) := by decide +kernel
theorem dL_law_706 : decode cL_law 706 = .ok (.iaload, 1) := by decide +kernel
theorem dL_law_707 : decode cL_law 707 = .ok (.invokevirtual 61, 3) := by decide +kernel
theorem dL_law_710 : decode cL_law 710 = .ok (.if_icmp .eq 1730, 3) := by decide +kernel
theorem dL_law_713 : decode cL_law 713 = .ok (.iconst 0, 1) := by decide +kernel
theorem dL_law_714 : decode cL_law 714 = .ok (.ireturn, 1) := by decide +kernel
theorem dL_law_715 : decode cL_law 715 = .ok (.aload_n 1, 1) := by decide +kernel
theorem dL_law_716 : decode cL_law 716 = .ok (.aload_n 0, 1) := by decide +kernel
theorem dL_law_717 : decode cL_law 717 = .ok (.iload_n 3, 1) := by decide +kernel
theorem dL_law_718 : decode cL_law 718 = .ok (.iconst 1, 1) := by decide +kernel
theorem dL_law_719 : decode cL_law 719 = .ok (.iadd, 1) := by decide +kernel
theorem dL_law_720 : decode cL_law 720 = .ok (.iaload, 1) := by decide +kernel
theorem dL_law_721 : decode cL_law 721 = .ok (.aload_n 0, 1) := by decide +kernel
theorem dL_law_722 : decode cL_law 722 = .ok (.iload_n 3, 1) := by decide +kernel
theorem dL_law_723 : decode cL_law 723 = .ok (.iconst 2, 1) := by decide +kernel
theorem dL_law_724 : decode cL_law 724 = .ok (.iadd, 1) := by decide +kernel
theorem dL_law_725 : decode cL_law 725 = .ok (.iaload, 1) := by decide +kernel
theorem dL_law_726 : decode cL_law 726 = .ok (.invokevirtual 62, 3) := by decide +kernel
theorem dL_law_729 : decode cL_law 729 = .ok (.aload_n 2, 1) := by decide +kernel
theorem dL_law_730 : decode cL_law 730 = .ok (.aload_n 0, 1) := by decide +kernel
theorem dL_law_731 : decode cL_law 731 = .ok (.iload_n 3, 1) := by decide +kernel
theorem dL_law_732 : decode cL_law 732 = .ok (.iconst 1, 1) := by decide +kernel
theorem dL_law_733 : decode cL_law 733 = .ok (.iadd, 1) := by decide +kernel
theorem dL_law_734 : decode cL_law 734 = .ok (.iaload, 1) := by decide +kernel
theorem dL_law_735 : decode cL_law 735 = .ok (.aload_n 0, 1) := by decide +kernel
theorem dL_law_736 : decode cL_law 736 = .ok (.iload_n 3, 1) := by decide +kernel
theorem dL_law_737 : decode cL_law 737 = .ok (.iconst 2, 1) := by decide +kernel
theorem dL_law_738 : decode cL_law 738 = .ok (.iadd, 1) := by decide +kernel
theorem dL_law_739 : decode cL_law 739 = .ok (.iaload, 1) := by decide +kernel
theorem dL_law_740 : decode cL_law 740 = .ok (.invokevirtual 65, 3) := by decide +kernel
theorem dL_law_743 : decode cL_law 743 = .ok (.if_icmp .eq 1697, 3) := by decide +kernel
theorem dL_law_746 : decode cL_law 746 = .ok (.iconst 0, 1) := by decide +kernel
theorem dL_law_747 : decode cL_law 747 = .ok (.ireturn, 1) := by decide +kernel
theorem dL_law_748 : decode cL_law 748 = .ok (.aload_n 1, 1) := by decide +kernel
theorem dL_law_749 : decode cL_law 749 = .ok (.aload_n 0, 1) := by decide +kernel
theorem dL_law_750 : decode cL_law 750 = .ok (.iload_n 3, 1) := by decide +kernel
theorem dL_law_751 : decode cL_law 751 = .ok (.iconst 1, 1) := by decide +kernel
theorem dL_law_752 : decode cL_law 752 = .ok (.iadd, 1) := by decide +kernel
theorem dL_law_753 : decode cL_law 753 = .ok (.iaload, 1) := by decide +kernel
theorem dL_law_754 : decode cL_law 754 = .ok (.aload_n 0, 1) := by decide +kernel
theorem dL_law_755 : decode cL_law 755 = .ok (.iload_n 3, 1) := by decide +kernel
theorem dL_law_756 : decode cL_law 756 = .ok (.iconst 2, 1) := by decide +kernel
theorem dL_law_757 : decode cL_law 757 = .ok (.iadd, 1) := by decide +kernel
theorem dL_law_758 : decode cL_law 758 = .ok (.iaload, 1) := by decide +kernel
theorem dL_law_759 : decode cL_law 759 = .ok (.invokevirtual 66, 3) := by decide +kernel
theorem dL_law_762 : decode cL_law 762 = .ok (.aload_n 2, 1) := by decide +kernel
theorem dL_law_763 : decode cL_law 763 = .ok (.aload_n 0, 1) := by decide +kernel
theorem dL_law_764 : decode cL_law 764 = .ok (.iload_n 3, 1) := by decide +kernel
theorem dL_law_765 : decode cL_law 765 = .ok (.iconst 1, 1) := by decide +kernel
theorem dL_law_766 : decode cL_law 766 = .ok (.iadd, 1) := by decide +kernel
theorem dL_law_767 : decode cL_law 767 = .ok (.iaload, 1) := by decide +kernel
theorem dL_law_768 : decode cL_law 768 = .ok (.aload_n 0, 1) := by decide +kernel
theorem dL_law_769 : decode cL_law 769 = .ok (.iload_n 3, 1) := by decide +kernel
theorem dL_law_770 : decode cL_law 770 = .ok (.iconst 2, 1) := by decide +kernel
theorem dL_law_771 : decode cL_law 771 = .ok (.iadd, 1) := by decide +kernel
theorem dL_law_772 : decode cL_law 772 = .ok (.iaload, 1) := by decide +kernel
theorem dL_law_773 : decode cL_law 773 = .ok (.invokevirtual 69, 3) := by decide +kernel
theorem dL_law_776 : decode cL_law 776 = .ok (.if_icmp .eq 1664, 3) := by decide +kernel
theorem dL_law_779 : decode cL_law 779 = .ok (.iconst 0, 1) := by decide +kernel
theorem dL_law_780 : decode cL_law 780 = .ok (.ireturn, 1) := by decide +kernel
theorem dL_law_781 : decode cL_law 781 = .ok (.aload_n 1, 1) := by decide +kernel
theorem dL_law_782 : decode cL_law 782 = .ok (.aload_n 0, 1) := by decide +kernel
theorem dL_law_783 : decode cL_law 783 = .ok (.iload_n 3, 1) := by decide +kernel
theorem dL_law_784 : decode cL_law 784 = .ok (.iconst 1, 1) := by decide +kernel
theorem dL_law_785 : decode cL_law 785 = .ok (.iadd, 1) := by decide +kernel
theorem dL_law_786 : decode cL_law 786 = .ok (.iaload, 1) := by decide +kernel
theorem dL_law_787 : decode cL_law 787 = .ok (.aload_n 0, 1) := by decide +kernel
theorem dL_law_788 : decode cL_law 788 = .ok (.iload_n 3, 1) := by decide +kernel
theorem dL_law_789 : decode cL_law 789 = .ok (.iconst 2, 1) := by decide +kernel
theorem dL_law_790 : decode cL_law 790 = .ok (.iadd, 1) := by decide +kernel
theorem dL_law_791 : decode cL_law 791 = .ok (.iaload, 1) := by decide +kernel
theorem dL_law_792 : decode cL_law 792 = .ok (.invokevirtual 70, 3) := by decide +kernel
theorem dL_law_795 : decode cL_law 795 = .ok (.aload_n 2, 1) := by decide +kernel
theorem dL_law_796 : decode cL_law 796 = .ok (.aload_n 0, 1) := by decide +kernel
theorem dL_law_797 : decode cL_law 797 = .ok (.iload_n 3, 1) := by decide +kernel
theorem dL_law_798 : decode cL_law 798 = .ok (.iconst 1, 1) := by decide +kernel
theorem dL_law_799 : decode cL_law 799 = .ok (.iadd, 1) := by decide +kernel
theorem dL_law_800 : decode cL_law 800 = .ok (.iaload, 1) := by decide +kernel
theorem dL_law_801 : decode cL_law 801 = .ok (.aload_n 0, 1) := by decide +kernel
theorem dL_law_802 : decode cL_law 802 = .ok (.iload_n 3, 1) := by decide +kernel
theorem dL_law_803 : decode cL_law 803 = .ok (.iconst 2, 1) := by decide +kernel
theorem dL_law_804 : decode cL_law 804 = .ok (.iadd, 1) := by decide +kernel
theorem dL_law_805 : decode cL_law 805 = .ok (.iaload, 1) := by decide +kernel
theorem dL_law_806 : decode cL_law 806 = .ok (.invokevirtual 73, 3) := by decide +kernel
theorem dL_law_809 : decode cL_law 809 = .ok (.if_icmp .eq 1631, 3) := by decide +kernel
theorem dL_law_812 : decode cL_law 812 = .ok (.iconst 0, 1) := by decide +kernel
theorem dL_law_813 : decode cL_law 813 = .ok (.ireturn, 1) := by decide +kernel
theorem dL_law_814 : decode cL_law 814 = .ok (.aload_n 1, 1) := by decide +kernel
theorem dL_law_815 : decode cL_law 815 = .ok (.aload_n 0, 1) := by decide +kernel
theorem dL_law_816 : decode cL_law 816 = .ok (.iload_n 3, 1) := by decide +kernel
theorem dL_law_817 : decode cL_law 817 = .ok (.iconst 1, 1) := by decide +kernel
theorem dL_law_818 : decode cL_law 818 = .ok (.iadd, 1) := by decide +kernel
theorem dL_law_819 : decode cL_law 819 = .ok (.iaload, 1) := by decide +kernel
theorem dL_law_820 : decode cL_law 820 = .ok (.invokevirtual 74, 3) := by decide +kernel
theorem dL_law_823 : decode cL_law 823 = .ok (.aload_n 2, 1) := by decide +kernel
theorem dL_law_824 : decode cL_law 824 = .ok (.aload_n 0, 1) := by decide +kernel
theorem dL_law_825 : decode cL_law 825 = .ok (.iload_n 3, 1) := by decide +kernel
theorem dL_law_826 : decode cL_law 826 = .ok (.iconst 1, 1) := by decide +kernel
theorem dL_law_827 : decode cL_law 827 = .ok (.iadd, 1) := by decide +kernel
theorem dL_law_828 : decode cL_law 828 = .ok (.iaload, 1) := by decide +kernel
theorem dL_law_829 : decode cL_law 829 = .ok (.invokevirtual 77, 3) := by decide +kernel
theorem dL_law_832 : decode cL_law 832 = .ok (.if_icmp .eq 1608, 3) := by decide +kernel
theorem dL_law_835 : decode cL_law 835 = .ok (.iconst 0, 1) := by decide +kernel
theorem dL_law_836 : decode cL_law 836 = .ok (.ireturn, 1) := by decide +kernel
theorem dL_law_837 : decode cL_law 837 = .ok (.aload_n 1, 1) := by decide +kernel
theorem dL_law_838 : decode cL_law 838 = .ok (.aload_n 0, 1) := by decide +kernel
theorem dL_law_839 : decode cL_law 839 = .ok (.iload_n 3, 1) := by decide +kernel
theorem dL_law_840 : decode cL_law 840 = .ok (.iconst 1, 1) := by decide +kernel
theorem dL_law_841 : decode cL_law 841 = .ok (.iadd, 1) := by decide +kernel
theorem dL_law_842 : decode cL_law 842 = .ok (.iaload, 1) := by decide +kernel
theorem dL_law_843 : decode cL_law 843 = .ok (.aload_n 0, 1) := by decide +kernel
theorem dL_law_844 : decode cL_law 844 = .ok (.iload_n 3, 1) := by decide +kernel
theorem dL_law_845 : decode cL_law 845 = .ok (.iconst 2, 1) := by decide +kernel
theorem dL_law_846 : decode cL_law 846 = .ok (.iadd, 1) := by decide +kernel
theorem dL_law_847 : decode cL_law 847 = .ok (.iaload, 1) := by decide +kernel
theorem dL_law_848 : decode cL_law 848 = .ok (.invokevirtual 78, 3) := by decide +kernel
theorem dL_law_851 : decode cL_law 851 = .ok (.aload_n 2, 1) := by decide +kernel
theorem dL_law_852 : decode cL_law 852 = .ok (.aload_n 0, 1) := by decide +kernel
theorem dL_law_853 : decode cL_law 853 = .ok (.iload_n 3, 1) := by decide +kernel
theorem dL_law_854 : decode cL_law 854 = .ok (.iconst 1, 1) := by decide +kernel
theorem dL_law_855 : decode cL_law 855 = .ok (.iadd, 1) := by decide +kernel
theorem dL_law_856 : decode cL_law 856 = .ok (.iaload, 1) := by decide +kernel
theorem dL_law_857 : decode cL_law 857 = .ok (.aload_n 0, 1) := by decide +kernel
theorem dL_law_858 : decode cL_law 858 = .ok (.iload_n 3, 1) := by decide +kernel
theorem dL_law_859 : decode cL_law 859 = .ok (.iconst 2, 1) := by decide +kernel
theorem dL_law_860 : decode cL_law 860 = .ok (.iadd, 1) := by decide +kernel
theorem dL_law_861 : decode cL_law 861 = .ok (.iaload, 1) := by decide +kernel
theorem dL_law_862 : decode cL_law 862 = .ok (.invokevirtual 81, 3) := by decide +kernel
theorem dL_law_865 : decode cL_law 865 = .ok (.if_icmp .eq 1575, 3) := by decide +kernel
theorem dL_law_868 : decode cL_law 868 = .ok (.iconst 0, 1) := by decide +kernel
theorem dL_law_869 : decode cL_law 869 = .ok (.ireturn, 1) := by decide +kernel
theorem dL_law_870 : decode cL_law 870 = .ok (.aload_n 1, 1) := by decide +kernel
theorem dL_law_871 : decode cL_law 871 = .ok (.aload_n 0, 1) := by decide +kernel
theorem dL_law_872 : decode cL_law 872 = .ok (.iload_n 3, 1) := by decide +kernel
theorem dL_law_873 : decode cL_law 873 = .ok (.iconst 1, 1) := by decide +kernel
theorem dL_law_874 : decode cL_law 874 = .ok (.iadd, 1) := by decide +kernel
theorem dL_law_875 : decode cL_law 875 = .ok (.iaload, 1) := by decide +kernel
theorem dL_law_876 : decode cL_law 876 = .ok (.invokevirtual 82, 3) := by decide +kernel
theorem dL_law_879 : decode cL_law 879 = .ok (.aload_n 2, 1) := by decide +kernel
theorem dL_law_880 : decode cL_law 880 = .ok (.aload_n 0, 1) := by decide +kernel
theorem dL_law_881 : decode cL_law 881 = .ok (.iload_n 3, 1) := by decide +kernel
theorem dL_law_882 : decode cL_law 882 = .ok (.iconst 1, 1) := by decide +kernel
theorem dL_law_883 : decode cL_law 883 = .ok (.iadd, 1) := by decide +kernel
theorem dL_law_884 : decode cL_law 884 = .ok (.iaload, 1) := by decide +kernel
theorem dL_law_885 : decode cL_law 885 = .ok (.invokevirtual 85, 3) := by decide +kernel
theorem dL_law_888 : decode cL_law 888 = .ok (.if_icmp .eq 1552, 3) := by decide +kernel
theorem dL_law_891 : decode cL_law 891 = .ok (.iconst 0, 1) := by decide +kernel
theorem dL_law_892 : decode cL_law 892 = .ok (.ireturn, 1) := by decide +kernel
theorem dL_law_893 : decode cL_law 893 = .ok (.aload_n 1, 1) := by decide +kernel
theorem dL_law_894 : decode cL_law 894 = .ok (.aload_n 0, 1) := by decide +kernel
theorem dL_law_895 : decode cL_law 895 = .ok (.iload_n 3, 1) := by decide +kernel
theorem dL_law_896 : decode cL_law 896 = .ok (.iconst 1, 1) := by decide +kernel
theorem dL_law_897 : decode cL_law 897 = .ok (.iadd, 1) := by decide +kernel
theorem dL_law_898 : decode cL_law 898 = .ok (.iaload, 1) := by decide +kernel
theorem dL_law_899 : decode cL_law 899 = .ok (.aload_n 0, 1) := by decide +kernel
theorem dL_law_900 : decode cL_law 900 = .ok (.iload_n 3, 1) := by decide +kernel
theorem dL_law_901 : decode cL_law 901 = .ok (.iconst 2, 1) := by decide +kernel
theorem dL_law_902 : decode cL_law 902 = .ok (.iadd, 1) := by decide +kernel
theorem dL_law_903 : decode cL_law 903 = .ok (.iaload, 1) := by decide +kernel
theorem dL_law_904 : decode cL_law 904 = .ok (.invokevirtual 86, 3) := by decide +kernel
theorem dL_law_907 : decode cL_law 907 = .ok (.aload_n 2, 1) := by decide +kernel
theorem dL_law_908 : decode cL_law 908 = .ok (.aload_n 0, 1) := by decide +kernel
theorem dL_law_909 : decode cL_law 909 = .ok (.iload_n 3, 1) := by decide +kernel
theorem dL_law_910 : decode cL_law 910 = .ok (.iconst 1, 1) := by decide +kernel
theorem dL_law_911 : decode cL_law 911 = .ok (.iadd, 1) := by decide +kernel
theorem dL_law_912 : decode cL_law 912 = .ok (.iaload, 1) := by decide +kernel
theorem dL_law_913 : decode cL_law 913 = .ok (.aload_n 0, 1) := by decide +kernel
theorem dL_law_914 : decode cL_law 914 = .ok (.iload_n 3, 1) := by decide +kernel
theorem dL_law_915 : decode cL_law 915 = .ok (.iconst 2, 1) := by decide +kernel
theorem dL_law_916 : decode cL_law 916 = .ok (.iadd, 1) := by decide +kernel
theorem dL_law_917 : decode cL_law 917 = .ok (.iaload, 1) := by decide +kernel
theorem dL_law_918 : decode cL_law 918 = .ok (.invokevirtual 89, 3) := by decide +kernel
theorem dL_law_921 : decode cL_law 921 = .ok (.if_icmp .eq 1519, 3) := by decide +kernel
theorem dL_law_924 : decode cL_law 924 = .ok (.iconst 0, 1) := by decide +kernel
theorem dL_law_925 : decode cL_law 925 = .ok (.ireturn, 1) := by decide +kernel
theorem dL_law_926 : decode cL_law 926 = .ok (.aload_n 1, 1) := by decide +kernel
theorem dL_law_927 : decode cL_law 927 = .ok (.aload_n 0, 1) := by decide +kernel
theorem dL_law_928 : decode cL_law 928 = .ok (.iload_n 3, 1) := by decide +kernel
theorem dL_law_929 : decode cL_law 929 = .ok (.iconst 1, 1) := by decide +kernel
theorem dL_law_930 : decode cL_law 930 = .ok (.iadd, 1) := by decide +kernel
theorem dL_law_931 : decode cL_law 931 = .ok (.iaload, 1) := by decide +kernel
theorem dL_law_932 : decode cL_law 932 = .ok (.invokevirtual 90, 3) := by decide +kernel
theorem dL_law_935 : decode cL_law 935 = .ok (.aload_n 2, 1) := by decide +kernel
theorem dL_law_936 : decode cL_law 936 = .ok (.aload_n 0, 1) := by decide +kernel
theorem dL_law_937 : decode cL_law 937 = .ok (.iload_n 3, 1) := by decide +kernel
theorem dL_law_938 : decode cL_law 938 = .ok (.iconst 1, 1) := by decide +kernel
theorem dL_law_939 : decode cL_law 939 = .ok (.iadd, 1) := by decide +kernel
theorem dL_law_940 : decode cL_law 940 = .ok (.iaload, 1) := by decide +kernel
theorem dL_law_941 : decode cL_law 941 = .ok (.invokevirtual 93, 3) := by decide +kernel
theorem dL_law_944 : decode cL_law 944 = .ok (.if_icmp .eq 1496, 3) := by decide +kernel
theorem dL_law_947 : decode cL_law 947 = .ok (.iconst 0, 1) := by decide +kernel
theorem dL_law_948 : decode cL_law 948 = .ok (.ireturn, 1) := by decide +kernel
theorem dL_law_949 : decode cL_law 949 = .ok (.aload_n 1, 1) := by decide +kernel
theorem dL_law_950 : decode cL_law 950 = .ok (.aload_n 0, 1) := by decide +kernel
theorem dL_law_951 : decode cL_law 951 = .ok (.iload_n 3, 1) := by decide +kernel
theorem dL_law_952 : decode cL_law 952 = .ok (.iconst 1, 1) := by decide +kernel
theorem dL_law_953 : decode cL_law 953 = .ok (.iadd, 1) := by decide +kernel
theorem dL_law_954 : decode cL_law 954 = .ok (.iaload, 1) := by decide +kernel
theorem dL_law_955 : decode cL_law 955 = .ok (.invokevirtual 94, 3) := by decide +kernel
theorem dL_law_958 : decode cL_law 958 = .ok (.aload_n 2, 1) := by decide +kernel
theorem dL_law_959 : decode cL_law 959 = .ok (.aload_n 0, 1) := by decide +kernel
theorem dL_law_960 : decode cL_law 960 = .ok (.iload_n 3, 1) := by decide +kernel
theorem dL_law_961 : decode cL_law 961 = .ok (.iconst 1, 1) := by decide +kernel
theorem dL_law_962 : decode cL_law 962 = .ok (.iadd, 1) := by decide +kernel
theorem dL_law_963 : decode cL_law 963 = .ok (.iaload, 1) := by decide +kernel
theorem dL_law_964 : decode cL_law 964 = .ok (.invokevirtual 97, 3) := by decide +kernel
theorem dL_law_967 : decode cL_law 967 = .ok (.if_icmp .eq 1473, 3) := by decide +kernel
theorem dL_law_970 : decode cL_law 970 = .ok (.iconst 0, 1) := by decide +kernel
theorem dL_law_971 : decode cL_law 971 = .ok (.ireturn, 1) := by decide +kernel
theorem dL_law_972 : decode cL_law 972 = .ok (.aload_n 1, 1) := by decide +kernel
theorem dL_law_973 : decode cL_law 973 = .ok (.aload_n 0, 1) := by decide +kernel
theorem dL_law_974 : decode cL_law 974 = .ok (.iload_n 3, 1) := by decide +kernel
theorem dL_law_975 : decode cL_law 975 = .ok (.iconst 1, 1) := by decide +kernel
theorem dL_law_976 : decode cL_law 976 = .ok (.iadd, 1) := by decide +kernel
theorem dL_law_977 : decode cL_law 977 = .ok (.iaload, 1) := by decide +kernel
theorem dL_law_978 : decode cL_law 978 = .ok (.invokevirtual 98, 3) := by decide +kernel
theorem dL_law_981 : decode cL_law 981 = .ok (.aload_n 2, 1) := by decide +kernel
theorem dL_law_982 : decode cL_law 982 = .ok (.aload_n 0, 1) := by decide +kernel
theorem dL_law_983 : decode cL_law 983 = .ok (.iload_n 3, 1) := by decide +kernel
theorem dL_law_984 : decode cL_law 984 = .ok (.iconst 1, 1) := by decide +kernel
theorem dL_law_985 : decode cL_law 985 = .ok (.iadd, 1) := by decide +kernel
theorem dL_law_986 : decode cL_law 986 = .ok (.iaload, 1) := by decide +kernel
theorem dL_law_987 : decode cL_law 987 = .ok (.invokevirtual 101, 3) := by decide +kernel
theorem dL_law_990 : decode cL_law 990 = .ok (.if_icmp .eq 1450, 3) := by decide +kernel
theorem dL_law_993 : decode cL_law 993 = .ok (.iconst 0, 1) := by decide +kernel
theorem dL_law_994 : decode cL_law 994 = .ok (.ireturn, 1) := by decide +kernel
theorem dL_law_995 : decode cL_law 995 = .ok (.aload_n 1, 1) := by decide +kernel
theorem dL_law_996 : decode cL_law 996 = .ok (.invokevirtual 102, 3) := by decide +kernel
theorem dL_law_999 : decode cL_law 999 = .ok (.aload_n 2, 1) := by decide +kernel
theorem dL_law_1000 : decode cL_law 1000 = .ok (.invokevirtual 105, 3) := by decide +kernel
theorem dL_law_1003 : decode cL_law 1003 = .ok (.if_icmp .eq 1437, 3) := by decide +kernel
theorem dL_law_1006 : decode cL_law 1006 = .ok (.iconst 0, 1) := by decide +kernel
theorem dL_law_1007 : decode cL_law 1007 = .ok (.ireturn, 1) := by decide +kernel
theorem dL_law_1008 : decode cL_law 1008 = .ok (.aload_n 1, 1) := by decide +kernel
theorem dL_law_1009 : decode cL_law 1009 = .ok (.invokevirtual 106, 3) := by decide +kernel
theorem dL_law_1012 : decode cL_law 1012 = .ok (.aload_n 2, 1) := by decide +kernel
theorem dL_law_1013 : decode cL_law 1013 = .ok (.invokevirtual 109, 3) := by decide +kernel
theorem dL_law_1016 : decode cL_law 1016 = .ok (.if_icmp .eq 1424, 3) := by decide +kernel
theorem dL_law_1019 : decode cL_law 1019 = .ok (.iconst 0, 1) := by decide +kernel
theorem dL_law_1020 : decode cL_law 1020 = .ok (.ireturn, 1) := by decide +kernel
theorem dL_law_1021 : decode cL_law 1021 = .ok (.aload_n 1, 1) := by decide +kernel
theorem dL_law_1022 : decode cL_law 1022 = .ok (.aload_n 0, 1) := by decide +kernel
theorem dL_law_1023 : decode cL_law 1023 = .ok (.iload_n 3, 1) := by decide +kernel
theorem dL_law_1024 : decode cL_law 1024 = .ok (.iconst 1, 1) := by decide +kernel
theorem dL_law_1025 : decode cL_law 1025 = .ok (.iadd, 1) := by decide +kernel
theorem dL_law_1026 : decode cL_law 1026 = .ok (.iaload, 1) := by decide +kernel
theorem dL_law_1027 : decode cL_law 1027 = .ok (.aload_n 0, 1) := by decide +kernel
theorem dL_law_1028 : decode cL_law 1028 = .ok (.iload_n 3, 1) := by decide +kernel
theorem dL_law_1029 : decode cL_law 1029 = .ok (.iconst 2, 1) := by decide +kernel
theorem dL_law_1030 : decode cL_law 1030 = .ok (.iadd, 1) := by decide +kernel
theorem dL_law_1031 : decode cL_law 1031 = .ok (.iaload, 1) := by decide +kernel
theorem dL_law_1032 : decode cL_law 1032 = .ok (.invokevirtual 110, 3) := by decide +kernel
theorem dL_law_1035 : decode cL_law 1035 = .ok (.aload_n 2, 1) := by decide +kernel
theorem dL_law_1036 : decode cL_law 1036 = .ok (.aload_n 0, 1) := by decide +kernel
theorem dL_law_1037 : decode cL_law 1037 = .ok (.iload_n 3, 1) := by decide +kernel
theorem dL_law_1038 : decode cL_law 1038 = .ok (.iconst 1, 1) := by decide +kernel
theorem dL_law_1039 : decode cL_law 1039 = .ok (.iadd, 1) := by decide +kernel
theorem dL_law_1040 : decode cL_law 1040 = .ok (.iaload, 1) := by decide +kernel
theorem dL_law_1041 : decode cL_law 1041 = .ok (.aload_n 0, 1) := by decide +kernel
theorem dL_law_1042 : decode cL_law 1042 = .ok (.iload_n 3, 1) := by decide +kernel
theorem dL_law_1043 : decode cL_law 1043 = .ok (.iconst 2, 1) := by decide +kernel
theorem dL_law_1044 : decode cL_law 1044 = .ok (.iadd, 1) := by decide +kernel
theorem dL_law_1045 : decode cL_law 1045 = .ok (.iaload, 1) := by decide +kernel
theorem dL_law_1046 : decode cL_law 1046 = .ok (.invokevirtual 113, 3) := by decide +kernel
theorem dL_law_1049 : decode cL_law 1049 = .ok (.if_icmp .eq 1391, 3) := by decide +kernel
theorem dL_law_1052 : decode cL_law 1052 = .ok (.iconst 0, 1) := by decide +kernel
theorem dL_law_1053 : decode cL_law 1053 = .ok (.ireturn, 1) := by decide +kernel
theorem dL_law_1054 : decode cL_law 1054 = .ok (.aload_n 1, 1) := by decide +kernel
theorem dL_law_1055 : decode cL_law 1055 = .ok (.aload_n 0, 1) := by decide +kernel
theorem dL_law_1056 : decode cL_law 1056 = .ok (.iload_n 3, 1) := by decide +kernel
theorem dL_law_1057 : decode cL_law 1057 = .ok (.iconst 1, 1) := by decide +kernel
theorem dL_law_1058 : decode cL_law 1058 = .ok (.iadd, 1) := by decide +kernel
theorem dL_law_1059 : decode cL_law 1059 = .ok (.iaload, 1) := by decide +kernel
theorem dL_law_1060 : decode cL_law 1060 = .ok (.aload_n 0, 1) := by decide +kernel
theorem dL_law_1061 : decode cL_law 1061 = .ok (.iload_n 3, 1) := by decide +kernel
theorem dL_law_1062 : decode cL_law 1062 = .ok (.iconst 2, 1) := by decide +kernel
theorem dL_law_1063 : decode cL_law 1063 = .ok (.iadd, 1) := by decide +kernel
theorem dL_law_1064 : decode cL_law 1064 = .ok (.iaload, 1) := by decide +kernel
theorem dL_law_1065 : decode cL_law 1065 = .ok (.invokevirtual 114, 3) := by decide +kernel
theorem dL_law_1068 : decode cL_law 1068 = .ok (.aload_n 2, 1) := by decide +kernel
theorem dL_law_1069 : decode cL_law 1069 = .ok (.aload_n 0, 1) := by decide +kernel
theorem dL_law_1070 : decode cL_law 1070 = .ok (.iload_n 3, 1) := by decide +kernel
theorem dL_law_1071 : decode cL_law 1071 = .ok (.iconst 1, 1) := by decide +kernel
theorem dL_law_1072 : decode cL_law 1072 = .ok (.iadd, 1) := by decide +kernel
theorem dL_law_1073 : decode cL_law 1073 = .ok (.iaload, 1) := by decide +kernel
theorem dL_law_1074 : decode cL_law 1074 = .ok (.aload_n 0, 1) := by decide +kernel
theorem dL_law_1075 : decode cL_law 1075 = .ok (.iload_n 3, 1) := by decide +kernel
theorem dL_law_1076 : decode cL_law 1076 = .ok (.iconst 2, 1) := by decide +kernel
theorem dL_law_1077 : decode cL_law 1077 = .ok (.iadd, 1) := by decide +kernel
theorem dL_law_1078 : decode cL_law 1078 = .ok (.iaload, 1) := by decide +kernel
theorem dL_law_1079 : decode cL_law 1079 = .ok (.invokevirtual 117, 3) := by decide +kernel
theorem dL_law_1082 : decode cL_law 1082 = .ok (.if_icmp .eq 1358, 3) := by decide +kernel
theorem dL_law_1085 : decode cL_law 1085 = .ok (.iconst 0, 1) := by decide +kernel
theorem dL_law_1086 : decode cL_law 1086 = .ok (.ireturn, 1) := by decide +kernel
theorem dL_law_1087 : decode cL_law 1087 = .ok (.aload_n 1, 1) := by decide +kernel
theorem dL_law_1088 : decode cL_law 1088 = .ok (.aload_n 0, 1) := by decide +kernel
theorem dL_law_1089 : decode cL_law 1089 = .ok (.iload_n 3, 1) := by decide +kernel
theorem dL_law_1090 : decode cL_law 1090 = .ok (.iconst 1, 1) := by decide +kernel
theorem dL_law_1091 : decode cL_law 1091 = .ok (.iadd, 1) := by decide +kernel
theorem dL_law_1092 : decode cL_law 1092 = .ok (.iaload, 1) := by decide +kernel
theorem dL_law_1093 : decode cL_law 1093 = .ok (.invokevirtual 118, 3) := by decide +kernel
theorem dL_law_1096 : decode cL_law 1096 = .ok (.aload_n 2, 1) := by decide +kernel
theorem dL_law_1097 : decode cL_law 1097 = .ok (.aload_n 0, 1) := by decide +kernel
theorem dL_law_1098 : decode cL_law 1098 = .ok (.iload_n 3, 1) := by decide +kernel
theorem dL_law_1099 : decode cL_law 1099 = .ok (.iconst 1, 1) := by decide +kernel
theorem dL_law_1100 : decode cL_law 1100 = .ok (.iadd, 1) := by decide +kernel
theorem dL_law_1101 : decode cL_law 1101 = .ok (.iaload, 1) := by decide +kernel
theorem dL_law_1102 : decode cL_law 1102 = .ok (.invokevirtual 121, 3) := by decide +kernel
theorem dL_law_1105 : decode cL_law 1105 = .ok (.if_icmp .eq 1335, 3) := by decide +kernel
theorem dL_law_1108 : decode cL_law 1108 = .ok (.iconst 0, 1) := by decide +kernel
theorem dL_law_1109 : decode cL_law 1109 = .ok (.ireturn, 1) := by decide +kernel
theorem dL_law_1110 : decode cL_law 1110 = .ok (.aload_n 1, 1) := by decide +kernel
theorem dL_law_1111 : decode cL_law 1111 = .ok (.aload_n 0, 1) := by decide +kernel
theorem dL_law_1112 : decode cL_law 1112 = .ok (.iload_n 3, 1) := by decide +kernel
theorem dL_law_1113 : decode cL_law 1113 = .ok (.iconst 1, 1) := by decide +kernel
theorem dL_law_1114 : decode cL_law 1114 = .ok (.iadd, 1) := by decide +kernel
theorem dL_law_1115 : decode cL_law 1115 = .ok (.iaload, 1) := by decide +kernel
theorem dL_law_1116 : decode cL_law 1116 = .ok (.aload_n 0, 1) := by decide +kernel
theorem dL_law_1117 : decode cL_law 1117 = .ok (.iload_n 3, 1) := by decide +kernel
theorem dL_law_1118 : decode cL_law 1118 = .ok (.iconst 2, 1) := by decide +kernel
theorem dL_law_1119 : decode cL_law 1119 = .ok (.iadd, 1) := by decide +kernel
theorem dL_law_1120 : decode cL_law 1120 = .ok (.iaload, 1) := by decide +kernel
theorem dL_law_1121 : decode cL_law 1121 = .ok (.invokevirtual 122, 3) := by decide +kernel
theorem dL_law_1124 : decode cL_law 1124 = .ok (.aload_n 2, 1) := by decide +kernel
theorem dL_law_1125 : decode cL_law 1125 = .ok (.aload_n 0, 1) := by decide +kernel
theorem dL_law_1126 : decode cL_law 1126 = .ok (.iload_n 3, 1) := by decide +kernel
theorem dL_law_1127 : decode cL_law 1127 = .ok (.iconst 1, 1) := by decide +kernel
theorem dL_law_1128 : decode cL_law 1128 = .ok (.iadd, 1) := by decide +kernel
theorem dL_law_1129 : decode cL_law 1129 = .ok (.iaload, 1) := by decide +kernel
theorem dL_law_1130 : decode cL_law 1130 = .ok (.aload_n 0, 1) := by decide +kernel
theorem dL_law_1131 : decode cL_law 1131 = .ok (.iload_n 3, 1) := by decide +kernel
theorem dL_law_1132 : decode cL_law 1132 = .ok (.iconst 2, 1) := by decide +kernel
theorem dL_law_1133 : decode cL_law 1133 = .ok (.iadd, 1) := by decide +kernel
theorem dL_law_1134 : decode cL_law 1134 = .ok (.iaload, 1) := by decide +kernel
theorem dL_law_1135 : decode cL_law 1135 = .ok (.invokevirtual 125, 3) := by decide +kernel
theorem dL_law_1138 : decode cL_law 1138 = .ok (.if_icmp .eq 1302, 3) := by decide +kernel
theorem dL_law_1141 : decode cL_law 1141 = .ok (.iconst 0, 1) := by decide +kernel
theorem dL_law_1142 : decode cL_law 1142 = .ok (.ireturn, 1) := by decide +kernel
theorem dL_law_1143 : decode cL_law 1143 = .ok (.aload_n 1, 1) := by decide +kernel
theorem dL_law_1144 : decode cL_law 1144 = .ok (.aload_n 0, 1) := by decide +kernel
theorem dL_law_1145 : decode cL_law 1145 = .ok (.iload_n 3, 1) := by decide +kernel
theorem dL_law_1146 : decode cL_law 1146 = .ok (.iconst 1, 1) := by decide +kernel
theorem dL_law_1147 : decode cL_law 1147 = .ok (.iadd, 1) := by decide +kernel
theorem dL_law_1148 : decode cL_law 1148 = .ok (.iaload, 1) := by decide +kernel
theorem dL_law_1149 : decode cL_law 1149 = .ok (.aload_n 0, 1) := by decide +kernel
theorem dL_law_1150 : decode cL_law 1150 = .ok (.iload_n 3, 1) := by decide +kernel
theorem dL_law_1151 : decode cL_law 1151 = .ok (.iconst 2, 1) := by decide +kernel
theorem dL_law_1152 : decode cL_law 1152 = .ok (.iadd, 1) := by decide +kernel
theorem dL_law_1153 : decode cL_law 1153 = .ok (.iaload, 1) := by decide +kernel
theorem dL_law_1154 : decode cL_law 1154 = .ok (.invokevirtual 126, 3) := by decide +kernel
theorem dL_law_1157 : decode cL_law 1157 = .ok (.aload_n 2, 1) := by decide +kernel
theorem dL_law_1158 : decode cL_law 1158 = .ok (.aload_n 0, 1) := by decide +kernel
theorem dL_law_1159 : decode cL_law 1159 = .ok (.iload_n 3, 1) := by decide +kernel
theorem dL_law_1160 : decode cL_law 1160 = .ok (.iconst 1, 1) := by decide +kernel
theorem dL_law_1161 : decode cL_law 1161 = .ok (.iadd, 1) := by decide +kernel
theorem dL_law_1162 : decode cL_law 1162 = .ok (.iaload, 1) := by decide +kernel
theorem dL_law_1163 : decode cL_law 1163 = .ok (.aload_n 0, 1) := by decide +kernel
theorem dL_law_1164 : decode cL_law 1164 = .ok (.iload_n 3, 1) := by decide +kernel
theorem dL_law_1165 : decode cL_law 1165 = .ok (.iconst 2, 1) := by decide +kernel
theorem dL_law_1166 : decode cL_law 1166 = .ok (.iadd, 1) := by decide +kernel
theorem dL_law_1167 : decode cL_law 1167 = .ok (.iaload, 1) := by decide +kernel
theorem dL_law_1168 : decode cL_law 1168 = .ok (.invokevirtual 129, 3) := by decide +kernel
theorem dL_law_1171 : decode cL_law 1171 = .ok (.if_icmp .eq 1269, 3) := by decide +kernel
theorem dL_law_1174 : decode cL_law 1174 = .ok (.iconst 0, 1) := by decide +kernel
theorem dL_law_1175 : decode cL_law 1175 = .ok (.ireturn, 1) := by decide +kernel
theorem dL_law_1176 : decode cL_law 1176 = .ok (.aload_n 1, 1) := by decide +kernel
theorem dL_law_1177 : decode cL_law 1177 = .ok (.aload_n 0, 1) := by decide +kernel
theorem dL_law_1178 : decode cL_law 1178 = .ok (.iload_n 3, 1) := by decide +kernel
theorem dL_law_1179 : decode cL_law 1179 = .ok (.iconst 1, 1) := by decide +kernel
theorem dL_law_1180 : decode cL_law 1180 = .ok (.iadd, 1) := by decide +kernel
theorem dL_law_1181 : decode cL_law 1181 = .ok (.iaload, 1) := by decide +kernel
theorem dL_law_1182 : decode cL_law 1182 = .ok (.invokevirtual 130, 3) := by decide +kernel
theorem dL_law_1185 : decode cL_law 1185 = .ok (.aload_n 2, 1) := by decide +kernel
theorem dL_law_1186 : decode cL_law 1186 = .ok (.aload_n 0, 1) := by decide +kernel
theorem dL_law_1187 : decode cL_law 1187 = .ok (.iload_n 3, 1) := by decide +kernel
theorem dL_law_1188 : decode cL_law 1188 = .ok (.iconst 1, 1) := by decide +kernel
theorem dL_law_1189 : decode cL_law 1189 = .ok (.iadd, 1) := by decide +kernel
theorem dL_law_1190 : decode cL_law 1190 = .ok (.iaload, 1) := by decide +kernel
theorem dL_law_1191 : decode cL_law 1191 = .ok (.invokevirtual 133, 3) := by decide +kernel
theorem dL_law_1194 : decode cL_law 1194 = .ok (.if_icmp .eq 1246, 3) := by decide +kernel
theorem dL_law_1197 : decode cL_law 1197 = .ok (.iconst 0, 1) := by decide +kernel
theorem dL_law_1198 : decode cL_law 1198 = .ok (.ireturn, 1) := by decide +kernel
theorem dL_law_1199 : decode cL_law 1199 = .ok (.aload_n 1, 1) := by decide +kernel
theorem dL_law_1200 : decode cL_law 1200 = .ok (.invokevirtual 134, 3) := by decide +kernel
theorem dL_law_1203 : decode cL_law 1203 = .ok (.aload_n 2, 1) := by decide +kernel
theorem dL_law_1204 : decode cL_law 1204 = .ok (.invokevirtual 137, 3) := by decide +kernel
theorem dL_law_1207 : decode cL_law 1207 = .ok (.if_icmp .eq 1233, 3) := by decide +kernel
theorem dL_law_1210 : decode cL_law 1210 = .ok (.iconst 0, 1) := by decide +kernel
theorem dL_law_1211 : decode cL_law 1211 = .ok (.ireturn, 1) := by decide +kernel
theorem dL_law_1212 : decode cL_law 1212 = .ok (.aload_n 1, 1) := by decide +kernel
theorem dL_law_1213 : decode cL_law 1213 = .ok (.aload_n 0, 1) := by decide +kernel
theorem dL_law_1214 : decode cL_law 1214 = .ok (.iload_n 3, 1) := by decide +kernel
theorem dL_law_1215 : decode cL_law 1215 = .ok (.iconst 1, 1) := by decide +kernel
theorem dL_law_1216 : decode cL_law 1216 = .ok (.iadd, 1) := by decide +kernel
theorem dL_law_1217 : decode cL_law 1217 = .ok (.iaload, 1) := by decide +kernel
theorem dL_law_1218 : decode cL_law 1218 = .ok (.invokevirtual 138, 3) := by decide +kernel
theorem dL_law_1221 : decode cL_law 1221 = .ok (.aload_n 2, 1) := by decide +kernel
theorem dL_law_1222 : decode cL_law 1222 = .ok (.aload_n 0, 1) := by decide +kernel
theorem dL_law_1223 : decode cL_law 1223 = .ok (.iload_n 3, 1) := by decide +kernel
theorem dL_law_1224 : decode cL_law 1224 = .ok (.iconst 1, 1) := by decide +kernel
theorem dL_law_1225 : decode cL_law 1225 = .ok (.iadd, 1) := by decide +kernel
theorem dL_law_1226 : decode cL_law 1226 = .ok (.iaload, 1) := by decide +kernel
theorem dL_law_1227 : decode cL_law 1227 = .ok (.invokevirtual 141, 3) := by decide +kernel
theorem dL_law_1230 : decode cL_law 1230 = .ok (.if_icmp .eq 1210, 3) := by decide +kernel
theorem dL_law_1233 : decode cL_law 1233 = .ok (.iconst 0, 1) := by decide +kernel
theorem dL_law_1234 : decode cL_law 1234 = .ok (.ireturn, 1) := by decide +kernel
theorem dL_law_1235 : decode cL_law 1235 = .ok (.aload_n 1, 1) := by decide +kernel
theorem dL_law_1236 : decode cL_law 1236 = .ok (.aload_n 0, 1) := by decide +kernel
theorem dL_law_1237 : decode cL_law 1237 = .ok (.iload_n 3, 1) := by decide +kernel
theorem dL_law_1238 : decode cL_law 1238 = .ok (.iconst 1, 1) := by decide +kernel
theorem dL_law_1239 : decode cL_law 1239 = .ok (.iadd, 1) := by decide +kernel
theorem dL_law_1240 : decode cL_law 1240 = .ok (.iaload, 1) := by decide +kernel
theorem dL_law_1241 : decode cL_law 1241 = .ok (.invokevirtual 142, 3) := by decide +kernel
theorem dL_law_1244 : decode cL_law 1244 = .ok (.aload_n 2, 1) := by decide +kernel
theorem dL_law_1245 : decode cL_law 1245 = .ok (.aload_n 0, 1) := by decide +kernel
theorem dL_law_1246 : decode cL_law 1246 = .ok (.iload_n 3, 1) := by decide +kernel
theorem dL_law_1247 : decode cL_law 1247 = .ok (.iconst 1, 1) := by decide +kernel
theorem dL_law_1248 : decode cL_law 1248 = .ok (.iadd, 1) := by decide +kernel
theorem dL_law_1249 : decode cL_law 1249 = .ok (.iaload, 1) := by decide +kernel
theorem dL_law_1250 : decode cL_law 1250 = .ok (.invokevirtual 145, 3) := by decide +kernel
theorem dL_law_1253 : decode cL_law 1253 = .ok (.if_icmp .eq 1187, 3) := by decide +kernel
theorem dL_law_1256 : decode cL_law 1256 = .ok (.iconst 0, 1) := by decide +kernel
theorem dL_law_1257 : decode cL_law 1257 = .ok (.ireturn, 1) := by decide +kernel
theorem dL_law_1258 : decode cL_law 1258 = .ok (.aload_n 1, 1) := by decide +kernel
theorem dL_law_1259 : decode cL_law 1259 = .ok (.aload_n 0, 1) := by decide +kernel
theorem dL_law_1260 : decode cL_law 1260 = .ok (.iload_n 3, 1) := by decide +kernel
theorem dL_law_1261 : decode cL_law 1261 = .ok (.iconst 1, 1) := by decide +kernel
theorem dL_law_1262 : decode cL_law 1262 = .ok (.iadd, 1) := by decide +kernel
theorem dL_law_1263 : decode cL_law 1263 = .ok (.iaload, 1) := by decide +kernel
theorem dL_law_1264 : decode cL_law 1264 = .ok (.invokevirtual 146, 3) := by decide +kernel
theorem dL_law_1267 : decode cL_law 1267 = .ok (.aload_n 2, 1) := by decide +kernel
theorem dL_law_1268 : decode cL_law 1268 = .ok (.aload_n 0, 1) := by decide +kernel
theorem dL_law_1269 : decode cL_law 1269 = .ok (.iload_n 3, 1) := by decide +kernel
theorem dL_law_1270 : decode cL_law 1270 = .ok (.iconst 1, 1) := by decide +kernel
theorem dL_law_1271 : decode cL_law 1271 = .ok (.iadd, 1) := by decide +kernel
theorem dL_law_1272 : decode cL_law 1272 = .ok (.iaload, 1) := by decide +kernel
theorem dL_law_1273 : decode cL_law 1273 = .ok (.invokevirtual 149, 3) := by decide +kernel
theorem dL_law_1276 : decode cL_law 1276 = .ok (.if_icmp .eq 1164, 3) := by decide +kernel
theorem dL_law_1279 : decode cL_law 1279 = .ok (.iconst 0, 1) := by decide +kernel
theorem dL_law_1280 : decode cL_law 1280 = .ok (.ireturn, 1) := by decide +kernel
theorem dL_law_1281 : decode cL_law 1281 = .ok (.aload_n 1, 1) := by decide +kernel
theorem dL_law_1282 : decode cL_law 1282 = .ok (.aload_n 0, 1) := by decide +kernel
theorem dL_law_1283 : decode cL_law 1283 = .ok (.iload_n 3, 1) := by decide +kernel
theorem dL_law_1284 : decode cL_law 1284 = .ok (.iconst 1, 1) := by decide +kernel
theorem dL_law_1285 : decode cL_law 1285 = .ok (.iadd, 1) := by decide +kernel
theorem dL_law_1286 : decode cL_law 1286 = .ok (.iaload, 1) := by decide +kernel
theorem dL_law_1287 : decode cL_law 1287 = .ok (.aload_n 0, 1) := by decide +kernel
theorem dL_law_1288 : decode cL_law 1288 = .ok (.iload_n 3, 1) := by decide +kernel
theorem dL_law_1289 : decode cL_law 1289 = .ok (.iconst 2, 1) := by decide +kernel
theorem dL_law_1290 : decode cL_law 1290 = .ok (.iadd, 1) := by decide +kernel
theorem dL_law_1291 : decode cL_law 1291 = .ok (.iaload, 1) := by decide +kernel
theorem dL_law_1292 : decode cL_law 1292 = .ok (.invokevirtual 150, 3) := by decide +kernel
theorem dL_law_1295 : decode cL_law 1295 = .ok (.aload_n 2, 1) := by decide +kernel
theorem dL_law_1296 : decode cL_law 1296 = .ok (.aload_n 0, 1) := by decide +kernel
theorem dL_law_1297 : decode cL_law 1297 = .ok (.iload_n 3, 1) := by decide +kernel
theorem dL_law_1298 : decode cL_law 1298 = .ok (.iconst 1, 1) := by decide +kernel
theorem dL_law_1299 : decode cL_law 1299 = .ok (.iadd, 1) := by decide +kernel
theorem dL_law_1300 : decode cL_law 1300 = .ok (.iaload, 1) := by decide +kernel
theorem dL_law_1301 : decode cL_law 1301 = .ok (.aload_n 0, 1) := by decide +kernel
theorem dL_law_1302 : decode cL_law 1302 = .ok (.iload_n 3, 1) := by decide +kernel
theorem dL_law_1303 : decode cL_law 1303 = .ok (.iconst 2, 1) := by decide +kernel
theorem dL_law_1304 : decode cL_law 1304 = .ok (.iadd, 1) := by decide +kernel
theorem dL_law_1305 : decode cL_law 1305 = .ok (.iaload, 1) := by decide +kernel
theorem dL_law_1306 : decode cL_law 1306 = .ok (.invokevirtual 153, 3) := by decide +kernel
theorem dL_law_1309 : decode cL_law 1309 = .ok (.if_icmp .eq 1131, 3) := by decide +kernel
theorem dL_law_1312 : decode cL_law 1312 = .ok (.iconst 0, 1) := by decide +kernel
theorem dL_law_1313 : decode cL_law 1313 = .ok (.ireturn, 1) := by decide +kernel
theorem dL_law_1314 : decode cL_law 1314 = .ok (.aload_n 1, 1) := by decide +kernel
theorem dL_law_1315 : decode cL_law 1315 = .ok (.aload_n 0, 1) := by decide +kernel
theorem dL_law_1316 : decode cL_law 1316 = .ok (.iload_n 3, 1) := by decide +kernel
theorem dL_law_1317 : decode cL_law 1317 = .ok (.iconst 1, 1) := by decide +kernel
theorem dL_law_1318 : decode cL_law 1318 = .ok (.iadd, 1) := by decide +kernel
theorem dL_law_1319 : decode cL_law 1319 = .ok (.iaload, 1) := by decide +kernel
theorem dL_law_1320 : decode cL_law 1320 = .ok (.aload_n 0, 1) := by decide +kernel
theorem dL_law_1321 : decode cL_law 1321 = .ok (.iload_n 3, 1) := by decide +kernel
theorem dL_law_1322 : decode cL_law 1322 = .ok (.iconst 2, 1) := by decide +kernel
theorem dL_law_1323 : decode cL_law 1323 = .ok (.iadd, 1) := by decide +kernel
theorem dL_law_1324 : decode cL_law 1324 = .ok (.iaload, 1) := by decide +kernel
theorem dL_law_1325 : decode cL_law 1325 = .ok (.invokevirtual 154, 3) := by decide +kernel
theorem dL_law_1328 : decode cL_law 1328 = .ok (.aload_n 2, 1) := by decide +kernel
theorem dL_law_1329 : decode cL_law 1329 = .ok (.aload_n 0, 1) := by decide +kernel
theorem dL_law_1330 : decode cL_law 1330 = .ok (.iload_n 3, 1) := by decide +kernel
theorem dL_law_1331 : decode cL_law 1331 = .ok (.iconst 1, 1) := by decide +kernel
theorem dL_law_1332 : decode cL_law 1332 = .ok (.iadd, 1) := by decide +kernel
theorem dL_law_1333 : decode cL_law 1333 = .ok (.iaload, 1) := by decide +kernel
theorem dL_law_1334 : decode cL_law 1334 = .ok (.aload_n 0, 1) := by decide +kernel
theorem dL_law_1335 : decode cL_law 1335 = .ok (.iload_n 3, 1) := by decide +kernel
theorem dL_law_1336 : decode cL_law 1336 = .ok (.iconst 2, 1) := by decide +kernel
theorem dL_law_1337 : decode cL_law 1337 = .ok (.iadd, 1) := by decide +kernel
theorem dL_law_1338 : decode cL_law 1338 = .ok (.iaload, 1) := by decide +kernel
theorem dL_law_1339 : decode cL_law 1339 = .ok (.invokevirtual 157, 3) := by decide +kernel
theorem dL_law_1342 : decode cL_law 1342 = .ok (.if_icmp .eq 1098, 3) := by decide +kernel
theorem dL_law_1345 : decode cL_law 1345 = .ok (.iconst 0, 1) := by decide +kernel
theorem dL_law_1346 : decode cL_law 1346 = .ok (.ireturn, 1) := by decide +kernel
theorem dL_law_1347 : decode cL_law 1347 = .ok (.aload_n 1, 1) := by decide +kernel
theorem dL_law_1348 : decode cL_law 1348 = .ok (.aload_n 0, 1) := by decide +kernel
theorem dL_law_1349 : decode cL_law 1349 = .ok (.iload_n 3, 1) := by decide +kernel
theorem dL_law_1350 : decode cL_law 1350 = .ok (.iconst 1, 1) := by decide +kernel
theorem dL_law_1351 : decode cL_law 1351 = .ok (.iadd, 1) := by decide +kernel
theorem dL_law_1352 : decode cL_law 1352 = .ok (.iaload, 1) := by decide +kernel
theorem dL_law_1353 : decode cL_law 1353 = .ok (.invokevirtual 158, 3) := by decide +kernel
theorem dL_law_1356 : decode cL_law 1356 = .ok (.aload_n 2, 1) := by decide +kernel
theorem dL_law_1357 : decode cL_law 1357 = .ok (.aload_n 0, 1) := by decide +kernel
theorem dL_law_1358 : decode cL_law 1358 = .ok (.iload_n 3, 1) := by decide +kernel
theorem dL_law_1359 : decode cL_law 1359 = .ok (.iconst 1, 1) := by decide +kernel
theorem dL_law_1360 : decode cL_law 1360 = .ok (.iadd, 1) := by decide +kernel
theorem dL_law_1361 : decode cL_law 1361 = .ok (.iaload, 1) := by decide +kernel
theorem dL_law_1362 : decode cL_law 1362 = .ok (.invokevirtual 161, 3) := by decide +kernel
theorem dL_law_1365 : decode cL_law 1365 = .ok (.if_icmp .eq 1075, 3) := by decide +kernel
theorem dL_law_1368 : decode cL_law 1368 = .ok (.iconst 0, 1) := by decide +kernel
theorem dL_law_1369 : decode cL_law 1369 = .ok (.ireturn, 1) := by decide +kernel
theorem dL_law_1370 : decode cL_law 1370 = .ok (.aload_n 1, 1) := by decide +kernel
theorem dL_law_1371 : decode cL_law 1371 = .ok (.aload_n 0, 1) := by decide +kernel
theorem dL_law_1372 : decode cL_law 1372 = .ok (.iload_n 3, 1) := by decide +kernel
theorem dL_law_1373 : decode cL_law 1373 = .ok (.iconst 1, 1) := by decide +kernel
theorem dL_law_1374 : decode cL_law 1374 = .ok (.iadd, 1) := by decide +kernel
theorem dL_law_1375 : decode cL_law 1375 = .ok (.iaload, 1) := by decide +kernel
theorem dL_law_1376 : decode cL_law 1376 = .ok (.invokevirtual 162, 3) := by decide +kernel
theorem dL_law_1379 : decode cL_law 1379 = .ok (.aload_n 2, 1) := by decide +kernel
theorem dL_law_1380 : decode cL_law 1380 = .ok (.aload_n 0, 1) := by decide +kernel
theorem dL_law_1381 : decode cL_law 1381 = .ok (.iload_n 3, 1) := by decide +kernel
theorem dL_law_1382 : decode cL_law 1382 = .ok (.iconst 1, 1) := by decide +kernel
theorem dL_law_1383 : decode cL_law 1383 = .ok (.iadd, 1) := by decide +kernel
theorem dL_law_1384 : decode cL_law 1384 = .ok (.iaload, 1) := by decide +kernel
theorem dL_law_1385 : decode cL_law 1385 = .ok (.invokevirtual 165, 3) := by decide +kernel
theorem dL_law_1388 : decode cL_law 1388 = .ok (.if_icmp .eq 1052, 3) := by decide +kernel
theorem dL_law_1391 : decode cL_law 1391 = .ok (.iconst 0, 1) := by decide +kernel
theorem dL_law_1392 : decode cL_law 1392 = .ok (.ireturn, 1) := by decide +kernel
theorem dL_law_1393 : decode cL_law 1393 = .ok (.aload_n 1, 1) := by decide +kernel
theorem dL_law_1394 : decode cL_law 1394 = .ok (.invokevirtual 166, 3) := by decide +kernel
theorem dL_law_1397 : decode cL_law 1397 = .ok (.aload_n 2, 1) := by decide +kernel
theorem dL_law_1398 : decode cL_law 1398 = .ok (.invokevirtual 169, 3) := by decide +kernel
theorem dL_law_1401 : decode cL_law 1401 = .ok (.if_icmp .eq 1039, 3) := by decide +kernel
theorem dL_law_1404 : decode cL_law 1404 = .ok (.iconst 0, 1) := by decide +kernel
theorem dL_law_1405 : decode cL_law 1405 = .ok (.ireturn, 1) := by decide +kernel
theorem dL_law_1406 : decode cL_law 1406 = .ok (.aload_n 1, 1) := by decide +kernel
theorem dL_law_1407 : decode cL_law 1407 = .ok (.invokevirtual 170, 3) := by decide +kernel
theorem dL_law_1410 : decode cL_law 1410 = .ok (.aload_n 2, 1) := by decide +kernel
theorem dL_law_1411 : decode cL_law 1411 = .ok (.invokevirtual 173, 3) := by decide +kernel
theorem dL_law_1414 : decode cL_law 1414 = .ok (.if_icmp .eq 1026, 3) := by decide +kernel
theorem dL_law_1417 : decode cL_law 1417 = .ok (.iconst 0, 1) := by decide +kernel
theorem dL_law_1418 : decode cL_law 1418 = .ok (.ireturn, 1) := by decide +kernel
theorem dL_law_1419 : decode cL_law 1419 = .ok (.aload_n 1, 1) := by decide +kernel
theorem dL_law_1420 : decode cL_law 1420 = .ok (.aload_n 0, 1) := by decide +kernel
theorem dL_law_1421 : decode cL_law 1421 = .ok (.iload_n 3, 1) := by decide +kernel
theorem dL_law_1422 : decode cL_law 1422 = .ok (.iconst 1, 1) := by decide +kernel
theorem dL_law_1423 : decode cL_law 1423 = .ok (.iadd, 1) := by decide +kernel
theorem dL_law_1424 : decode cL_law 1424 = .ok (.iaload, 1) := by decide +kernel
theorem dL_law_1425 : decode cL_law 1425 = .ok (.invokevirtual 174, 3) := by decide +kernel
theorem dL_law_1428 : decode cL_law 1428 = .ok (.aload_n 2, 1) := by decide +kernel
theorem dL_law_1429 : decode cL_law 1429 = .ok (.aload_n 0, 1) := by decide +kernel
theorem dL_law_1430 : decode cL_law 1430 = .ok (.iload_n 3, 1) := by decide +kernel
theorem dL_law_1431 : decode cL_law 1431 = .ok (.iconst 1, 1) := by decide +kernel
theorem dL_law_1432 : decode cL_law 1432 = .ok (.iadd, 1) := by decide +kernel
theorem dL_law_1433 : decode cL_law 1433 = .ok (.iaload, 1) := by decide +kernel
theorem dL_law_1434 : decode cL_law 1434 = .ok (.invokevirtual 177, 3) := by decide +kernel
theorem dL_law_1437 : decode cL_law 1437 = .ok (.if_icmp .eq 1003, 3) := by decide +kernel
theorem dL_law_1440 : decode cL_law 1440 = .ok (.iconst 0, 1) := by decide +kernel
theorem dL_law_1441 : decode cL_law 1441 = .ok (.ireturn, 1) := by decide +kernel
theorem dL_law_1442 : decode cL_law 1442 = .ok (.aload_n 1, 1) := by decide +kernel
theorem dL_law_1443 : decode cL_law 1443 = .ok (.invokevirtual 178, 3) := by decide +kernel
theorem dL_law_1446 : decode cL_law 1446 = .ok (.aload_n 2, 1) := by decide +kernel
theorem dL_law_1447 : decode cL_law 1447 = .ok (.invokevirtual 181, 3) := by decide +kernel
theorem dL_law_1450 : decode cL_law 1450 = .ok (.if_icmp .eq 990, 3) := by decide +kernel
theorem dL_law_1453 : decode cL_law 1453 = .ok (.iconst 0, 1) := by decide +kernel
theorem dL_law_1454 : decode cL_law 1454 = .ok (.ireturn, 1) := by decide +kernel
theorem dL_law_1455 : decode cL_law 1455 = .ok (.aload_n 1, 1) := by decide +kernel
theorem dL_law_1456 : decode cL_law 1456 = .ok (.invokevirtual 182, 3) := by decide +kernel
theorem dL_law_1459 : decode cL_law 1459 = .ok (.aload_n 2, 1) := by decide +kernel
theorem dL_law_1460 : decode cL_law 1460 = .ok (.invokevirtual 185, 3) := by decide +kernel
theorem dL_law_1463 : decode cL_law 1463 = .ok (.if_icmp .eq 977, 3) := by decide +kernel
theorem dL_law_1466 : decode cL_law 1466 = .ok (.iconst 0, 1) := by decide +kernel
theorem dL_law_1467 : decode cL_law 1467 = .ok (.ireturn, 1) := by decide +kernel
theorem dL_law_1468 : decode cL_law 1468 = .ok (.aload_n 1, 1) := by decide +kernel
theorem dL_law_1469 : decode cL_law 1469 = .ok (.invokevirtual 186, 3) := by decide +kernel
theorem dL_law_1472 : decode cL_law 1472 = .ok (.aload_n 2, 1) := by decide +kernel
theorem dL_law_1473 : decode cL_law 1473 = .ok (.invokevirtual 189, 3) := by decide +kernel
theorem dL_law_1476 : decode cL_law 1476 = .ok (.if_icmp .eq 964, 3) := by decide +kernel
theorem dL_law_1479 : decode cL_law 1479 = .ok (.iconst 0, 1) := by decide +kernel
theorem dL_law_1480 : decode cL_law 1480 = .ok (.ireturn, 1) := by decide +kernel
theorem dL_law_1481 : decode cL_law 1481 = .ok (.aload_n 1, 1) := by decide +kernel
theorem dL_law_1482 : decode cL_law 1482 = .ok (.invokevirtual 190, 3) := by decide +kernel
theorem dL_law_1485 : decode cL_law 1485 = .ok (.aload_n 2, 1) := by decide +kernel
theorem dL_law_1486 : decode cL_law 1486 = .ok (.invokevirtual 193, 3) := by decide +kernel
theorem dL_law_1489 : decode cL_law 1489 = .ok (.if_icmp .eq 951, 3) := by decide +kernel
theorem dL_law_1492 : decode cL_law 1492 = .ok (.iconst 0, 1) := by decide +kernel
theorem dL_law_1493 : decode cL_law 1493 = .ok (.ireturn, 1) := by decide +kernel
theorem dL_law_1494 : decode cL_law 1494 = .ok (.aload_n 1, 1) := by decide +kernel
theorem dL_law_1495 : decode cL_law 1495 = .ok (.aload_n 0, 1) := by decide +kernel
theorem dL_law_1496 : decode cL_law 1496 = .ok (.iload_n 3, 1) := by decide +kernel
theorem dL_law_1497 : decode cL_law 1497 = .ok (.iconst 1, 1) := by decide +kernel
theorem dL_law_1498 : decode cL_law 1498 = .ok (.iadd, 1) := by decide +kernel
theorem dL_law_1499 : decode cL_law 1499 = .ok (.iaload, 1) := by decide +kernel
theorem dL_law_1500 : decode cL_law 1500 = .ok (.invokevirtual 194, 3) := by decide +kernel
theorem dL_law_1503 : decode cL_law 1503 = .ok (.aload_n 2, 1) := by decide +kernel
theorem dL_law_1504 : decode cL_law 1504 = .ok (.aload_n 0, 1) := by decide +kernel
theorem dL_law_1505 : decode cL_law 1505 = .ok (.iload_n 3, 1) := by decide +kernel
theorem dL_law_1506 : decode cL_law 1506 = .ok (.iconst 1, 1) := by decide +kernel
theorem dL_law_1507 : decode cL_law 1507 = .ok (.iadd, 1) := by decide +kernel
theorem dL_law_1508 : decode cL_law 1508 = .ok (.iaload, 1) := by decide +kernel
theorem dL_law_1509 : decode cL_law 1509 = .ok (.invokevirtual 197, 3) := by decide +kernel
theorem dL_law_1512 : decode cL_law 1512 = .ok (.if_icmp .eq 928, 3) := by decide +kernel
theorem dL_law_1515 : decode cL_law 1515 = .ok (.iconst 0, 1) := by decide +kernel
theorem dL_law_1516 : decode cL_law 1516 = .ok (.ireturn, 1) := by decide +kernel
theorem dL_law_1517 : decode cL_law 1517 = .ok (.aload_n 1, 1) := by decide +kernel
theorem dL_law_1518 : decode cL_law 1518 = .ok (.aload_n 0, 1) := by decide +kernel
theorem dL_law_1519 : decode cL_law 1519 = .ok (.iload_n 3, 1) := by decide +kernel
theorem dL_law_1520 : decode cL_law 1520 = .ok (.iconst 1, 1) := by decide +kernel
theorem dL_law_1521 : decode cL_law 1521 = .ok (.iadd, 1) := by decide +kernel
theorem dL_law_1522 : decode cL_law 1522 = .ok (.iaload, 1) := by decide +kernel
theorem dL_law_1523 : decode cL_law 1523 = .ok (.invokevirtual 198, 3) := by decide +kernel
theorem dL_law_1526 : decode cL_law 1526 = .ok (.aload_n 2, 1) := by decide +kernel
theorem dL_law_1527 : decode cL_law 1527 = .ok (.aload_n 0, 1) := by decide +kernel
theorem dL_law_1528 : decode cL_law 1528 = .ok (.iload_n 3, 1) := by decide +kernel
theorem dL_law_1529 : decode cL_law 1529 = .ok (.iconst 1, 1) := by decide +kernel
theorem dL_law_1530 : decode cL_law 1530 = .ok (.iadd, 1) := by decide +kernel
theorem dL_law_1531 : decode cL_law 1531 = .ok (.iaload, 1) := by decide +kernel
theorem dL_law_1532 : decode cL_law 1532 = .ok (.invokevirtual 201, 3) := by decide +kernel
theorem dL_law_1535 : decode cL_law 1535 = .ok (.if_icmp .eq 905, 3) := by decide +kernel
theorem dL_law_1538 : decode cL_law 1538 = .ok (.iconst 0, 1) := by decide +kernel
theorem dL_law_1539 : decode cL_law 1539 = .ok (.ireturn, 1) := by decide +kernel
theorem dL_law_1540 : decode cL_law 1540 = .ok (.aload_n 1, 1) := by decide +kernel
theorem dL_law_1541 : decode cL_law 1541 = .ok (.invokevirtual 202, 3) := by decide +kernel
theorem dL_law_1544 : decode cL_law 1544 = .ok (.aload_n 2, 1) := by decide +kernel
theorem dL_law_1545 : decode cL_law 1545 = .ok (.invokevirtual 205, 3) := by decide +kernel
theorem dL_law_1548 : decode cL_law 1548 = .ok (.if_icmp .eq 892, 3) := by decide +kernel
theorem dL_law_1551 : decode cL_law 1551 = .ok (.iconst 0, 1) := by decide +kernel
theorem dL_law_1552 : decode cL_law 1552 = .ok (.ireturn, 1) := by decide +kernel
theorem dL_law_1553 : decode cL_law 1553 = .ok (.aload_n 1, 1) := by decide +kernel
theorem dL_law_1554 : decode cL_law 1554 = .ok (.aload_n 0, 1) := by decide +kernel
theorem dL_law_1555 : decode cL_law 1555 = .ok (.iload_n 3, 1) := by decide +kernel
theorem dL_law_1556 : decode cL_law 1556 = .ok (.iconst 1, 1) := by decide +kernel
theorem dL_law_1557 : decode cL_law 1557 = .ok (.iadd, 1) := by decide +kernel
theorem dL_law_1558 : decode cL_law 1558 = .ok (.iaload, 1) := by decide +kernel
theorem dL_law_1559 : decode cL_law 1559 = .ok (.aload_n 0, 1) := by decide +kernel
theorem dL_law_1560 : decode cL_law 1560 = .ok (.iload_n 3, 1) := by decide +kernel
theorem dL_law_1561 : decode cL_law 1561 = .ok (.iconst 2, 1) := by decide +kernel
theorem dL_law_1562 : decode cL_law 1562 = .ok (.iadd, 1) := by decide +kernel
theorem dL_law_1563 : decode cL_law 1563 = .ok (.iaload, 1) := by decide +kernel
theorem dL_law_1564 : decode cL_law 1564 = .ok (.invokevirtual 206, 3) := by decide +kernel
theorem dL_law_1567 : decode cL_law 1567 = .ok (.aload_n 2, 1) := by decide +kernel
theorem dL_law_1568 : decode cL_law 1568 = .ok (.aload_n 0, 1) := by decide +kernel
theorem dL_law_1569 : decode cL_law 1569 = .ok (.iload_n 3, 1) := by decide +kernel
theorem dL_law_1570 : decode cL_law 1570 = .ok (.iconst 1, 1) := by decide +kernel
theorem dL_law_1571 : decode cL_law 1571 = .ok (.iadd, 1) := by decide +kernel
theorem dL_law_1572 : decode cL_law 1572 = .ok (.iaload, 1) := by decide +kernel
theorem dL_law_1573 : decode cL_law 1573 = .ok (.aload_n 0, 1) := by decide +kernel
theorem dL_law_1574 : decode cL_law 1574 = .ok (.iload_n 3, 1) := by decide +kernel
theorem dL_law_1575 : decode cL_law 1575 = .ok (.iconst 2, 1) := by decide +kernel
theorem dL_law_1576 : decode cL_law 1576 = .ok (.iadd, 1) := by decide +kernel
theorem dL_law_1577 : decode cL_law 1577 = .ok (.iaload, 1) := by decide +kernel
theorem dL_law_1578 : decode cL_law 1578 = .ok (.invokevirtual 209, 3) := by decide +kernel
theorem dL_law_1581 : decode cL_law 1581 = .ok (.if_icmp .eq 859, 3) := by decide +kernel
theorem dL_law_1584 : decode cL_law 1584 = .ok (.iconst 0, 1) := by decide +kernel
theorem dL_law_1585 : decode cL_law 1585 = .ok (.ireturn, 1) := by decide +kernel
theorem dL_law_1586 : decode cL_law 1586 = .ok (.aload_n 1, 1) := by decide +kernel
theorem dL_law_1587 : decode cL_law 1587 = .ok (.aload_n 0, 1) := by decide +kernel
theorem dL_law_1588 : decode cL_law 1588 = .ok (.iload_n 3, 1) := by decide +kernel
theorem dL_law_1589 : decode cL_law 1589 = .ok (.iconst 1, 1) := by decide +kernel
theorem dL_law_1590 : decode cL_law 1590 = .ok (.iadd, 1) := by decide +kernel
theorem dL_law_1591 : decode cL_law 1591 = .ok (.iaload, 1) := by decide +kernel
theorem dL_law_1592 : decode cL_law 1592 = .ok (.aload_n 0, 1) := by decide +kernel
theorem dL_law_1593 : decode cL_law 1593 = .ok (.iload_n 3, 1) := by decide +kernel
theorem dL_law_1594 : decode cL_law 1594 = .ok (.iconst 2, 1) := by decide +kernel
theorem dL_law_1595 : decode cL_law 1595 = .ok (.iadd, 1) := by decide +kernel
theorem dL_law_1596 : decode cL_law 1596 = .ok (.iaload, 1) := by decide +kernel
theorem dL_law_1597 : decode cL_law 1597 = .ok (.aload_n 0, 1) := by decide +kernel
theorem dL_law_1598 : decode cL_law 1598 = .ok (.iload_n 3, 1) := by decide +kernel
theorem dL_law_1599 : decode cL_law 1599 = .ok (.iconst 3, 1) := by decide +kernel
theorem dL_law_1600 : decode cL_law 1600 = .ok (.iadd, 1) := by decide +kernel
theorem dL_law_1601 : decode cL_law 1601 = .ok (.iaload, 1) := by decide +kernel
theorem dL_law_1602 : decode cL_law 1602 = .ok (.aload_n 0, 1) := by decide +kernel
theorem dL_law_1603 : decode cL_law 1603 = .ok (.iload_n 3, 1) := by decide +kernel
theorem dL_law_1604 : decode cL_law 1604 = .ok (.iconst 4, 1) := by decide +kernel
theorem dL_law_1605 : decode cL_law 1605 = .ok (.iadd, 1) := by decide +kernel
theorem dL_law_1606 : decode cL_law 1606 = .ok (.iaload, 1) := by decide +kernel
theorem dL_law_1607 : decode cL_law 1607 = .ok (.invokevirtual 210, 3) := by decide +kernel
theorem dL_law_1610 : decode cL_law 1610 = .ok (.aload_n 2, 1) := by decide +kernel
theorem dL_law_1611 : decode cL_law 1611 = .ok (.aload_n 0, 1) := by decide +kernel
theorem dL_law_1612 : decode cL_law 1612 = .ok (.iload_n 3, 1) := by decide +kernel
theorem dL_law_1613 : decode cL_law 1613 = .ok (.iconst 1, 1) := by decide +kernel
theorem dL_law_1614 : decode cL_law 1614 = .ok (.iadd, 1) := by decide +kernel
theorem dL_law_1615 : decode cL_law 1615 = .ok (.iaload, 1) := by decide +kernel
theorem dL_law_1616 : decode cL_law 1616 = .ok (.aload_n 0, 1) := by decide +kernel
theorem dL_law_1617 : decode cL_law 1617 = .ok (.iload_n 3, 1) := by decide +kernel
theorem dL_law_1618 : decode cL_law 1618 = .ok (.iconst 2, 1) := by decide +kernel
theorem dL_law_1619 : decode cL_law 1619 = .ok (.iadd, 1) := by decide +kernel
theorem dL_law_1620 : decode cL_law 1620 = .ok (.iaload, 1) := by decide +kernel
theorem dL_law_1621 : decode cL_law 1621 = .ok (.aload_n 0, 1) := by decide +kernel
theorem dL_law_1622 : decode cL_law 1622 = .ok (.iload_n 3, 1) := by decide +kernel
theorem dL_law_1623 : decode cL_law 1623 = .ok (.iconst 3, 1) := by decide +kernel
theorem dL_law_1624 : decode cL_law 1624 = .ok (.iadd, 1) := by decide +kernel
theorem dL_law_1625 : decode cL_law 1625 = .ok (.iaload, 1) := by decide +kernel
theorem dL_law_1626 : decode cL_law 1626 = .ok (.aload_n 0, 1) := by decide +kernel
theorem dL_law_1627 : decode cL_law 1627 = .ok (.iload_n 3, 1) := by decide +kernel
theorem dL_law_1628 : decode cL_law 1628 = .ok (.iconst 4, 1) := by decide +kernel
theorem dL_law_1629 : decode cL_law 1629 = .ok (.iadd, 1) := by decide +kernel
theorem dL_law_1630 : decode cL_law 1630 = .ok (.iaload, 1) := by decide +kernel
theorem dL_law_1631 : decode cL_law 1631 = .ok (.invokevirtual 214, 3) := by decide +kernel
theorem dL_law_1634 : decode cL_law 1634 = .ok (.if_icmp .eq 806, 3) := by decide +kernel
theorem dL_law_1637 : decode cL_law 1637 = .ok (.iconst 0, 1) := by decide +kernel
theorem dL_law_1638 : decode cL_law 1638 = .ok (.ireturn, 1) := by decide +kernel
theorem dL_law_1639 : decode cL_law 1639 = .ok (.aload_n 1, 1) := by decide +kernel
theorem dL_law_1640 : decode cL_law 1640 = .ok (.aload_n 0, 1) := by decide +kernel
theorem dL_law_1641 : decode cL_law 1641 = .ok (.iload_n 3, 1) := by decide +kernel
theorem dL_law_1642 : decode cL_law 1642 = .ok (.iconst 1, 1) := by decide +kernel
theorem dL_law_1643 : decode cL_law 1643 = .ok (.iadd, 1) := by decide +kernel
theorem dL_law_1644 : decode cL_law 1644 = .ok (.iaload, 1) := by decide +kernel
theorem dL_law_1645 : decode cL_law 1645 = .ok (.aload_n 0, 1) := by decide +kernel
theorem dL_law_1646 : decode cL_law 1646 = .ok (.iload_n 3, 1) := by decide +kernel
theorem dL_law_1647 : decode cL_law 1647 = .ok (.iconst 2, 1) := by decide +kernel
theorem dL_law_1648 : decode cL_law 1648 = .ok (.iadd, 1) := by decide +kernel
theorem dL_law_1649 : decode cL_law 1649 = .ok (.iaload, 1) := by decide +kernel
theorem dL_law_1650 : decode cL_law 1650 = .ok (.aload_n 0, 1) := by decide +kernel
theorem dL_law_1651 : decode cL_law 1651 = .ok (.iload_n 3, 1) := by decide +kernel
theorem dL_law_1652 : decode cL_law 1652 = .ok (.iconst 3, 1) := by decide +kernel
theorem dL_law_1653 : decode cL_law 1653 = .ok (.iadd, 1) := by decide +kernel
theorem dL_law_1654 : decode cL_law 1654 = .ok (.iaload, 1) := by decide +kernel
theorem dL_law_1655 : decode cL_law 1655 = .ok (.invokevirtual 215, 3) := by decide +kernel
theorem dL_law_1658 : decode cL_law 1658 = .ok (.aload_n 2, 1) := by decide +kernel
theorem dL_law_1659 : decode cL_law 1659 = .ok (.aload_n 0, 1) := by decide +kernel
theorem dL_law_1660 : decode cL_law 1660 = .ok (.iload_n 3, 1) := by decide +kernel
theorem dL_law_1661 : decode cL_law 1661 = .ok (.iconst 1, 1) := by decide +kernel
theorem dL_law_1662 : decode cL_law 1662 = .ok (.iadd, 1) := by decide +kernel
theorem dL_law_1663 : decode cL_law 1663 = .ok (.iaload, 1) := by decide +kernel
theorem dL_law_1664 : decode cL_law 1664 = .ok (.aload_n 0, 1) := by decide +kernel
theorem dL_law_1665 : decode cL_law 1665 = .ok (.iload_n 3, 1) := by decide +kernel
theorem dL_law_1666 : decode cL_law 1666 = .ok (.iconst 2, 1) := by decide +kernel
theorem dL_law_1667 : decode cL_law 1667 = .ok (.iadd, 1) := by decide +kernel
theorem dL_law_1668 : decode cL_law 1668 = .ok (.iaload, 1) := by decide +kernel
theorem dL_law_1669 : decode cL_law 1669 = .ok (.aload_n 0, 1) := by decide +kernel
theorem dL_law_1670 : decode cL_law 1670 = .ok (.iload_n 3, 1) := by decide +kernel
theorem dL_law_1671 : decode cL_law 1671 = .ok (.iconst 3, 1) := by decide +kernel
theorem dL_law_1672 : decode cL_law 1672 = .ok (.iadd, 1) := by decide +kernel
theorem dL_law_1673 : decode cL_law 1673 = .ok (.iaload, 1) := by decide +kernel
theorem dL_law_1674 : decode cL_law 1674 = .ok (.invokevirtual 218, 3) := by decide +kernel
theorem dL_law_1677 : decode cL_law 1677 = .ok (.if_icmp .eq 763, 3) := by decide +kernel
theorem dL_law_1680 : decode cL_law 1680 = .ok (.iconst 0, 1) := by decide +kernel
theorem dL_law_1681 : decode cL_law 1681 = .ok (.ireturn, 1) := by decide +kernel
theorem dL_law_1682 : decode cL_law 1682 = .ok (.aload_n 1, 1) := by decide +kernel
theorem dL_law_1683 : decode cL_law 1683 = .ok (.aload_n 0, 1) := by decide +kernel
theorem dL_law_1684 : decode cL_law 1684 = .ok (.iload_n 3, 1) := by decide +kernel
theorem dL_law_1685 : decode cL_law 1685 = .ok (.iconst 1, 1) := by decide +kernel
theorem dL_law_1686 : decode cL_law 1686 = .ok (.iadd, 1) := by decide +kernel
theorem dL_law_1687 : decode cL_law 1687 = .ok (.iaload, 1) := by decide +kernel
theorem dL_law_1688 : decode cL_law 1688 = .ok (.invokevirtual 219, 3) := by decide +kernel
theorem dL_law_1691 : decode cL_law 1691 = .ok (.aload_n 2, 1) := by decide +kernel
theorem dL_law_1692 : decode cL_law 1692 = .ok (.aload_n 0, 1) := by decide +kernel
theorem dL_law_1693 : decode cL_law 1693 = .ok (.iload_n 3, 1) := by decide +kernel
theorem dL_law_1694 : decode cL_law 1694 = .ok (.iconst 1, 1) := by decide +kernel
theorem dL_law_1695 : decode cL_law 1695 = .ok (.iadd, 1) := by decide +kernel
theorem dL_law_1696 : decode cL_law 1696 = .ok (.iaload, 1) := by decide +kernel
theorem dL_law_1697 : decode cL_law 1697 = .ok (.invokevirtual 222, 3) := by decide +kernel
theorem dL_law_1700 : decode cL_law 1700 = .ok (.if_icmp .eq 740, 3) := by decide +kernel
theorem dL_law_1703 : decode cL_law 1703 = .ok (.iconst 0, 1) := by decide +kernel
theorem dL_law_1704 : decode cL_law 1704 = .ok (.ireturn, 1) := by decide +kernel
theorem dL_law_1705 : decode cL_law 1705 = .ok (.aload_n 1, 1) := by decide +kernel
theorem dL_law_1706 : decode cL_law 1706 = .ok (.invokevirtual 223, 3) := by decide +kernel
theorem dL_law_1709 : decode cL_law 1709 = .ok (.aload_n 2, 1) := by decide +kernel
theorem dL_law_1710 : decode cL_law 1710 = .ok (.invokevirtual 226, 3) := by decide +kernel
theorem dL_law_1713 : decode cL_law 1713 = .ok (.if_icmp .eq 727, 3) := by decide +kernel
theorem dL_law_1716 : decode cL_law 1716 = .ok (.iconst 0, 1) := by decide +kernel
theorem dL_law_1717 : decode cL_law 1717 = .ok (.ireturn, 1) := by decide +kernel
theorem dL_law_1718 : decode cL_law 1718 = .ok (.aload_n 1, 1) := by decide +kernel
theorem dL_law_1719 : decode cL_law 1719 = .ok (.invokevirtual 227, 3) := by decide +kernel
theorem dL_law_1722 : decode cL_law 1722 = .ok (.aload_n 2, 1) := by decide +kernel
theorem dL_law_1723 : decode cL_law 1723 = .ok (.invokevirtual 230, 3) := by decide +kernel
theorem dL_law_1726 : decode cL_law 1726 = .ok (.if_icmp .eq 714, 3) := by decide +kernel
theorem dL_law_1729 : decode cL_law 1729 = .ok (.iconst 0, 1) := by decide +kernel
theorem dL_law_1730 : decode cL_law 1730 = .ok (.ireturn, 1) := by decide +kernel
theorem dL_law_1731 : decode cL_law 1731 = .ok (.aload_n 1, 1) := by decide +kernel
theorem dL_law_1732 : decode cL_law 1732 = .ok (.aload_n 0, 1) := by decide +kernel
theorem dL_law_1733 : decode cL_law 1733 = .ok (.iload_n 3, 1) := by decide +kernel
theorem dL_law_1734 : decode cL_law 1734 = .ok (.iconst 1, 1) := by decide +kernel
theorem dL_law_1735 : decode cL_law 1735 = .ok (.iadd, 1) := by decide +kernel
theorem dL_law_1736 : decode cL_law 1736 = .ok (.iaload, 1) := by decide +kernel
theorem dL_law_1737 : decode cL_law 1737 = .ok (.aload_n 0, 1) := by decide +kernel
theorem dL_law_1738 : decode cL_law 1738 = .ok (.iload_n 3, 1) := by decide +kernel
theorem dL_law_1739 : decode cL_law 1739 = .ok (.iconst 2, 1) := by decide +kernel
theorem dL_law_1740 : decode cL_law 1740 = .ok (.iadd, 1) := by decide +kernel
theorem dL_law_1741 : decode cL_law 1741 = .ok (.iaload, 1) := by decide +kernel
theorem dL_law_1742 : decode cL_law 1742 = .ok (.invokevirtual 231, 3) := by decide +kernel
theorem dL_law_1745 : decode cL_law 1745 = .ok (.aload_n 2, 1) := by decide +kernel
theorem dL_law_1746 : decode cL_law 1746 = .ok (.aload_n 0, 1) := by decide +kernel
theorem dL_law_1747 : decode cL_law 1747 = .ok (.iload_n 3, 1) := by decide +kernel
theorem dL_law_1748 : decode cL_law 1748 = .ok (.iconst 1, 1) := by decide +kernel
theorem dL_law_1749 : decode cL_law 1749 = .ok (.iadd, 1) := by decide +kernel
theorem dL_law_1750 : decode cL_law 1750 = .ok (.iaload, 1) := by decide +kernel
theorem dL_law_1751 : decode cL_law 1751 = .ok (.aload_n 0, 1) := by decide +kernel
theorem dL_law_1752 : decode cL_law 1752 = .ok (.iload_n 3, 1) := by decide +kernel
theorem dL_law_1753 : decode cL_law 1753 = .ok (.iconst 2, 1) := by decide +kernel
theorem dL_law_1754 : decode cL_law 1754 = .ok (.iadd, 1) := by decide +kernel
theorem dL_law_1755 : decode cL_law 1755 = .ok (.iaload, 1) := by decide +kernel
theorem dL_law_1756 : decode cL_law 1756 = .ok (.invokevirtual 234, 3) := by decide +kernel
theorem dL_law_1759 : decode cL_law 1759 = .ok (.if_icmp .eq 681, 3) := by decide +kernel
theorem dL_law_1762 : decode cL_law 1762 = .ok (.iconst 0, 1) := by decide +kernel
theorem dL_law_1763 : decode cL_law 1763 = .ok (.ireturn, 1) := by decide +kernel
theorem dL_law_1764 : decode cL_law 1764 = .ok (.aload_n 1, 1) := by decide +kernel
theorem dL_law_1765 : decode cL_law 1765 = .ok (.aload_n 0, 1) := by decide +kernel
theorem dL_law_1766 : decode cL_law 1766 = .ok (.iload_n 3, 1) := by decide +kernel
theorem dL_law_1767 : decode cL_law 1767 = .ok (.iconst 1, 1) := by decide +kernel
theorem dL_law_1768 : decode cL_law 1768 = .ok (.iadd, 1) := by decide +kernel
theorem dL_law_1769 : decode cL_law 1769 = .ok (.iaload, 1) := by decide +kernel
theorem dL_law_1770 : decode cL_law 1770 = .ok (.invokevirtual 235, 3) := by decide +kernel
theorem dL_law_1773 : decode cL_law 1773 = .ok (.aload_n 2, 1) := by decide +kernel
theorem dL_law_1774 : decode cL_law 1774 = .ok (.aload_n 0, 1) := by decide +kernel
theorem dL_law_1775 : decode cL_law 1775 = .ok (.iload_n 3, 1) := by decide +kernel
theorem dL_law_1776 : decode cL_law 1776 = .ok (.iconst 1, 1) := by decide +kernel
theorem dL_law_1777 : decode cL_law 1777 = .ok (.iadd, 1) := by decide +kernel
theorem dL_law_1778 : decode cL_law 1778 = .ok (.iaload, 1) := by decide +kernel
theorem dL_law_1779 : decode cL_law 1779 = .ok (.invokevirtual 238, 3) := by decide +kernel
theorem dL_law_1782 : decode cL_law 1782 = .ok (.if_icmp .eq 658, 3) := by decide +kernel
theorem dL_law_1785 : decode cL_law 1785 = .ok (.iconst 0, 1) := by decide +kernel
theorem dL_law_1786 : decode cL_law 1786 = .ok (.ireturn, 1) := by decide +kernel
theorem dL_law_1787 : decode cL_law 1787 = .ok (.aload_n 1, 1) := by decide +kernel
theorem dL_law_1788 : decode cL_law 1788 = .ok (.aload_n 0, 1) := by decide +kernel
theorem dL_law_1789 : decode cL_law 1789 = .ok (.iload_n 3, 1) := by decide +kernel
theorem dL_law_1790 : decode cL_law 1790 = .ok (.iconst 1, 1) := by decide +kernel
theorem dL_law_1791 : decode cL_law 1791 = .ok (.iadd, 1) := by decide +kernel
theorem dL_law_1792 : decode cL_law 1792 = .ok (.iaload, 1) := by decide +kernel
theorem dL_law_1793 : decode cL_law 1793 = .ok (.invokevirtual 239, 3) := by decide +kernel
theorem dL_law_1796 : decode cL_law 1796 = .ok (.aload_n 2, 1) := by decide +kernel
theorem dL_law_1797 : decode cL_law 1797 = .ok (.aload_n 0, 1) := by decide +kernel
theorem dL_law_1798 : decode cL_law 1798 = .ok (.iload_n 3, 1) := by decide +kernel
theorem dL_law_1799 : decode cL_law 1799 = .ok (.iconst 1, 1) := by decide +kernel
theorem dL_law_1800 : decode cL_law 1800 = .ok (.iadd, 1) := by decide +kernel
theorem dL_law_1801 : decode cL_law 1801 = .ok (.iaload, 1) := by decide +kernel
theorem dL_law_1802 : decode cL_law 1802 = .ok (.invokevirtual 242, 3) := by decide +kernel
theorem dL_law_1805 : decode cL_law 1805 = .ok (.if_icmp .eq 635, 3) := by decide +kernel
theorem dL_law_1808 : decode cL_law 1808 = .ok (.iconst 0, 1) := by decide +kernel
theorem dL_law_1809 : decode cL_law 1809 = .ok (.ireturn, 1) := by decide +kernel
theorem dL_law_1810 : decode cL_law 1810 = .ok (.aload_n 1, 1) := by decide +kernel
theorem dL_law_1811 : decode cL_law 1811 = .ok (.aload_n 0, 1) := by decide +kernel
theorem dL_law_1812 : decode cL_law 1812 = .ok (.iload_n 3, 1) := by decide +kernel
theorem dL_law_1813 : decode cL_law 1813 = .ok (.iconst 1, 1) := by decide +kernel
theorem dL_law_1814 : decode cL_law 1814 = .ok (.iadd, 1) := by decide +kernel
theorem dL_law_1815 : decode cL_law 1815 = .ok (.iaload, 1) := by decide +kernel
theorem dL_law_1816 : decode cL_law 1816 = .ok (.invokevirtual 243, 3) := by decide +kernel
theorem dL_law_1819 : decode cL_law 1819 = .ok (.aload_n 2, 1) := by decide +kernel
theorem dL_law_1820 : decode cL_law 1820 = .ok (.aload_n 0, 1) := by decide +kernel
theorem dL_law_1821 : decode cL_law 1821 = .ok (.iload_n 3, 1) := by decide +kernel
theorem dL_law_1822 : decode cL_law 1822 = .ok (.iconst 1, 1) := by decide +kernel
theorem dL_law_1823 : decode cL_law 1823 = .ok (.iadd, 1) := by decide +kernel
theorem dL_law_1824 : decode cL_law 1824 = .ok (.iaload, 1) := by decide +kernel
theorem dL_law_1825 : decode cL_law 1825 = .ok (.invokevirtual 246, 3) := by decide +kernel
theorem dL_law_1828 : decode cL_law 1828 = .ok (.if_icmp .eq 612, 3) := by decide +kernel
theorem dL_law_1831 : decode cL_law 1831 = .ok (.iconst 0, 1) := by decide +kernel
theorem dL_law_1832 : decode cL_law 1832 = .ok (.ireturn, 1) := by decide +kernel
theorem dL_law_1833 : decode cL_law 1833 = .ok (.aload_n 1, 1) := by decide +kernel
theorem dL_law_1834 : decode cL_law 1834 = .ok (.aload_n 0, 1) := by decide +kernel
theorem dL_law_1835 : decode cL_law 1835 = .ok (.iload_n 3, 1) := by decide +kernel
theorem dL_law_1836 : decode cL_law 1836 = .ok (.iconst 1, 1) := by decide +kernel
theorem dL_law_1837 : decode cL_law 1837 = .ok (.iadd, 1) := by decide +kernel
theorem dL_law_1838 : decode cL_law 1838 = .ok (.iaload, 1) := by decide +kernel
theorem dL_law_1839 : decode cL_law 1839 = .ok (.invokevirtual 247, 3) := by decide +kernel
theorem dL_law_1842 : decode cL_law 1842 = .ok (.aload_n 2, 1) := by decide +kernel
theorem dL_law_1843 : decode cL_law 1843 = .ok (.aload_n 0, 1) := by decide +kernel
theorem dL_law_1844 : decode cL_law 1844 = .ok (.iload_n 3, 1) := by decide +kernel
theorem dL_law_1845 : decode cL_law 1845 = .ok (.iconst 1, 1) := by decide +kernel
theorem dL_law_1846 : decode cL_law 1846 = .ok (.iadd, 1) := by decide +kernel
theorem dL_law_1847 : decode cL_law 1847 = .ok (.iaload, 1) := by decide +kernel
theorem dL_law_1848 : decode cL_law 1848 = .ok (.invokevirtual 250, 3) := by decide +kernel
theorem dL_law_1851 : decode cL_law 1851 = .ok (.if_icmp .eq 589, 3) := by decide +kernel
theorem dL_law_1854 : decode cL_law 1854 = .ok (.iconst 0, 1) := by decide +kernel
theorem dL_law_1855 : decode cL_law 1855 = .ok (.ireturn, 1) := by decide +kernel
theorem dL_law_1856 : decode cL_law 1856 = .ok (.aload_n 1, 1) := by decide +kernel
theorem dL_law_1857 : decode cL_law 1857 = .ok (.aload_n 0, 1) := by decide +kernel
theorem dL_law_1858 : decode cL_law 1858 = .ok (.iload_n 3, 1) := by decide +kernel
theorem dL_law_1859 : decode cL_law 1859 = .ok (.iconst 1, 1) := by decide +kernel
theorem dL_law_1860 : decode cL_law 1860 = .ok (.iadd, 1) := by decide +kernel
theorem dL_law_1861 : decode cL_law 1861 = .ok (.iaload, 1) := by decide +kernel
theorem dL_law_1862 : decode cL_law 1862 = .ok (.invokevirtual 251, 3) := by decide +kernel
theorem dL_law_1865 : decode cL_law 1865 = .ok (.aload_n 2, 1) := by decide +kernel
theorem dL_law_1866 : decode cL_law 1866 = .ok (.aload_n 0, 1) := by decide +kernel
theorem dL_law_1867 : decode cL_law 1867 = .ok (.iload_n 3, 1) := by decide +kernel
theorem dL_law_1868 : decode cL_law 1868 = .ok (.iconst 1, 1) := by decide +kernel
theorem dL_law_1869 : decode cL_law 1869 = .ok (.iadd, 1) := by decide +kernel
theorem dL_law_1870 : decode cL_law 1870 = .ok (.iaload, 1) := by decide +kernel
theorem dL_law_1871 : decode cL_law 1871 = .ok (.invokevirtual 254, 3) := by decide +kernel
theorem dL_law_1874 : decode cL_law 1874 = .ok (.if_icmp .eq 566, 3) := by decide +kernel
theorem dL_law_1877 : decode cL_law 1877 = .ok (.iconst 0, 1) := by decide +kernel
theorem dL_law_1878 : decode cL_law 1878 = .ok (.ireturn, 1) := by decide +kernel
theorem dL_law_1879 : decode cL_law 1879 = .ok (.aload_n 1, 1) := by decide +kernel
theorem dL_law_1880 : decode cL_law 1880 = .ok (.invokevirtual 255, 3) := by decide +kernel
theorem dL_law_1883 : decode cL_law 1883 = .ok (.aload_n 2, 1) := by decide +kernel
theorem dL_law_1884 : decode cL_law 1884 = .ok (.invokevirtual 258, 3) := by decide +kernel
theorem dL_law_1887 : decode cL_law 1887 = .ok (.if_icmp .eq 553, 3) := by decide +kernel
theorem dL_law_1890 : decode cL_law 1890 = .ok (.iconst 0, 1) := by decide +kernel
theorem dL_law_1891 : decode cL_law 1891 = .ok (.ireturn, 1) := by decide +kernel
theorem dL_law_1892 : decode cL_law 1892 = .ok (.aload_n 1, 1) := by decide +kernel
theorem dL_law_1893 : decode cL_law 1893 = .ok (.aload_n 0, 1) := by decide +kernel
theorem dL_law_1894 : decode cL_law 1894 = .ok (.iload_n 3, 1) := by decide +kernel
theorem dL_law_1895 : decode cL_law 1895 = .ok (.iconst 1, 1) := by decide +kernel
theorem dL_law_1896 : decode cL_law 1896 = .ok (.iadd, 1) := by decide +kernel
theorem dL_law_1897 : decode cL_law 1897 = .ok (.iaload, 1) := by decide +kernel
theorem dL_law_1898 : decode cL_law 1898 = .ok (.aload_n 0, 1) := by decide +kernel
theorem dL_law_1899 : decode cL_law 1899 = .ok (.iload_n 3, 1) := by decide +kernel
theorem dL_law_1900 : decode cL_law 1900 = .ok (.iconst 2, 1) := by decide +kernel
theorem dL_law_1901 : decode cL_law 1901 = .ok (.iadd, 1) := by decide +kernel
theorem dL_law_1902 : decode cL_law 1902 = .ok (.iaload, 1) := by decide +kernel
theorem dL_law_1903 : decode cL_law 1903 = .ok (.invokevirtual 259, 3) := by decide +kernel
theorem dL_law_1906 : decode cL_law 1906 = .ok (.aload_n 2, 1) := by decide +kernel
theorem dL_law_1907 : decode cL_law 1907 = .ok (.aload_n 0, 1) := by decide +kernel
theorem dL_law_1908 : decode cL_law 1908 = .ok (.iload_n 3, 1) := by decide +kernel
theorem dL_law_1909 : decode cL_law 1909 = .ok (.iconst 1, 1) := by decide +kernel
theorem dL_law_1910 : decode cL_law 1910 = .ok (.iadd, 1) := by decide +kernel
theorem dL_law_1911 : decode cL_law 1911 = .ok (.iaload, 1) := by decide +kernel
theorem dL_law_1912 : decode cL_law 1912 = .ok (.aload_n 0, 1) := by decide +kernel
theorem dL_law_1913 : decode cL_law 1913 = .ok (.iload_n 3, 1) := by decide +kernel
theorem dL_law_1914 : decode cL_law 1914 = .ok (.iconst 2, 1) := by decide +kernel
theorem dL_law_1915 : decode cL_law 1915 = .ok (.iadd, 1) := by decide +kernel
theorem dL_law_1916 : decode cL_law 1916 = .ok (.iaload, 1) := by decide +kernel
theorem dL_law_1917 : decode cL_law 1917 = .ok (.invokevirtual 262, 3) := by decide +kernel
theorem dL_law_1920 : decode cL_law 1920 = .ok (.if_icmp .eq 520, 3) := by decide +kernel
theorem dL_law_1923 : decode cL_law 1923 = .ok (.iconst 0, 1) := by decide +kernel
theorem dL_law_1924 : decode cL_law 1924 = .ok (.ireturn, 1) := by decide +kernel
theorem dL_law_1925 : decode cL_law 1925 = .ok (.aload_n 1, 1) := by decide +kernel
theorem dL_law_1926 : decode cL_law 1926 = .ok (.aload_n 0, 1) := by decide +kernel
theorem dL_law_1927 : decode cL_law 1927 = .ok (.iload_n 3, 1) := by decide +kernel
theorem dL_law_1928 : decode cL_law 1928 = .ok (.iconst 1, 1) := by decide +kernel
theorem dL_law_1929 : decode cL_law 1929 = .ok (.iadd, 1) := by decide +kernel
theorem dL_law_1930 : decode cL_law 1930 = .ok (.iaload, 1) := by decide +kernel
theorem dL_law_1931 : decode cL_law 1931 = .ok (.invokevirtual 263, 3) := by decide +kernel
theorem dL_law_1934 : decode cL_law 1934 = .ok (.aload_n 2, 1) := by decide +kernel
theorem dL_law_1935 : decode cL_law 1935 = .ok (.aload_n 0, 1) := by decide +kernel
theorem dL_law_1936 : decode cL_law 1936 = .ok (.iload_n 3, 1) := by decide +kernel
theorem dL_law_1937 : decode cL_law 1937 = .ok (.iconst 1, 1) := by decide +kernel
theorem dL_law_1938 : decode cL_law 1938 = .ok (.iadd, 1) := by decide +kernel
theorem dL_law_1939 : decode cL_law 1939 = .ok (.iaload, 1) := by decide +kernel
theorem dL_law_1940 : decode cL_law 1940 = .ok (.invokevirtual 266, 3) := by decide +kernel
theorem dL_law_1943 : decode cL_law 1943 = .ok (.if_icmp .eq 497, 3) := by decide +kernel
theorem dL_law_1946 : decode cL_law 1946 = .ok (.iconst 0, 1) := by decide +kernel
theorem dL_law_1947 : decode cL_law 1947 = .ok (.ireturn, 1) := by decide +kernel
theorem dL_law_1948 : decode cL_law 1948 = .ok (.aload_n 1, 1) := by decide +kernel
theorem dL_law_1949 : decode cL_law 1949 = .ok (.aload_n 0, 1) := by decide +kernel
theorem dL_law_1950 : decode cL_law 1950 = .ok (.iload_n 3, 1) := by decide +kernel
theorem dL_law_1951 : decode cL_law 1951 = .ok (.iconst 1, 1) := by decide +kernel
theorem dL_law_1952 : decode cL_law 1952 = .ok (.iadd, 1) := by decide +kernel
theorem dL_law_1953 : decode cL_law 1953 = .ok (.iaload, 1) := by decide +kernel
theorem dL_law_1954 : decode cL_law 1954 = .ok (.invokevirtual 267, 3) := by decide +kernel
theorem dL_law_1957 : decode cL_law 1957 = .ok (.aload_n 2, 1) := by decide +kernel
theorem dL_law_1958 : decode cL_law 1958 = .ok (.aload_n 0, 1) := by decide +kernel
theorem dL_law_1959 : decode cL_law 1959 = .ok (.iload_n 3, 1) := by decide +kernel
theorem dL_law_1960 : decode cL_law 1960 = .ok (.iconst 1, 1) := by decide +kernel
theorem dL_law_1961 : decode cL_law 1961 = .ok (.iadd, 1) := by decide +kernel
theorem dL_law_1962 : decode cL_law 1962 = .ok (.iaload, 1) := by decide +kernel
theorem dL_law_1963 : decode cL_law 1963 = .ok (.invokevirtual 270, 3) := by decide +kernel
theorem dL_law_1966 : decode cL_law 1966 = .ok (.if_icmp .eq 474, 3) := by decide +kernel
theorem dL_law_1969 : decode cL_law 1969 = .ok (.iconst 0, 1) := by decide +kernel
theorem dL_law_1970 : decode cL_law 1970 = .ok (.ireturn, 1) := by decide +kernel
theorem dL_law_1971 : decode cL_law 1971 = .ok (.aload_n 1, 1) := by decide +kernel
theorem dL_law_1972 : decode cL_law 1972 = .ok (.aload_n 0, 1) := by decide +kernel
theorem dL_law_1973 : decode cL_law 1973 = .ok (.iload_n 3, 1) := by decide +kernel
theorem dL_law_1974 : decode cL_law 1974 = .ok (.iconst 1, 1) := by decide +kernel
theorem dL_law_1975 : decode cL_law 1975 = .ok (.iadd, 1) := by decide +kernel
theorem dL_law_1976 : decode cL_law 1976 = .ok (.iaload, 1) := by decide +kernel
theorem dL_law_1977 : decode cL_law 1977 = .ok (.aload_n 0, 1) := by decide +kernel
theorem dL_law_1978 : decode cL_law 1978 = .ok (.iload_n 3, 1) := by decide +kernel
theorem dL_law_1979 : decode cL_law 1979 = .ok (.iconst 2, 1) := by decide +kernel
theorem dL_law_1980 : decode cL_law 1980 = .ok (.iadd, 1) := by decide +kernel
theorem dL_law_1981 : decode cL_law 1981 = .ok (.iaload, 1) := by decide +kernel
theorem dL_law_1982 : decode cL_law 1982 = .ok (.aload_n 0, 1) := by decide +kernel
theorem dL_law_1983 : decode cL_law 1983 = .ok (.iload_n 3, 1) := by decide +kernel
theorem dL_law_1984 : decode cL_law 1984 = .ok (.iconst 3, 1) := by decide +kernel
theorem dL_law_1985 : decode cL_law 1985 = .ok (.iadd, 1) := by decide +kernel
theorem dL_law_1986 : decode cL_law 1986 = .ok (.iaload, 1) := by decide +kernel
theorem dL_law_1987 : decode cL_law 1987 = .ok (.invokevirtual 271, 3) := by decide +kernel
theorem dL_law_1990 : decode cL_law 1990 = .ok (.aload_n 2, 1) := by decide +kernel
theorem dL_law_1991 : decode cL_law 1991 = .ok (.aload_n 0, 1) := by decide +kernel
theorem dL_law_1992 : decode cL_law 1992 = .ok (.iload_n 3, 1) := by decide +kernel
theorem dL_law_1993 : decode cL_law 1993 = .ok (.iconst 1, 1) := by decide +kernel
theorem dL_law_1994 : decode cL_law 1994 = .ok (.iadd, 1) := by decide +kernel
theorem dL_law_1995 : decode cL_law 1995 = .ok (.iaload, 1) := by decide +kernel
theorem dL_law_1996 : decode cL_law 1996 = .ok (.aload_n 0, 1) := by decide +kernel
theorem dL_law_1997 : decode cL_law 1997 = .ok (.iload_n 3, 1) := by decide +kernel
theorem dL_law_1998 : decode cL_law 1998 = .ok (.iconst 2, 1) := by decide +kernel
theorem dL_law_1999 : decode cL_law 1999 = .ok (.iadd, 1) := by decide +kernel
theorem dL_law_2000 : decode cL_law 2000 = .ok (.iaload, 1) := by decide +kernel
theorem dL_law_2001 : decode cL_law 2001 = .ok (.aload_n 0, 1) := by decide +kernel
theorem dL_law_2002 : decode cL_law 2002 = .ok (.iload_n 3, 1) := by decide +kernel
theorem dL_law_2003 : decode cL_law 2003 = .ok (.iconst 3, 1) := by decide +kernel
theorem dL_law_2004 : decode cL_law 2004 = .ok (.iadd, 1) := by decide +kernel
theorem dL_law_2005 : decode cL_law 2005 = .ok (.iaload, 1) := by decide +kernel
theorem dL_law_2006 : decode cL_law 2006 = .ok (.invokevirtual 274, 3) := by decide +kernel
theorem dL_law_2009 : decode cL_law 2009 = .ok (.if_icmp .eq 431, 3) := by decide +kernel
theorem dL_law_2012 : decode cL_law 2012 = .ok (.iconst 0, 1) := by decide +kernel
theorem dL_law_2013 : decode cL_law 2013 = .ok (.ireturn, 1) := by decide +kernel
theorem dL_law_2014 : decode cL_law 2014 = .ok (.aload_n 1, 1) := by decide +kernel
theorem dL_law_2015 : decode cL_law 2015 = .ok (.aload_n 0, 1) := by decide +kernel
theorem dL_law_2016 : decode cL_law 2016 = .ok (.iload_n 3, 1) := by decide +kernel
theorem dL_law_2017 : decode cL_law 2017 = .ok (.iconst 1, 1) := by decide +kernel
theorem dL_law_2018 : decode cL_law 2018 = .ok (.iadd, 1) := by decide +kernel
theorem dL_law_2019 : decode cL_law 2019 = .ok (.iaload, 1) := by decide +kernel
theorem dL_law_2020 : decode cL_law 2020 = .ok (.aload_n 0, 1) := by decide +kernel
theorem dL_law_2021 : decode cL_law 2021 = .ok (.iload_n 3, 1) := by decide +kernel
theorem dL_law_2022 : decode cL_law 2022 = .ok (.iconst 2, 1) := by decide +kernel
theorem dL_law_2023 : decode cL_law 2023 = .ok (.iadd, 1) := by decide +kernel
theorem dL_law_2024 : decode cL_law 2024 = .ok (.iaload, 1) := by decide +kernel
theorem dL_law_2025 : decode cL_law 2025 = .ok (.aload_n 0, 1) := by decide +kernel
theorem dL_law_2026 : decode cL_law 2026 = .ok (.iload_n 3, 1) := by decide +kernel
theorem dL_law_2027 : decode cL_law 2027 = .ok (.iconst 3, 1) := by decide +kernel
theorem dL_law_2028 : decode cL_law 2028 = .ok (.iadd, 1) := by decide +kernel
theorem dL_law_2029 : decode cL_law 2029 = .ok (.iaload, 1) := by decide +kernel
theorem dL_law_2030 : decode cL_law 2030 = .ok (.aload_n 0, 1) := by decide +kernel
theorem dL_law_2031 : decode cL_law 2031 = .ok (.iload_n 3, 1) := by decide +kernel
theorem dL_law_2032 : decode cL_law 2032 = .ok (.iconst 4, 1) := by decide +kernel
theorem dL_law_2033 : decode cL_law 2033 = .ok (.iadd, 1) := by decide +kernel
theorem dL_law_2034 : decode cL_law 2034 = .ok (.iaload, 1) := by decide +kernel
theorem dL_law_2035 : decode cL_law 2035 = .ok (.invokevirtual 275, 3) := by decide +kernel
theorem dL_law_2038 : decode cL_law 2038 = .ok (.aload_n 2, 1) := by decide +kernel
theorem dL_law_2039 : decode cL_law 2039 = .ok (.aload_n 0, 1) := by decide +kernel
theorem dL_law_2040 : decode cL_law 2040 = .ok (.iload_n 3, 1) := by decide +kernel
theorem dL_law_2041 : decode cL_law 2041 = .ok (.iconst 1, 1) := by decide +kernel
theorem dL_law_2042 : decode cL_law 2042 = .ok (.iadd, 1) := by decide +kernel
theorem dL_law_2043 : decode cL_law 2043 = .ok (.iaload, 1) := by decide +kernel
theorem dL_law_2044 : decode cL_law 2044 = .ok (.aload_n 0, 1) := by decide +kernel
theorem dL_law_2045 : decode cL_law 2045 = .ok (.iload_n 3, 1) := by decide +kernel
theorem dL_law_2046 : decode cL_law 2046 = .ok (.iconst 2, 1) := by decide +kernel
theorem dL_law_2047 : decode cL_law 2047 = .ok (.iadd, 1) := by decide +kernel
theorem dL_law_2048 : decode cL_law 2048 = .ok (.iaload, 1) := by decide +kernel
theorem dL_law_2049 : decode cL_law 2049 = .ok (.aload_n 0, 1) := by decide +kernel
theorem dL_law_2050 : decode cL_law 2050 = .ok (.iload_n 3, 1) := by decide +kernel
theorem dL_law_2051 : decode cL_law 2051 = .ok (.iconst 3, 1) := by decide +kernel
theorem dL_law_2052 : decode cL_law 2052 = .ok (.iadd, 1) := by decide +kernel
theorem dL_law_2053 : decode cL_law 2053 = .ok (.iaload, 1) := by decide +kernel
theorem dL_law_2054 : decode cL_law 2054 = .ok (.aload_n 0, 1) := by decide +kernel
theorem dL_law_2055 : decode cL_law 2055 = .ok (.iload_n 3, 1) := by decide +kernel
theorem dL_law_2056 : decode cL_law 2056 = .ok (.iconst 4, 1) := by decide +kernel
theorem dL_law_2057 : decode cL_law 2057 = .ok (.iadd, 1) := by decide +kernel
theorem dL_law_2058 : decode cL_law 2058 = .ok (.iaload, 1) := by decide +kernel
theorem dL_law_2059 : decode cL_law 2059 = .ok (.invokevirtual 278, 3) := by decide +kernel
theorem dL_law_2062 : decode cL_law 2062 = .ok (.if_icmp .eq 378, 3) := by decide +kernel
theorem dL_law_2065 : decode cL_law 2065 = .ok (.iconst 0, 1) := by decide +kernel
theorem dL_law_2066 : decode cL_law 2066 = .ok (.ireturn, 1) := by decide +kernel
theorem dL_law_2067 : decode cL_law 2067 = .ok (.aload_n 1, 1) := by decide +kernel
theorem dL_law_2068 : decode cL_law 2068 = .ok (.invokevirtual 279, 3) := by decide +kernel
theorem dL_law_2071 : decode cL_law 2071 = .ok (.aload_n 2, 1) := by decide +kernel
theorem dL_law_2072 : decode cL_law 2072 = .ok (.invokevirtual 282, 3) := by decide +kernel
theorem dL_law_2075 : decode cL_law 2075 = .ok (.if_icmp .eq 365, 3) := by decide +kernel
theorem dL_law_2078 : decode cL_law 2078 = .ok (.iconst 0, 1) := by decide +kernel
theorem dL_law_2079 : decode cL_law 2079 = .ok (.ireturn, 1) := by decide +kernel
theorem dL_law_2080 : decode cL_law 2080 = .ok (.aload_n 1, 1) := by decide +kernel
theorem dL_law_2081 : decode cL_law 2081 = .ok (.invokevirtual 283, 3) := by decide +kernel
theorem dL_law_2084 : decode cL_law 2084 = .ok (.aload_n 2, 1) := by decide +kernel
theorem dL_law_2085 : decode cL_law 2085 = .ok (.invokevirtual 286, 3) := by decide +kernel
theorem dL_law_2088 : decode cL_law 2088 = .ok (.if_icmp .eq 352, 3) := by decide +kernel
theorem dL_law_2091 : decode cL_law 2091 = .ok (.iconst 0, 1) := by decide +kernel
theorem dL_law_2092 : decode cL_law 2092 = .ok (.ireturn, 1) := by decide +kernel
theorem dL_law_2093 : decode cL_law 2093 = .ok (.aload_n 1, 1) := by decide +kernel
theorem dL_law_2094 : decode cL_law 2094 = .ok (.aload_n 0, 1) := by decide +kernel
theorem dL_law_2095 : decode cL_law 2095 = .ok (.iload_n 3, 1) := by decide +kernel
theorem dL_law_2096 : decode cL_law 2096 = .ok (.iconst 1, 1) := by decide +kernel
theorem dL_law_2097 : decode cL_law 2097 = .ok (.iadd, 1) := by decide +kernel
theorem dL_law_2098 : decode cL_law 2098 = .ok (.iaload, 1) := by decide +kernel
theorem dL_law_2099 : decode cL_law 2099 = .ok (.aload_n 0, 1) := by decide +kernel
theorem dL_law_2100 : decode cL_law 2100 = .ok (.iload_n 3, 1) := by decide +kernel
theorem dL_law_2101 : decode cL_law 2101 = .ok (.iconst 2, 1) := by decide +kernel
theorem dL_law_2102 : decode cL_law 2102 = .ok (.iadd, 1) := by decide +kernel
theorem dL_law_2103 : decode cL_law 2103 = .ok (.iaload, 1) := by decide +kernel
theorem dL_law_2104 : decode cL_law 2104 = .ok (.invokevirtual 287, 3) := by decide +kernel
theorem dL_law_2107 : decode cL_law 2107 = .ok (.aload_n 2, 1) := by decide +kernel
theorem dL_law_2108 : decode cL_law 2108 = .ok (.aload_n 0, 1) := by decide +kernel
theorem dL_law_2109 : decode cL_law 2109 = .ok (.iload_n 3, 1) := by decide +kernel
theorem dL_law_2110 : decode cL_law 2110 = .ok (.iconst 1, 1) := by decide +kernel
theorem dL_law_2111 : decode cL_law 2111 = .ok (.iadd, 1) := by decide +kernel
theorem dL_law_2112 : decode cL_law 2112 = .ok (.iaload, 1) := by decide +kernel
theorem dL_law_2113 : decode cL_law 2113 = .ok (.aload_n 0, 1) := by decide +kernel
theorem dL_law_2114 : decode cL_law 2114 = .ok (.iload_n 3, 1) := by decide +kernel
theorem dL_law_2115 : decode cL_law 2115 = .ok (.iconst 2, 1) := by decide +kernel
theorem dL_law_2116 : decode cL_law 2116 = .ok (.iadd, 1) := by decide +kernel
theorem dL_law_2117 : decode cL_law 2117 = .ok (.iaload, 1) := by decide +kernel
theorem dL_law_2118 : decode cL_law 2118 = .ok (.invokevirtual 290, 3) := by decide +kernel
theorem dL_law_2121 : decode cL_law 2121 = .ok (.if_icmp .eq 319, 3) := by decide +kernel
theorem dL_law_2124 : decode cL_law 2124 = .ok (.iconst 0, 1) := by decide +kernel
theorem dL_law_2125 : decode cL_law 2125 = .ok (.ireturn, 1) := by decide +kernel
theorem dL_law_2126 : decode cL_law 2126 = .ok (.aload_n 1, 1) := by decide +kernel
theorem dL_law_2127 : decode cL_law 2127 = .ok (.aload_n 0, 1) := by decide +kernel
theorem dL_law_2128 : decode cL_law 2128 = .ok (.iload_n 3, 1) := by decide +kernel
theorem dL_law_2129 : decode cL_law 2129 = .ok (.iconst 1, 1) := by decide +kernel
theorem dL_law_2130 : decode cL_law 2130 = .ok (.iadd, 1) := by decide +kernel
theorem dL_law_2131 : decode cL_law 2131 = .ok (.iaload, 1) := by decide +kernel
theorem dL_law_2132 : decode cL_law 2132 = .ok (.aload_n 0, 1) := by decide +kernel
theorem dL_law_2133 : decode cL_law 2133 = .ok (.iload_n 3, 1) := by decide +kernel
theorem dL_law_2134 : decode cL_law 2134 = .ok (.iconst 2, 1) := by decide +kernel
theorem dL_law_2135 : decode cL_law 2135 = .ok (.iadd, 1) := by decide +kernel
theorem dL_law_2136 : decode cL_law 2136 = .ok (.iaload, 1) := by decide +kernel
theorem dL_law_2137 : decode cL_law 2137 = .ok (.aload_n 0, 1) := by decide +kernel
theorem dL_law_2138 : decode cL_law 2138 = .ok (.iload_n 3, 1) := by decide +kernel
theorem dL_law_2139 : decode cL_law 2139 = .ok (.iconst 3, 1) := by decide +kernel
theorem dL_law_2140 : decode cL_law 2140 = .ok (.iadd, 1) := by decide +kernel
theorem dL_law_2141 : decode cL_law 2141 = .ok (.iaload, 1) := by decide +kernel
theorem dL_law_2142 : decode cL_law 2142 = .ok (.invokevirtual 291, 3) := by decide +kernel
theorem dL_law_2145 : decode cL_law 2145 = .ok (.aload_n 2, 1) := by decide +kernel
theorem dL_law_2146 : decode cL_law 2146 = .ok (.aload_n 0, 1) := by decide +kernel
theorem dL_law_2147 : decode cL_law 2147 = .ok (.iload_n 3, 1) := by decide +kernel
theorem dL_law_2148 : decode cL_law 2148 = .ok (.iconst 1, 1) := by decide +kernel
theorem dL_law_2149 : decode cL_law 2149 = .ok (.iadd, 1) := by decide +kernel
theorem dL_law_2150 : decode cL_law 2150 = .ok (.iaload, 1) := by decide +kernel
theorem dL_law_2151 : decode cL_law 2151 = .ok (.aload_n 0, 1) := by decide +kernel
theorem dL_law_2152 : decode cL_law 2152 = .ok (.iload_n 3, 1) := by decide +kernel
theorem dL_law_2153 : decode cL_law 2153 = .ok (.iconst 2, 1) := by decide +kernel
theorem dL_law_2154 : decode cL_law 2154 = .ok (.iadd, 1) := by decide +kernel
theorem dL_law_2155 : decode cL_law 2155 = .ok (.iaload, 1) := by decide +kernel
theorem dL_law_2156 : decode cL_law 2156 = .ok (.aload_n 0, 1) := by decide +kernel
theorem dL_law_2157 : decode cL_law 2157 = .ok (.iload_n 3, 1) := by decide +kernel
theorem dL_law_2158 : decode cL_law 2158 = .ok (.iconst 3, 1) := by decide +kernel
theorem dL_law_2159 : decode cL_law 2159 = .ok (.iadd, 1) := by decide +kernel
theorem dL_law_2160 : decode cL_law 2160 = .ok (.iaload, 1) := by decide +kernel
theorem dL_law_2161 : decode cL_law 2161 = .ok (.invokevirtual 294, 3) := by decide +kernel
theorem dL_law_2164 : decode cL_law 2164 = .ok (.if_icmp .eq 276, 3) := by decide +kernel
theorem dL_law_2167 : decode cL_law 2167 = .ok (.iconst 0, 1) := by decide +kernel
theorem dL_law_2168 : decode cL_law 2168 = .ok (.ireturn, 1) := by decide +kernel
theorem dL_law_2169 : decode cL_law 2169 = .ok (.aload_n 1, 1) := by decide +kernel
theorem dL_law_2170 : decode cL_law 2170 = .ok (.aload_n 0, 1) := by decide +kernel
theorem dL_law_2171 : decode cL_law 2171 = .ok (.iload_n 3, 1) := by decide +kernel
theorem dL_law_2172 : decode cL_law 2172 = .ok (.iconst 1, 1) := by decide +kernel
theorem dL_law_2173 : decode cL_law 2173 = .ok (.iadd, 1) := by decide +kernel
theorem dL_law_2174 : decode cL_law 2174 = .ok (.iaload, 1) := by decide +kernel
theorem dL_law_2175 : decode cL_law 2175 = .ok (.invokevirtual 295, 3) := by decide +kernel
theorem dL_law_2178 : decode cL_law 2178 = .ok (.aload_n 2, 1) := by decide +kernel
theorem dL_law_2179 : decode cL_law 2179 = .ok (.aload_n 0, 1) := by decide +kernel
theorem dL_law_2180 : decode cL_law 2180 = .ok (.iload_n 3, 1) := by decide +kernel
theorem dL_law_2181 : decode cL_law 2181 = .ok (.iconst 1, 1) := by decide +kernel
theorem dL_law_2182 : decode cL_law 2182 = .ok (.iadd, 1) := by decide +kernel
theorem dL_law_2183 : decode cL_law 2183 = .ok (.iaload, 1) := by decide +kernel
theorem dL_law_2184 : decode cL_law 2184 = .ok (.invokevirtual 298, 3) := by decide +kernel
theorem dL_law_2187 : decode cL_law 2187 = .ok (.if_icmp .eq 253, 3) := by decide +kernel
theorem dL_law_2190 : decode cL_law 2190 = .ok (.iconst 0, 1) := by decide +kernel
theorem dL_law_2191 : decode cL_law 2191 = .ok (.ireturn, 1) := by decide +kernel
theorem dL_law_2192 : decode cL_law 2192 = .ok (.aload_n 1, 1) := by decide +kernel
theorem dL_law_2193 : decode cL_law 2193 = .ok (.aload_n 0, 1) := by decide +kernel
theorem dL_law_2194 : decode cL_law 2194 = .ok (.iload_n 3, 1) := by decide +kernel
theorem dL_law_2195 : decode cL_law 2195 = .ok (.iconst 1, 1) := by decide +kernel
theorem dL_law_2196 : decode cL_law 2196 = .ok (.iadd, 1) := by decide +kernel
theorem dL_law_2197 : decode cL_law 2197 = .ok (.iaload, 1) := by decide +kernel
theorem dL_law_2198 : decode cL_law 2198 = .ok (.invokevirtual 299, 3) := by decide +kernel
theorem dL_law_2201 : decode cL_law 2201 = .ok (.aload_n 2, 1) := by decide +kernel
theorem dL_law_2202 : decode cL_law 2202 = .ok (.aload_n 0, 1) := by decide +kernel
theorem dL_law_2203 : decode cL_law 2203 = .ok (.iload_n 3, 1) := by decide +kernel
theorem dL_law_2204 : decode cL_law 2204 = .ok (.iconst 1, 1) := by decide +kernel
theorem dL_law_2205 : decode cL_law 2205 = .ok (.iadd, 1) := by decide +kernel
theorem dL_law_2206 : decode cL_law 2206 = .ok (.iaload, 1) := by decide +kernel
theorem dL_law_2207 : decode cL_law 2207 = .ok (.invokevirtual 302, 3) := by decide +kernel
theorem dL_law_2210 : decode cL_law 2210 = .ok (.if_icmp .eq 230, 3) := by decide +kernel
theorem dL_law_2213 : decode cL_law 2213 = .ok (.iconst 0, 1) := by decide +kernel
theorem dL_law_2214 : decode cL_law 2214 = .ok (.ireturn, 1) := by decide +kernel
theorem dL_law_2215 : decode cL_law 2215 = .ok (.aload_n 1, 1) := by decide +kernel
theorem dL_law_2216 : decode cL_law 2216 = .ok (.aload_n 0, 1) := by decide +kernel
theorem dL_law_2217 : decode cL_law 2217 = .ok (.iload_n 3, 1) := by decide +kernel
theorem dL_law_2218 : decode cL_law 2218 = .ok (.iconst 1, 1) := by decide +kernel
theorem dL_law_2219 : decode cL_law 2219 = .ok (.iadd, 1) := by decide +kernel
theorem dL_law_2220 : decode cL_law 2220 = .ok (.iaload, 1) := by decide +kernel
theorem dL_law_2221 : decode cL_law 2221 = .ok (.invokevirtual 303, 3) := by decide +kernel
theorem dL_law_2224 : decode cL_law 2224 = .ok (.aload_n 2, 1) := by decide +kernel
theorem dL_law_2225 : decode cL_law 2225 = .ok (.aload_n 0, 1) := by decide +kernel
theorem dL_law_2226 : decode cL_law 2226 = .ok (.iload_n 3, 1) := by decide +kernel
theorem dL_law_2227 : decode cL_law 2227 = .ok (.iconst 1, 1) := by decide +kernel
theorem dL_law_2228 : decode cL_law 2228 = .ok (.iadd, 1) := by decide +kernel
theorem dL_law_2229 : decode cL_law 2229 = .ok (.iaload, 1) := by decide +kernel
theorem dL_law_2230 : decode cL_law 2230 = .ok (.invokevirtual 306, 3) := by decide +kernel
theorem dL_law_2233 : decode cL_law 2233 = .ok (.if_icmp .eq 207, 3) := by decide +kernel
theorem dL_law_2236 : decode cL_law 2236 = .ok (.iconst 0, 1) := by decide +kernel
theorem dL_law_2237 : decode cL_law 2237 = .ok (.ireturn, 1) := by decide +kernel
theorem dL_law_2238 : decode cL_law 2238 = .ok (.aload_n 1, 1) := by decide +kernel
theorem dL_law_2239 : decode cL_law 2239 = .ok (.aload_n 0, 1) := by decide +kernel
theorem dL_law_2240 : decode cL_law 2240 = .ok (.iload_n 3, 1) := by decide +kernel
theorem dL_law_2241 : decode cL_law 2241 = .ok (.iconst 1, 1) := by decide +kernel
theorem dL_law_2242 : decode cL_law 2242 = .ok (.iadd, 1) := by decide +kernel
theorem dL_law_2243 : decode cL_law 2243 = .ok (.iaload, 1) := by decide +kernel
theorem dL_law_2244 : decode cL_law 2244 = .ok (.invokevirtual 307, 3) := by decide +kernel
theorem dL_law_2247 : decode cL_law 2247 = .ok (.aload_n 2, 1) := by decide +kernel
theorem dL_law_2248 : decode cL_law 2248 = .ok (.aload_n 0, 1) := by decide +kernel
theorem dL_law_2249 : decode cL_law 2249 = .ok (.iload_n 3, 1) := by decide +kernel
theorem dL_law_2250 : decode cL_law 2250 = .ok (.iconst 1, 1) := by decide +kernel
theorem dL_law_2251 : decode cL_law 2251 = .ok (.iadd, 1) := by decide +kernel
theorem dL_law_2252 : decode cL_law 2252 = .ok (.iaload, 1) := by decide +kernel
theorem dL_law_2253 : decode cL_law 2253 = .ok (.invokevirtual 310, 3) := by decide +kernel
theorem dL_law_2256 : decode cL_law 2256 = .ok (.if_icmp .eq 184, 3) := by decide +kernel
theorem dL_law_2259 : decode cL_law 2259 = .ok (.iconst 0, 1) := by decide +kernel
theorem dL_law_2260 : decode cL_law 2260 = .ok (.ireturn, 1) := by decide +kernel
theorem dL_law_2261 : decode cL_law 2261 = .ok (.aload_n 1, 1) := by decide +kernel
theorem dL_law_2262 : decode cL_law 2262 = .ok (.aload_n 0, 1) := by decide +kernel
theorem dL_law_2263 : decode cL_law 2263 = .ok (.iload_n 3, 1) := by decide +kernel
theorem dL_law_2264 : decode cL_law 2264 = .ok (.iconst 1, 1) := by decide +kernel
theorem dL_law_2265 : decode cL_law 2265 = .ok (.iadd, 1) := by decide +kernel
theorem dL_law_2266 : decode cL_law 2266 = .ok (.iaload, 1) := by decide +kernel
theorem dL_law_2267 : decode cL_law 2267 = .ok (.aload_n 0, 1) := by decide +kernel
theorem dL_law_2268 : decode cL_law 2268 = .ok (.iload_n 3, 1) := by decide +kernel
theorem dL_law_2269 : decode cL_law 2269 = .ok (.iconst 2, 1) := by decide +kernel
theorem dL_law_2270 : decode cL_law 2270 = .ok (.iadd, 1) := by decide +kernel
theorem dL_law_2271 : decode cL_law 2271 = .ok (.iaload, 1) := by decide +kernel
theorem dL_law_2272 : decode cL_law 2272 = .ok (.aload_n 0, 1) := by decide +kernel
theorem dL_law_2273 : decode cL_law 2273 = .ok (.iload_n 3, 1) := by decide +kernel
theorem dL_law_2274 : decode cL_law 2274 = .ok (.iconst 3, 1) := by decide +kernel
theorem dL_law_2275 : decode cL_law 2275 = .ok (.iadd, 1) := by decide +kernel
theorem dL_law_2276 : decode cL_law 2276 = .ok (.iaload, 1) := by decide +kernel
theorem dL_law_2277 : decode cL_law 2277 = .ok (.invokevirtual 311, 3) := by decide +kernel
theorem dL_law_2280 : decode cL_law 2280 = .ok (.aload_n 2, 1) := by decide +kernel
theorem dL_law_2281 : decode cL_law 2281 = .ok (.aload_n 0, 1) := by decide +kernel
theorem dL_law_2282 : decode cL_law 2282 = .ok (.iload_n 3, 1) := by decide +kernel
theorem dL_law_2283 : decode cL_law 2283 = .ok (.iconst 1, 1) := by decide +kernel
theorem dL_law_2284 : decode cL_law 2284 = .ok (.iadd, 1) := by decide +kernel
theorem dL_law_2285 : decode cL_law 2285 = .ok (.iaload, 1) := by decide +kernel
theorem dL_law_2286 : decode cL_law 2286 = .ok (.aload_n 0, 1) := by decide +kernel
theorem dL_law_2287 : decode cL_law 2287 = .ok (.iload_n 3, 1) := by decide +kernel
theorem dL_law_2288 : decode cL_law 2288 = .ok (.iconst 2, 1) := by decide +kernel
theorem dL_law_2289 : decode cL_law 2289 = .ok (.iadd, 1) := by decide +kernel
theorem dL_law_2290 : decode cL_law 2290 = .ok (.iaload, 1) := by decide +kernel
theorem dL_law_2291 : decode cL_law 2291 = .ok (.aload_n 0, 1) := by decide +kernel
theorem dL_law_2292 : decode cL_law 2292 = .ok (.iload_n 3, 1) := by decide +kernel
theorem dL_law_2293 : decode cL_law 2293 = .ok (.iconst 3, 1) := by decide +kernel
theorem dL_law_2294 : decode cL_law 2294 = .ok (.iadd, 1) := by decide +kernel
theorem dL_law_2295 : decode cL_law 2295 = .ok (.iaload, 1) := by decide +kernel
theorem dL_law_2296 : decode cL_law 2296 = .ok (.invokevirtual 314, 3) := by decide +kernel
theorem dL_law_2299 : decode cL_law 2299 = .ok (.if_icmp .eq 141, 3) := by decide +kernel
theorem dL_law_2302 : decode cL_law 2302 = .ok (.iconst 0, 1) := by decide +kernel
theorem dL_law_2303 : decode cL_law 2303 = .ok (.ireturn, 1) := by decide +kernel
theorem dL_law_2304 : decode cL_law 2304 = .ok (.aload_n 1, 1) := by decide +kernel
theorem dL_law_2305 : decode cL_law 2305 = .ok (.aload_n 0, 1) := by decide +kernel
theorem dL_law_2306 : decode cL_law 2306 = .ok (.iload_n 3, 1) := by decide +kernel
theorem dL_law_2307 : decode cL_law 2307 = .ok (.iconst 1, 1) := by decide +kernel
theorem dL_law_2308 : decode cL_law 2308 = .ok (.iadd, 1) := by decide +kernel
theorem dL_law_2309 : decode cL_law 2309 = .ok (.iaload, 1) := by decide +kernel
theorem dL_law_2310 : decode cL_law 2310 = .ok (.aload_n 0, 1) := by decide +kernel
theorem dL_law_2311 : decode cL_law 2311 = .ok (.iload_n 3, 1) := by decide +kernel
theorem dL_law_2312 : decode cL_law 2312 = .ok (.iconst 2, 1) := by decide +kernel
theorem dL_law_2313 : decode cL_law 2313 = .ok (.iadd, 1) := by decide +kernel
theorem dL_law_2314 : decode cL_law 2314 = .ok (.iaload, 1) := by decide +kernel
theorem dL_law_2315 : decode cL_law 2315 = .ok (.aload_n 0, 1) := by decide +kernel
theorem dL_law_2316 : decode cL_law 2316 = .ok (.iload_n 3, 1) := by decide +kernel
theorem dL_law_2317 : decode cL_law 2317 = .ok (.iconst 3, 1) := by decide +kernel
theorem dL_law_2318 : decode cL_law 2318 = .ok (.iadd, 1) := by decide +kernel
theorem dL_law_2319 : decode cL_law 2319 = .ok (.iaload, 1) := by decide +kernel
theorem dL_law_2320 : decode cL_law 2320 = .ok (.i2l, 1) := by decide +kernel
theorem dL_law_2321 : decode cL_law 2321 = .ok (.bipush 32, 2) := by decide +kernel
theorem dL_law_2323 : decode cL_law 2323 = .ok (.lshl, 1) := by decide +kernel
theorem dL_law_2324 : decode cL_law 2324 = .ok (.aload_n 0, 1) := by decide +kernel
theorem dL_law_2325 : decode cL_law 2325 = .ok (.iload_n 3, 1) := by decide +kernel
theorem dL_law_2326 : decode cL_law 2326 = .ok (.iconst 4, 1) := by decide +kernel
theorem dL_law_2327 : decode cL_law 2327 = .ok (.iadd, 1) := by decide +kernel
theorem dL_law_2328 : decode cL_law 2328 = .ok (.iaload, 1) := by decide +kernel
theorem dL_law_2329 : decode cL_law 2329 = .ok (.i2l, 1) := by decide +kernel
theorem dL_law_2330 : decode cL_law 2330 = .ok (.ldc2_w 315, 3) := by decide +kernel
theorem dL_law_2333 : decode cL_law 2333 = .ok (.land, 1) := by decide +kernel
theorem dL_law_2334 : decode cL_law 2334 = .ok (.lor, 1) := by decide +kernel
theorem dL_law_2335 : decode cL_law 2335 = .ok (.invokevirtual 317, 3) := by decide +kernel
theorem dL_law_2338 : decode cL_law 2338 = .ok (.aload_n 2, 1) := by decide +kernel
theorem dL_law_2339 : decode cL_law 2339 = .ok (.aload_n 0, 1) := by decide +kernel
theorem dL_law_2340 : decode cL_law 2340 = .ok (.iload_n 3, 1) := by decide +kernel
theorem dL_law_2341 : decode cL_law 2341 = .ok (.iconst 1, 1) := by decide +kernel
theorem dL_law_2342 : decode cL_law 2342 = .ok (.iadd, 1) := by decide +kernel
theorem dL_law_2343 : decode cL_law 2343 = .ok (.iaload, 1) := by decide +kernel
theorem dL_law_2344 : decode cL_law 2344 = .ok (.aload_n 0, 1) := by decide +kernel
theorem dL_law_2345 : decode cL_law 2345 = .ok (.iload_n 3, 1) := by decide +kernel
theorem dL_law_2346 : decode cL_law 2346 = .ok (.iconst 2, 1) := by decide +kernel
theorem dL_law_2347 : decode cL_law 2347 = .ok (.iadd, 1) := by decide +kernel
theorem dL_law_2348 : decode cL_law 2348 = .ok (.iaload, 1) := by decide +kernel
theorem dL_law_2349 : decode cL_law 2349 = .ok (.aload_n 0, 1) := by decide +kernel
theorem dL_law_2350 : decode cL_law 2350 = .ok (.iload_n 3, 1) := by decide +kernel
theorem dL_law_2351 : decode cL_law 2351 = .ok (.iconst 3, 1) := by decide +kernel
theorem dL_law_2352 : decode cL_law 2352 = .ok (.iadd, 1) := by decide +kernel
theorem dL_law_2353 : decode cL_law 2353 = .ok (.iaload, 1) := by decide +kernel
theorem dL_law_2354 : decode cL_law 2354 = .ok (.i2l, 1) := by decide +kernel
theorem dL_law_2355 : decode cL_law 2355 = .ok (.bipush 32, 2) := by decide +kernel
theorem dL_law_2357 : decode cL_law 2357 = .ok (.lshl, 1) := by decide +kernel
theorem dL_law_2358 : decode cL_law 2358 = .ok (.aload_n 0, 1) := by decide +kernel
theorem dL_law_2359 : decode cL_law 2359 = .ok (.iload_n 3, 1) := by decide +kernel
theorem dL_law_2360 : decode cL_law 2360 = .ok (.iconst 4, 1) := by decide +kernel
theorem dL_law_2361 : decode cL_law 2361 = .ok (.iadd, 1) := by decide +kernel
theorem dL_law_2362 : decode cL_law 2362 = .ok (.iaload, 1) := by decide +kernel
theorem dL_law_2363 : decode cL_law 2363 = .ok (.i2l, 1) := by decide +kernel
theorem dL_law_2364 : decode cL_law 2364 = .ok (.ldc2_w 315, 3) := by decide +kernel
theorem dL_law_2367 : decode cL_law 2367 = .ok (.land, 1) := by decide +kernel
theorem dL_law_2368 : decode cL_law 2368 = .ok (.lor, 1) := by decide +kernel
theorem dL_law_2369 : decode cL_law 2369 = .ok (.invokevirtual 321, 3) := by decide +kernel
theorem dL_law_2372 : decode cL_law 2372 = .ok (.if_icmp .eq 68, 3) := by decide +kernel
theorem dL_law_2375 : decode cL_law 2375 = .ok (.iconst 0, 1) := by decide +kernel
theorem dL_law_2376 : decode cL_law 2376 = .ok (.ireturn, 1) := by decide +kernel
theorem dL_law_2377 : decode cL_law 2377 = .ok (.aload_n 1, 1) := by decide +kernel
theorem dL_law_2378 : decode cL_law 2378 = .ok (.aload_n 0, 1) := by decide +kernel
theorem dL_law_2379 : decode cL_law 2379 = .ok (.iload_n 3, 1) := by decide +kernel
theorem dL_law_2380 : decode cL_law 2380 = .ok (.iconst 1, 1) := by decide +kernel
theorem dL_law_2381 : decode cL_law 2381 = .ok (.iadd, 1) := by decide +kernel
theorem dL_law_2382 : decode cL_law 2382 = .ok (.iaload, 1) := by decide +kernel
theorem dL_law_2383 : decode cL_law 2383 = .ok (.aload_n 0, 1) := by decide +kernel
theorem dL_law_2384 : decode cL_law 2384 = .ok (.iload_n 3, 1) := by decide +kernel
theorem dL_law_2385 : decode cL_law 2385 = .ok (.iconst 2, 1) := by decide +kernel
theorem dL_law_2386 : decode cL_law 2386 = .ok (.iadd, 1) := by decide +kernel
theorem dL_law_2387 : decode cL_law 2387 = .ok (.iaload, 1) := by decide +kernel
theorem dL_law_2388 : decode cL_law 2388 = .ok (.aload_n 0, 1) := by decide +kernel
theorem dL_law_2389 : decode cL_law 2389 = .ok (.iload_n 3, 1) := by decide +kernel
theorem dL_law_2390 : decode cL_law 2390 = .ok (.iconst 3, 1) := by decide +kernel
theorem dL_law_2391 : decode cL_law 2391 = .ok (.iadd, 1) := by decide +kernel
theorem dL_law_2392 : decode cL_law 2392 = .ok (.iaload, 1) := by decide +kernel
theorem dL_law_2393 : decode cL_law 2393 = .ok (.aload_n 0, 1) := by decide +kernel
theorem dL_law_2394 : decode cL_law 2394 = .ok (.iload_n 3, 1) := by decide +kernel
theorem dL_law_2395 : decode cL_law 2395 = .ok (.iconst 4, 1) := by decide +kernel
theorem dL_law_2396 : decode cL_law 2396 = .ok (.iadd, 1) := by decide +kernel
theorem dL_law_2397 : decode cL_law 2397 = .ok (.iaload, 1) := by decide +kernel
theorem dL_law_2398 : decode cL_law 2398 = .ok (.aload_n 0, 1) := by decide +kernel
theorem dL_law_2399 : decode cL_law 2399 = .ok (.iload_n 3, 1) := by decide +kernel
theorem dL_law_2400 : decode cL_law 2400 = .ok (.iconst 5, 1) := by decide +kernel
theorem dL_law_2401 : decode cL_law 2401 = .ok (.iadd, 1) := by decide +kernel
theorem dL_law_2402 : decode cL_law 2402 = .ok (.iaload, 1) := by decide +kernel
theorem dL_law_2403 : decode cL_law 2403 = .ok (.invokevirtual 322, 3) := by decide +kernel
theorem dL_law_2406 : decode cL_law 2406 = .ok (.aload_n 2, 1) := by decide +kernel
theorem dL_law_2407 : decode cL_law 2407 = .ok (.aload_n 0, 1) := by decide +kernel
theorem dL_law_2408 : decode cL_law 2408 = .ok (.iload_n 3, 1) := by decide +kernel
theorem dL_law_2409 : decode cL_law 2409 = .ok (.iconst 1, 1) := by decide +kernel
theorem dL_law_2410 : decode cL_law 2410 = .ok (.iadd, 1) := by decide +kernel
theorem dL_law_2411 : decode cL_law 2411 = .ok (.iaload, 1) := by decide +kernel
theorem dL_law_2412 : decode cL_law 2412 = .ok (.aload_n 0, 1) := by decide +kernel
theorem dL_law_2413 : decode cL_law 2413 = .ok (.iload_n 3, 1) := by decide +kernel
theorem dL_law_2414 : decode cL_law 2414 = .ok (.iconst 2, 1) := by decide +kernel
theorem dL_law_2415 : decode cL_law 2415 = .ok (.iadd, 1) := by decide +kernel
theorem dL_law_2416 : decode cL_law 2416 = .ok (.iaload, 1) := by decide +kernel
theorem dL_law_2417 : decode cL_law 2417 = .ok (.aload_n 0, 1) := by decide +kernel
theorem dL_law_2418 : decode cL_law 2418 = .ok (.iload_n 3, 1) := by decide +kernel
theorem dL_law_2419 : decode cL_law 2419 = .ok (.iconst 3, 1) := by decide +kernel
theorem dL_law_2420 : decode cL_law 2420 = .ok (.iadd, 1) := by decide +kernel
theorem dL_law_2421 : decode cL_law 2421 = .ok (.iaload, 1) := by decide +kernel
theorem dL_law_2422 : decode cL_law 2422 = .ok (.aload_n 0, 1) := by decide +kernel
theorem dL_law_2423 : decode cL_law 2423 = .ok (.iload_n 3, 1) := by decide +kernel
theorem dL_law_2424 : decode cL_law 2424 = .ok (.iconst 4, 1) := by decide +kernel
theorem dL_law_2425 : decode cL_law 2425 = .ok (.iadd, 1) := by decide +kernel
theorem dL_law_2426 : decode cL_law 2426 = .ok (.iaload, 1) := by decide +kernel
theorem dL_law_2427 : decode cL_law 2427 = .ok (.aload_n 0, 1) := by decide +kernel
theorem dL_law_2428 : decode cL_law 2428 = .ok (.iload_n 3, 1) := by decide +kernel
theorem dL_law_2429 : decode cL_law 2429 = .ok (.iconst 5, 1) := by decide +kernel
theorem dL_law_2430 : decode cL_law 2430 = .ok (.iadd, 1) := by decide +kernel
theorem dL_law_2431 : decode cL_law 2431 = .ok (.iaload, 1) := by decide +kernel
theorem dL_law_2432 : decode cL_law 2432 = .ok (.invokevirtual 325, 3) := by decide +kernel
theorem dL_law_2435 : decode cL_law 2435 = .ok (.if_icmp .eq 5, 3) := by decide +kernel
theorem dL_law_2438 : decode cL_law 2438 = .ok (.iconst 0, 1) := by decide +kernel
theorem dL_law_2439 : decode cL_law 2439 = .ok (.ireturn, 1) := by decide +kernel
theorem dL_law_2440 : decode cL_law 2440 = .ok (.iinc 3 6, 3) := by decide +kernel
theorem dL_law_2443 : decode cL_law 2443 = .ok (.goto (-2425), 3) := by decide +kernel
theorem dL_law_2446 : decode cL_law 2446 = .ok (.iconst 1, 1) := by decide +kernel
theorem dL_law_2447 : decode cL_law 2447 = .ok (.ireturn, 1) := by decide +kernel
