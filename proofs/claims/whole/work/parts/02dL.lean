theorem dL_law_0 : decode cL_law 0 = .ok (.new 7, 3) := by decide +kernel
theorem dL_law_3 : decode cL_law 3 = .ok (.dup, 1) := by decide +kernel
theorem dL_law_4 : decode cL_law 4 = .ok (.invokespecial 9, 3) := by decide +kernel
theorem dL_law_7 : decode cL_law 7 = .ok (.astore_n 1, 1) := by decide +kernel
theorem dL_law_8 : decode cL_law 8 = .ok (.new 10, 3) := by decide +kernel
theorem dL_law_11 : decode cL_law 11 = .ok (.dup, 1) := by decide +kernel
theorem dL_law_12 : decode cL_law 12 = .ok (.invokespecial 12, 3) := by decide +kernel
theorem dL_law_15 : decode cL_law 15 = .ok (.astore_n 2, 1) := by decide +kernel
theorem dL_law_16 : decode cL_law 16 = .ok (.iconst 0, 1) := by decide +kernel
theorem dL_law_17 : decode cL_law 17 = .ok (.istore_n 3, 1) := by decide +kernel
theorem dL_law_18 : decode cL_law 18 = .ok (.iload_n 3, 1) := by decide +kernel
theorem dL_law_19 : decode cL_law 19 = .ok (.aload_n 0, 1) := by decide +kernel
theorem dL_law_20 : decode cL_law 20 = .ok (.arraylength, 1) := by decide +kernel
theorem dL_law_21 : decode cL_law 21 = .ok (.bipush 6, 2) := by decide +kernel
theorem dL_law_23 : decode cL_law 23 = .ok (.isub, 1) := by decide +kernel
theorem dL_law_24 : decode cL_law 24 = .ok (.if_icmp .gt 2492, 3) := by decide +kernel
theorem dL_law_27 : decode cL_law 27 = .ok (.aload_n 0, 1) := by decide +kernel
theorem dL_law_28 : decode cL_law 28 = .ok (.iload_n 3, 1) := by decide +kernel
theorem dL_law_29 : decode cL_law 29 = .ok (.iaload, 1) := by decide +kernel
theorem dL_law_30 : decode cL_law 30 = .ok (.bipush 127, 2) := by decide +kernel
theorem dL_law_32 : decode cL_law 32 = .ok (.iand, 1) := by decide +kernel
theorem dL_law_33 : decode cL_law 33 = .ok (.tableswitch 2477 0 79 #[335, 398, 421, 434, 457, 490, 523, 556, 569, 602, 635, 668, 691, 714, 737, 750, 763, 786, 809, 842, 855, 868, 881, 894, 917, 950, 993, 1026, 1049, 1072, 1085, 1118, 1141, 1164, 1197, 1230, 1253, 1276, 1299, 1322, 1345, 1358, 1381, 1404, 1417, 1440, 1473, 1506, 1529, 1542, 1555, 1578, 1591, 1604, 1617, 1640, 1663, 1686, 1709, 1732, 1755, 1778, 1801, 1834, 1867, 1920, 1974, 2018, 2051, 2094, 2107, 2120, 2153, 2196, 2229, 2252, 2275, 2298, 2341, 2414], 335) := by decide +kernel
theorem dL_law_368 : decode cL_law 368 = .ok (.aload_n 1, 1) := by decide +kernel
theorem dL_law_369 : decode cL_law 369 = .ok (.aload_n 0, 1) := by decide +kernel
theorem dL_law_370 : decode cL_law 370 = .ok (.iload_n 3, 1) := by decide +kernel
theorem dL_law_371 : decode cL_law 371 = .ok (.iconst 1, 1) := by decide +kernel
theorem dL_law_372 : decode cL_law 372 = .ok (.iadd, 1) := by decide +kernel
theorem dL_law_373 : decode cL_law 373 = .ok (.iaload, 1) := by decide +kernel
theorem dL_law_374 : decode cL_law 374 = .ok (.aload_n 0, 1) := by decide +kernel
theorem dL_law_375 : decode cL_law 375 = .ok (.iload_n 3, 1) := by decide +kernel
theorem dL_law_376 : decode cL_law 376 = .ok (.iconst 2, 1) := by decide +kernel
theorem dL_law_377 : decode cL_law 377 = .ok (.iadd, 1) := by decide +kernel
theorem dL_law_378 : decode cL_law 378 = .ok (.iaload, 1) := by decide +kernel
theorem dL_law_379 : decode cL_law 379 = .ok (.aload_n 0, 1) := by decide +kernel
theorem dL_law_380 : decode cL_law 380 = .ok (.iload_n 3, 1) := by decide +kernel
theorem dL_law_381 : decode cL_law 381 = .ok (.iconst 3, 1) := by decide +kernel
theorem dL_law_382 : decode cL_law 382 = .ok (.iadd, 1) := by decide +kernel
theorem dL_law_383 : decode cL_law 383 = .ok (.iaload, 1) := by decide +kernel
theorem dL_law_384 : decode cL_law 384 = .ok (.aload_n 0, 1) := by decide +kernel
theorem dL_law_385 : decode cL_law 385 = .ok (.iload_n 3, 1) := by decide +kernel
theorem dL_law_386 : decode cL_law 386 = .ok (.iconst 4, 1) := by decide +kernel
theorem dL_law_387 : decode cL_law 387 = .ok (.iadd, 1) := by decide +kernel
theorem dL_law_388 : decode cL_law 388 = .ok (.iaload, 1) := by decide +kernel
theorem dL_law_389 : decode cL_law 389 = .ok (.aload_n 0, 1) := by decide +kernel
theorem dL_law_390 : decode cL_law 390 = .ok (.iload_n 3, 1) := by decide +kernel
theorem dL_law_391 : decode cL_law 391 = .ok (.iconst 5, 1) := by decide +kernel
theorem dL_law_392 : decode cL_law 392 = .ok (.iadd, 1) := by decide +kernel
theorem dL_law_393 : decode cL_law 393 = .ok (.iaload, 1) := by decide +kernel
theorem dL_law_394 : decode cL_law 394 = .ok (.invokevirtual 13, 3) := by decide +kernel
theorem dL_law_397 : decode cL_law 397 = .ok (.aload_n 2, 1) := by decide +kernel
theorem dL_law_398 : decode cL_law 398 = .ok (.aload_n 0, 1) := by decide +kernel
theorem dL_law_399 : decode cL_law 399 = .ok (.iload_n 3, 1) := by decide +kernel
theorem dL_law_400 : decode cL_law 400 = .ok (.iconst 1, 1) := by decide +kernel
theorem dL_law_401 : decode cL_law 401 = .ok (.iadd, 1) := by decide +kernel
theorem dL_law_402 : decode cL_law 402 = .ok (.iaload, 1) := by decide +kernel
theorem dL_law_403 : decode cL_law 403 = .ok (.aload_n 0, 1) := by decide +kernel
theorem dL_law_404 : decode cL_law 404 = .ok (.iload_n 3, 1) := by decide +kernel
theorem dL_law_405 : decode cL_law 405 = .ok (.iconst 2, 1) := by decide +kernel
theorem dL_law_406 : decode cL_law 406 = .ok (.iadd, 1) := by decide +kernel
theorem dL_law_407 : decode cL_law 407 = .ok (.iaload, 1) := by decide +kernel
theorem dL_law_408 : decode cL_law 408 = .ok (.aload_n 0, 1) := by decide +kernel
theorem dL_law_409 : decode cL_law 409 = .ok (.iload_n 3, 1) := by decide +kernel
theorem dL_law_410 : decode cL_law 410 = .ok (.iconst 3, 1) := by decide +kernel
theorem dL_law_411 : decode cL_law 411 = .ok (.iadd, 1) := by decide +kernel
theorem dL_law_412 : decode cL_law 412 = .ok (.iaload, 1) := by decide +kernel
theorem dL_law_413 : decode cL_law 413 = .ok (.aload_n 0, 1) := by decide +kernel
theorem dL_law_414 : decode cL_law 414 = .ok (.iload_n 3, 1) := by decide +kernel
theorem dL_law_415 : decode cL_law 415 = .ok (.iconst 4, 1) := by decide +kernel
theorem dL_law_416 : decode cL_law 416 = .ok (.iadd, 1) := by decide +kernel
theorem dL_law_417 : decode cL_law 417 = .ok (.iaload, 1) := by decide +kernel
theorem dL_law_418 : decode cL_law 418 = .ok (.aload_n 0, 1) := by decide +kernel
theorem dL_law_419 : decode cL_law 419 = .ok (.iload_n 3, 1) := by decide +kernel
theorem dL_law_420 : decode cL_law 420 = .ok (.iconst 5, 1) := by decide +kernel
theorem dL_law_421 : decode cL_law 421 = .ok (.iadd, 1) := by decide +kernel
theorem dL_law_422 : decode cL_law 422 = .ok (.iaload, 1) := by decide +kernel
theorem dL_law_423 : decode cL_law 423 = .ok (.invokevirtual 17, 3) := by decide +kernel
theorem dL_law_426 : decode cL_law 426 = .ok (.if_icmp .eq 2084, 3) := by decide +kernel
theorem dL_law_429 : decode cL_law 429 = .ok (.iconst 0, 1) := by decide +kernel
theorem dL_law_430 : decode cL_law 430 = .ok (.ireturn, 1) := by decide +kernel
theorem dL_law_431 : decode cL_law 431 = .ok (.aload_n 1, 1) := by decide +kernel
theorem dL_law_432 : decode cL_law 432 = .ok (.aload_n 0, 1) := by decide +kernel
theorem dL_law_433 : decode cL_law 433 = .ok (.iload_n 3, 1) := by decide +kernel
theorem dL_law_434 : decode cL_law 434 = .ok (.iconst 1, 1) := by decide +kernel
theorem dL_law_435 : decode cL_law 435 = .ok (.iadd, 1) := by decide +kernel
theorem dL_law_436 : decode cL_law 436 = .ok (.iaload, 1) := by decide +kernel
theorem dL_law_437 : decode cL_law 437 = .ok (.invokevirtual 18, 3) := by decide +kernel
theorem dL_law_440 : decode cL_law 440 = .ok (.aload_n 2, 1) := by decide +kernel
theorem dL_law_441 : decode cL_law 441 = .ok (.aload_n 0, 1) := by decide +kernel
theorem dL_law_442 : decode cL_law 442 = .ok (.iload_n 3, 1) := by decide +kernel
theorem dL_law_443 : decode cL_law 443 = .ok (.iconst 1, 1) := by decide +kernel
theorem dL_law_444 : decode cL_law 444 = .ok (.iadd, 1) := by decide +kernel
theorem dL_law_445 : decode cL_law 445 = .ok (.iaload, 1) := by decide +kernel
theorem dL_law_446 : decode cL_law 446 = .ok (.invokevirtual 22, 3) := by decide +kernel
theorem dL_law_449 : decode cL_law 449 = .ok (.if_icmp .eq 2061, 3) := by decide +kernel
theorem dL_law_452 : decode cL_law 452 = .ok (.iconst 0, 1) := by decide +kernel
theorem dL_law_453 : decode cL_law 453 = .ok (.ireturn, 1) := by decide +kernel
theorem dL_law_454 : decode cL_law 454 = .ok (.aload_n 1, 1) := by decide +kernel
theorem dL_law_455 : decode cL_law 455 = .ok (.invokevirtual 23, 3) := by decide +kernel
theorem dL_law_458 : decode cL_law 458 = .ok (.aload_n 2, 1) := by decide +kernel
theorem dL_law_459 : decode cL_law 459 = .ok (.invokevirtual 27, 3) := by decide +kernel
theorem dL_law_462 : decode cL_law 462 = .ok (.if_icmp .eq 2048, 3) := by decide +kernel
theorem dL_law_465 : decode cL_law 465 = .ok (.iconst 0, 1) := by decide +kernel
theorem dL_law_466 : decode cL_law 466 = .ok (.ireturn, 1) := by decide +kernel
theorem dL_law_467 : decode cL_law 467 = .ok (.aload_n 1, 1) := by decide +kernel
theorem dL_law_468 : decode cL_law 468 = .ok (.aload_n 0, 1) := by decide +kernel
theorem dL_law_469 : decode cL_law 469 = .ok (.iload_n 3, 1) := by decide +kernel
theorem dL_law_470 : decode cL_law 470 = .ok (.iconst 1, 1) := by decide +kernel
theorem dL_law_471 : decode cL_law 471 = .ok (.iadd, 1) := by decide +kernel
theorem dL_law_472 : decode cL_law 472 = .ok (.iaload, 1) := by decide +kernel
theorem dL_law_473 : decode cL_law 473 = .ok (.invokevirtual 28, 3) := by decide +kernel
theorem dL_law_476 : decode cL_law 476 = .ok (.aload_n 2, 1) := by decide +kernel
theorem dL_law_477 : decode cL_law 477 = .ok (.aload_n 0, 1) := by decide +kernel
theorem dL_law_478 : decode cL_law 478 = .ok (.iload_n 3, 1) := by decide +kernel
theorem dL_law_479 : decode cL_law 479 = .ok (.iconst 1, 1) := by decide +kernel
theorem dL_law_480 : decode cL_law 480 = .ok (.iadd, 1) := by decide +kernel
theorem dL_law_481 : decode cL_law 481 = .ok (.iaload, 1) := by decide +kernel
theorem dL_law_482 : decode cL_law 482 = .ok (.invokevirtual 31, 3) := by decide +kernel
theorem dL_law_485 : decode cL_law 485 = .ok (.if_icmp .eq 2025, 3) := by decide +kernel
theorem dL_law_488 : decode cL_law 488 = .ok (.iconst 0, 1) := by decide +kernel
theorem dL_law_489 : decode cL_law 489 = .ok (.ireturn, 1) := by decide +kernel
theorem dL_law_490 : decode cL_law 490 = .ok (.aload_n 1, 1) := by decide +kernel
theorem dL_law_491 : decode cL_law 491 = .ok (.aload_n 0, 1) := by decide +kernel
theorem dL_law_492 : decode cL_law 492 = .ok (.iload_n 3, 1) := by decide +kernel
theorem dL_law_493 : decode cL_law 493 = .ok (.iconst 1, 1) := by decide +kernel
theorem dL_law_494 : decode cL_law 494 = .ok (.iadd, 1) := by decide +kernel
theorem dL_law_495 : decode cL_law 495 = .ok (.iaload, 1) := by decide +kernel
theorem dL_law_496 : decode cL_law 496 = .ok (.aload_n 0, 1) := by decide +kernel
theorem dL_law_497 : decode cL_law 497 = .ok (.iload_n 3, 1) := by decide +kernel
theorem dL_law_498 : decode cL_law 498 = .ok (.iconst 2, 1) := by decide +kernel
theorem dL_law_499 : decode cL_law 499 = .ok (.iadd, 1) := by decide +kernel
theorem dL_law_500 : decode cL_law 500 = .ok (.iaload, 1) := by decide +kernel
theorem dL_law_501 : decode cL_law 501 = .ok (.invokevirtual 32, 3) := by decide +kernel
theorem dL_law_504 : decode cL_law 504 = .ok (.aload_n 2, 1) := by decide +kernel
theorem dL_law_505 : decode cL_law 505 = .ok (.aload_n 0, 1) := by decide +kernel
theorem dL_law_506 : decode cL_law 506 = .ok (.iload_n 3, 1) := by decide +kernel
theorem dL_law_507 : decode cL_law 507 = .ok (.iconst 1, 1) := by decide +kernel
theorem dL_law_508 : decode cL_law 508 = .ok (.iadd, 1) := by decide +kernel
theorem dL_law_509 : decode cL_law 509 = .ok (.iaload, 1) := by decide +kernel
theorem dL_law_510 : decode cL_law 510 = .ok (.aload_n 0, 1) := by decide +kernel
theorem dL_law_511 : decode cL_law 511 = .ok (.iload_n 3, 1) := by decide +kernel
theorem dL_law_512 : decode cL_law 512 = .ok (.iconst 2, 1) := by decide +kernel
theorem dL_law_513 : decode cL_law 513 = .ok (.iadd, 1) := by decide +kernel
theorem dL_law_514 : decode cL_law 514 = .ok (.iaload, 1) := by decide +kernel
theorem dL_law_515 : decode cL_law 515 = .ok (.invokevirtual 36, 3) := by decide +kernel
theorem dL_law_518 : decode cL_law 518 = .ok (.if_icmp .eq 1992, 3) := by decide +kernel
theorem dL_law_521 : decode cL_law 521 = .ok (.iconst 0, 1) := by decide +kernel
theorem dL_law_522 : decode cL_law 522 = .ok (.ireturn, 1) := by decide +kernel
theorem dL_law_523 : decode cL_law 523 = .ok (.aload_n 1, 1) := by decide +kernel
theorem dL_law_524 : decode cL_law 524 = .ok (.aload_n 0, 1) := by decide +kernel
theorem dL_law_525 : decode cL_law 525 = .ok (.iload_n 3, 1) := by decide +kernel
theorem dL_law_526 : decode cL_law 526 = .ok (.iconst 1, 1) := by decide +kernel
theorem dL_law_527 : decode cL_law 527 = .ok (.iadd, 1) := by decide +kernel
theorem dL_law_528 : decode cL_law 528 = .ok (.iaload, 1) := by decide +kernel
theorem dL_law_529 : decode cL_law 529 = .ok (.aload_n 0, 1) := by decide +kernel
theorem dL_law_530 : decode cL_law 530 = .ok (.iload_n 3, 1) := by decide +kernel
theorem dL_law_531 : decode cL_law 531 = .ok (.iconst 2, 1) := by decide +kernel
theorem dL_law_532 : decode cL_law 532 = .ok (.iadd, 1) := by decide +kernel
theorem dL_law_533 : decode cL_law 533 = .ok (.iaload, 1) := by decide +kernel
theorem dL_law_534 : decode cL_law 534 = .ok (.invokevirtual 37, 3) := by decide +kernel
theorem dL_law_537 : decode cL_law 537 = .ok (.aload_n 2, 1) := by decide +kernel
theorem dL_law_538 : decode cL_law 538 = .ok (.aload_n 0, 1) := by decide +kernel
theorem dL_law_539 : decode cL_law 539 = .ok (.iload_n 3, 1) := by decide +kernel
theorem dL_law_540 : decode cL_law 540 = .ok (.iconst 1, 1) := by decide +kernel
theorem dL_law_541 : decode cL_law 541 = .ok (.iadd, 1) := by decide +kernel
theorem dL_law_542 : decode cL_law 542 = .ok (.iaload, 1) := by decide +kernel
theorem dL_law_543 : decode cL_law 543 = .ok (.aload_n 0, 1) := by decide +kernel
theorem dL_law_544 : decode cL_law 544 = .ok (.iload_n 3, 1) := by decide +kernel
theorem dL_law_545 : decode cL_law 545 = .ok (.iconst 2, 1) := by decide +kernel
theorem dL_law_546 : decode cL_law 546 = .ok (.iadd, 1) := by decide +kernel
theorem dL_law_547 : decode cL_law 547 = .ok (.iaload, 1) := by decide +kernel
theorem dL_law_548 : decode cL_law 548 = .ok (.invokevirtual 40, 3) := by decide +kernel
theorem dL_law_551 : decode cL_law 551 = .ok (.if_icmp .eq 1959, 3) := by decide +kernel
theorem dL_law_554 : decode cL_law 554 = .ok (.iconst 0, 1) := by decide +kernel
theorem dL_law_555 : decode cL_law 555 = .ok (.ireturn, 1) := by decide +kernel
theorem dL_law_556 : decode cL_law 556 = .ok (.aload_n 1, 1) := by decide +kernel
theorem dL_law_557 : decode cL_law 557 = .ok (.aload_n 0, 1) := by decide +kernel
theorem dL_law_558 : decode cL_law 558 = .ok (.iload_n 3, 1) := by decide +kernel
theorem dL_law_559 : decode cL_law 559 = .ok (.iconst 1, 1) := by decide +kernel
theorem dL_law_560 : decode cL_law 560 = .ok (.iadd, 1) := by decide +kernel
theorem dL_law_561 : decode cL_law 561 = .ok (.iaload, 1) := by decide +kernel
theorem dL_law_562 : decode cL_law 562 = .ok (.aload_n 0, 1) := by decide +kernel
theorem dL_law_563 : decode cL_law 563 = .ok (.iload_n 3, 1) := by decide +kernel
theorem dL_law_564 : decode cL_law 564 = .ok (.iconst 2, 1) := by decide +kernel
theorem dL_law_565 : decode cL_law 565 = .ok (.iadd, 1) := by decide +kernel
theorem dL_law_566 : decode cL_law 566 = .ok (.iaload, 1) := by decide +kernel
theorem dL_law_567 : decode cL_law 567 = .ok (.invokevirtual 41, 3) := by decide +kernel
theorem dL_law_570 : decode cL_law 570 = .ok (.aload_n 2, 1) := by decide +kernel
theorem dL_law_571 : decode cL_law 571 = .ok (.aload_n 0, 1) := by decide +kernel
theorem dL_law_572 : decode cL_law 572 = .ok (.iload_n 3, 1) := by decide +kernel
theorem dL_law_573 : decode cL_law 573 = .ok (.iconst 1, 1) := by decide +kernel
theorem dL_law_574 : decode cL_law 574 = .ok (.iadd, 1) := by decide +kernel
theorem dL_law_575 : decode cL_law 575 = .ok (.iaload, 1) := by decide +kernel
theorem dL_law_576 : decode cL_law 576 = .ok (.aload_n 0, 1) := by decide +kernel
theorem dL_law_577 : decode cL_law 577 = .ok (.iload_n 3, 1) := by decide +kernel
theorem dL_law_578 : decode cL_law 578 = .ok (.iconst 2, 1) := by decide +kernel
theorem dL_law_579 : decode cL_law 579 = .ok (.iadd, 1) := by decide +kernel
theorem dL_law_580 : decode cL_law 580 = .ok (.iaload, 1) := by decide +kernel
theorem dL_law_581 : decode cL_law 581 = .ok (.invokevirtual 44, 3) := by decide +kernel
theorem dL_law_584 : decode cL_law 584 = .ok (.if_icmp .eq 1926, 3) := by decide +kernel
theorem dL_law_587 : decode cL_law 587 = .ok (.iconst 0, 1) := by decide +kernel
theorem dL_law_588 : decode cL_law 588 = .ok (.ireturn, 1) := by decide +kernel
theorem dL_law_589 : decode cL_law 589 = .ok (.aload_n 1, 1) := by decide +kernel
theorem dL_law_590 : decode cL_law 590 = .ok (.invokevirtual 45, 3) := by decide +kernel
theorem dL_law_593 : decode cL_law 593 = .ok (.aload_n 2, 1) := by decide +kernel
theorem dL_law_594 : decode cL_law 594 = .ok (.invokevirtual 48, 3) := by decide +kernel
theorem dL_law_597 : decode cL_law 597 = .ok (.if_icmp .eq 1913, 3) := by decide +kernel
theorem dL_law_600 : decode cL_law 600 = .ok (.iconst 0, 1) := by decide +kernel
theorem dL_law_601 : decode cL_law 601 = .ok (.ireturn, 1) := by decide +kernel
theorem dL_law_602 : decode cL_law 602 = .ok (.aload_n 1, 1) := by decide +kernel
theorem dL_law_603 : decode cL_law 603 = .ok (.aload_n 0, 1) := by decide +kernel
theorem dL_law_604 : decode cL_law 604 = .ok (.iload_n 3, 1) := by decide +kernel
theorem dL_law_605 : decode cL_law 605 = .ok (.iconst 1, 1) := by decide +kernel
theorem dL_law_606 : decode cL_law 606 = .ok (.iadd, 1) := by decide +kernel
theorem dL_law_607 : decode cL_law 607 = .ok (.iaload, 1) := by decide +kernel
theorem dL_law_608 : decode cL_law 608 = .ok (.aload_n 0, 1) := by decide +kernel
theorem dL_law_609 : decode cL_law 609 = .ok (.iload_n 3, 1) := by decide +kernel
theorem dL_law_610 : decode cL_law 610 = .ok (.iconst 2, 1) := by decide +kernel
theorem dL_law_611 : decode cL_law 611 = .ok (.iadd, 1) := by decide +kernel
theorem dL_law_612 : decode cL_law 612 = .ok (.iaload, 1) := by decide +kernel
theorem dL_law_613 : decode cL_law 613 = .ok (.invokevirtual 49, 3) := by decide +kernel
theorem dL_law_616 : decode cL_law 616 = .ok (.aload_n 2, 1) := by decide +kernel
theorem dL_law_617 : decode cL_law 617 = .ok (.aload_n 0, 1) := by decide +kernel
theorem dL_law_618 : decode cL_law 618 = .ok (.iload_n 3, 1) := by decide +kernel
theorem dL_law_619 : decode cL_law 619 = .ok (.iconst 1, 1) := by decide +kernel
theorem dL_law_620 : decode cL_law 620 = .ok (.iadd, 1) := by decide +kernel
theorem dL_law_621 : decode cL_law 621 = .ok (.iaload, 1) := by decide +kernel
theorem dL_law_622 : decode cL_law 622 = .ok (.aload_n 0, 1) := by decide +kernel
theorem dL_law_623 : decode cL_law 623 = .ok (.iload_n 3, 1) := by decide +kernel
theorem dL_law_624 : decode cL_law 624 = .ok (.iconst 2, 1) := by decide +kernel
theorem dL_law_625 : decode cL_law 625 = .ok (.iadd, 1) := by decide +kernel
theorem dL_law_626 : decode cL_law 626 = .ok (.iaload, 1) := by decide +kernel
theorem dL_law_627 : decode cL_law 627 = .ok (.invokevirtual 52, 3) := by decide +kernel
theorem dL_law_630 : decode cL_law 630 = .ok (.if_icmp .eq 1880, 3) := by decide +kernel
theorem dL_law_633 : decode cL_law 633 = .ok (.iconst 0, 1) := by decide +kernel
theorem dL_law_634 : decode cL_law 634 = .ok (.ireturn, 1) := by decide +kernel
theorem dL_law_635 : decode cL_law 635 = .ok (.aload_n 1, 1) := by decide +kernel
theorem dL_law_636 : decode cL_law 636 = .ok (.aload_n 0, 1) := by decide +kernel
theorem dL_law_637 : decode cL_law 637 = .ok (.iload_n 3, 1) := by decide +kernel
theorem dL_law_638 : decode cL_law 638 = .ok (.iconst 1, 1) := by decide +kernel
theorem dL_law_639 : decode cL_law 639 = .ok (.iadd, 1) := by decide +kernel
theorem dL_law_640 : decode cL_law 640 = .ok (.iaload, 1) := by decide +kernel
theorem dL_law_641 : decode cL_law 641 = .ok (.aload_n 0, 1) := by decide +kernel
theorem dL_law_642 : decode cL_law 642 = .ok (.iload_n 3, 1) := by decide +kernel
theorem dL_law_643 : decode cL_law 643 = .ok (.iconst 2, 1) := by decide +kernel
theorem dL_law_644 : decode cL_law 644 = .ok (.iadd, 1) := by decide +kernel
theorem dL_law_645 : decode cL_law 645 = .ok (.iaload, 1) := by decide +kernel
theorem dL_law_646 : decode cL_law 646 = .ok (.invokevirtual 53, 3) := by decide +kernel
theorem dL_law_649 : decode cL_law 649 = .ok (.aload_n 2, 1) := by decide +kernel
theorem dL_law_650 : decode cL_law 650 = .ok (.aload_n 0, 1) := by decide +kernel
theorem dL_law_651 : decode cL_law 651 = .ok (.iload_n 3, 1) := by decide +kernel
theorem dL_law_652 : decode cL_law 652 = .ok (.iconst 1, 1) := by decide +kernel
theorem dL_law_653 : decode cL_law 653 = .ok (.iadd, 1) := by decide +kernel
theorem dL_law_654 : decode cL_law 654 = .ok (.iaload, 1) := by decide +kernel
theorem dL_law_655 : decode cL_law 655 = .ok (.aload_n 0, 1) := by decide +kernel
theorem dL_law_656 : decode cL_law 656 = .ok (.iload_n 3, 1) := by decide +kernel
theorem dL_law_657 : decode cL_law 657 = .ok (.iconst 2, 1) := by decide +kernel
theorem dL_law_658 : decode cL_law 658 = .ok (.iadd, 1) := by decide +kernel
theorem dL_law_659 : decode cL_law 659 = .ok (.iaload, 1) := by decide +kernel
theorem dL_law_660 : decode cL_law 660 = .ok (.invokevirtual 56, 3) := by decide +kernel
theorem dL_law_663 : decode cL_law 663 = .ok (.if_icmp .eq 1847, 3) := by decide +kernel
theorem dL_law_666 : decode cL_law 666 = .ok (.iconst 0, 1) := by decide +kernel
theorem dL_law_667 : decode cL_law 667 = .ok (.ireturn, 1) := by decide +kernel
theorem dL_law_668 : decode cL_law 668 = .ok (.aload_n 1, 1) := by decide +kernel
theorem dL_law_669 : decode cL_law 669 = .ok (.aload_n 0, 1) := by decide +kernel
theorem dL_law_670 : decode cL_law 670 = .ok (.iload_n 3, 1) := by decide +kernel
theorem dL_law_671 : decode cL_law 671 = .ok (.iconst 1, 1) := by decide +kernel
theorem dL_law_672 : decode cL_law 672 = .ok (.iadd, 1) := by decide +kernel
theorem dL_law_673 : decode cL_law 673 = .ok (.iaload, 1) := by decide +kernel
theorem dL_law_674 : decode cL_law 674 = .ok (.aload_n 0, 1) := by decide +kernel
theorem dL_law_675 : decode cL_law 675 = .ok (.iload_n 3, 1) := by decide +kernel
theorem dL_law_676 : decode cL_law 676 = .ok (.iconst 2, 1) := by decide +kernel
theorem dL_law_677 : decode cL_law 677 = .ok (.iadd, 1) := by decide +kernel
theorem dL_law_678 : decode cL_law 678 = .ok (.iaload, 1) := by decide +kernel
theorem dL_law_679 : decode cL_law 679 = .ok (.invokevirtual 57, 3) := by decide +kernel
theorem dL_law_682 : decode cL_law 682 = .ok (.aload_n 2, 1) := by decide +kernel
theorem dL_law_683 : decode cL_law 683 = .ok (.aload_n 0, 1) := by decide +kernel
theorem dL_law_684 : decode cL_law 684 = .ok (.iload_n 3, 1) := by decide +kernel
theorem dL_law_685 : decode cL_law 685 = .ok (.iconst 1, 1) := by decide +kernel
theorem dL_law_686 : decode cL_law 686 = .ok (.iadd, 1) := by decide +kernel
theorem dL_law_687 : decode cL_law 687 = .ok (.iaload, 1) := by decide +kernel
theorem dL_law_688 : decode cL_law 688 = .ok (.aload_n 0, 1) := by decide +kernel
theorem dL_law_689 : decode cL_law 689 = .ok (.iload_n 3, 1) := by decide +kernel
theorem dL_law_690 : decode cL_law 690 = .ok (.iconst 2, 1) := by decide +kernel
theorem dL_law_691 : decode cL_law 691 = .ok (.iadd, 1) := by decide +kernel
theorem dL_law_692 : decode cL_law 692 = .ok (.iaload, 1) := by decide +kernel
theorem dL_law_693 : decode cL_law 693 = .ok (.invokevirtual 60, 3) := by decide +kernel
theorem dL_law_696 : decode cL_law 696 = .ok (.if_icmp .eq 1814, 3) := by decide +kernel
theorem dL_law_699 : decode cL_law 699 = .ok (.iconst 0, 1) := by decide +kernel
theorem dL_law_700 : decode cL_law 700 = .ok (.ireturn, 1) := by decide +kernel
theorem dL_law_701 : decode cL_law 701 = .ok (.aload_n 1, 1) := by decide +kernel
theorem dL_law_702 : decode cL_law 702 = .ok (.aload_n 0, 1) := by decide +kernel
theorem dL_law_703 : decode cL_law 703 = .ok (.iload_n 3, 1) := by decide +kernel
theorem dL_law_704 : decode cL_law 704 = .ok (.iconst 1, 1) := by decide +kernel
theorem dL_law_705 : decode cL_law 705 = .ok (.iadd, 1) := by decide +kernel
theorem dL_law_706 : decode cL_law 706 = .ok (.iaload, 1) := by decide +kernel
theorem dL_law_707 : decode cL_law 707 = .ok (.invokevirtual 61, 3) := by decide +kernel
theorem dL_law_710 : decode cL_law 710 = .ok (.aload_n 2, 1) := by decide +kernel
theorem dL_law_711 : decode cL_law 711 = .ok (.aload_n 0, 1) := by decide +kernel
theorem dL_law_712 : decode cL_law 712 = .ok (.iload_n 3, 1) := by decide +kernel
theorem dL_law_713 : decode cL_law 713 = .ok (.iconst 1, 1) := by decide +kernel
theorem dL_law_714 : decode cL_law 714 = .ok (.iadd, 1) := by decide +kernel
theorem dL_law_715 : decode cL_law 715 = .ok (.iaload, 1) := by decide +kernel
theorem dL_law_716 : decode cL_law 716 = .ok (.invokevirtual 64, 3) := by decide +kernel
theorem dL_law_719 : decode cL_law 719 = .ok (.if_icmp .eq 1791, 3) := by decide +kernel
theorem dL_law_722 : decode cL_law 722 = .ok (.iconst 0, 1) := by decide +kernel
theorem dL_law_723 : decode cL_law 723 = .ok (.ireturn, 1) := by decide +kernel
theorem dL_law_724 : decode cL_law 724 = .ok (.aload_n 1, 1) := by decide +kernel
theorem dL_law_725 : decode cL_law 725 = .ok (.aload_n 0, 1) := by decide +kernel
theorem dL_law_726 : decode cL_law 726 = .ok (.iload_n 3, 1) := by decide +kernel
theorem dL_law_727 : decode cL_law 727 = .ok (.iconst 1, 1) := by decide +kernel
theorem dL_law_728 : decode cL_law 728 = .ok (.iadd, 1) := by decide +kernel
theorem dL_law_729 : decode cL_law 729 = .ok (.iaload, 1) := by decide +kernel
theorem dL_law_730 : decode cL_law 730 = .ok (.invokevirtual 65, 3) := by decide +kernel
theorem dL_law_733 : decode cL_law 733 = .ok (.aload_n 2, 1) := by decide +kernel
theorem dL_law_734 : decode cL_law 734 = .ok (.aload_n 0, 1) := by decide +kernel
theorem dL_law_735 : decode cL_law 735 = .ok (.iload_n 3, 1) := by decide +kernel
theorem dL_law_736 : decode cL_law 736 = .ok (.iconst 1, 1) := by decide +kernel
theorem dL_law_737 : decode cL_law 737 = .ok (.iadd, 1) := by decide +kernel
theorem dL_law_738 : decode cL_law 738 = .ok (.iaload, 1) := by decide +kernel
theorem dL_law_739 : decode cL_law 739 = .ok (.invokevirtual 68, 3) := by decide +kernel
theorem dL_law_742 : decode cL_law 742 = .ok (.if_icmp .eq 1768, 3) := by decide +kernel
theorem dL_law_745 : decode cL_law 745 = .ok (.iconst 0, 1) := by decide +kernel
theorem dL_law_746 : decode cL_law 746 = .ok (.ireturn, 1) := by decide +kernel
theorem dL_law_747 : decode cL_law 747 = .ok (.aload_n 1, 1) := by decide +kernel
theorem dL_law_748 : decode cL_law 748 = .ok (.aload_n 0, 1) := by decide +kernel
theorem dL_law_749 : decode cL_law 749 = .ok (.iload_n 3, 1) := by decide +kernel
theorem dL_law_750 : decode cL_law 750 = .ok (.iconst 1, 1) := by decide +kernel
theorem dL_law_751 : decode cL_law 751 = .ok (.iadd, 1) := by decide +kernel
theorem dL_law_752 : decode cL_law 752 = .ok (.iaload, 1) := by decide +kernel
theorem dL_law_753 : decode cL_law 753 = .ok (.invokevirtual 69, 3) := by decide +kernel
theorem dL_law_756 : decode cL_law 756 = .ok (.aload_n 2, 1) := by decide +kernel
theorem dL_law_757 : decode cL_law 757 = .ok (.aload_n 0, 1) := by decide +kernel
theorem dL_law_758 : decode cL_law 758 = .ok (.iload_n 3, 1) := by decide +kernel
theorem dL_law_759 : decode cL_law 759 = .ok (.iconst 1, 1) := by decide +kernel
theorem dL_law_760 : decode cL_law 760 = .ok (.iadd, 1) := by decide +kernel
theorem dL_law_761 : decode cL_law 761 = .ok (.iaload, 1) := by decide +kernel
theorem dL_law_762 : decode cL_law 762 = .ok (.invokevirtual 72, 3) := by decide +kernel
theorem dL_law_765 : decode cL_law 765 = .ok (.if_icmp .eq 1745, 3) := by decide +kernel
theorem dL_law_768 : decode cL_law 768 = .ok (.iconst 0, 1) := by decide +kernel
theorem dL_law_769 : decode cL_law 769 = .ok (.ireturn, 1) := by decide +kernel
theorem dL_law_770 : decode cL_law 770 = .ok (.aload_n 1, 1) := by decide +kernel
theorem dL_law_771 : decode cL_law 771 = .ok (.invokevirtual 73, 3) := by decide +kernel
theorem dL_law_774 : decode cL_law 774 = .ok (.aload_n 2, 1) := by decide +kernel
theorem dL_law_775 : decode cL_law 775 = .ok (.invokevirtual 76, 3) := by decide +kernel
theorem dL_law_778 : decode cL_law 778 = .ok (.if_icmp .eq 1732, 3) := by decide +kernel
theorem dL_law_781 : decode cL_law 781 = .ok (.iconst 0, 1) := by decide +kernel
theorem dL_law_782 : decode cL_law 782 = .ok (.ireturn, 1) := by decide +kernel
theorem dL_law_783 : decode cL_law 783 = .ok (.aload_n 1, 1) := by decide +kernel
theorem dL_law_784 : decode cL_law 784 = .ok (.invokevirtual 77, 3) := by decide +kernel
theorem dL_law_787 : decode cL_law 787 = .ok (.aload_n 2, 1) := by decide +kernel
theorem dL_law_788 : decode cL_law 788 = .ok (.invokevirtual 80, 3) := by decide +kernel
theorem dL_law_791 : decode cL_law 791 = .ok (.if_icmp .eq 1719, 3) := by decide +kernel
theorem dL_law_794 : decode cL_law 794 = .ok (.iconst 0, 1) := by decide +kernel
theorem dL_law_795 : decode cL_law 795 = .ok (.ireturn, 1) := by decide +kernel
theorem dL_law_796 : decode cL_law 796 = .ok (.aload_n 1, 1) := by decide +kernel
theorem dL_law_797 : decode cL_law 797 = .ok (.aload_n 0, 1) := by decide +kernel
theorem dL_law_798 : decode cL_law 798 = .ok (.iload_n 3, 1) := by decide +kernel
theorem dL_law_799 : decode cL_law 799 = .ok (.iconst 1, 1) := by decide +kernel
theorem dL_law_800 : decode cL_law 800 = .ok (.iadd, 1) := by decide +kernel
theorem dL_law_801 : decode cL_law 801 = .ok (.iaload, 1) := by decide +kernel
theorem dL_law_802 : decode cL_law 802 = .ok (.invokevirtual 81, 3) := by decide +kernel
theorem dL_law_805 : decode cL_law 805 = .ok (.aload_n 2, 1) := by decide +kernel
theorem dL_law_806 : decode cL_law 806 = .ok (.aload_n 0, 1) := by decide +kernel
theorem dL_law_807 : decode cL_law 807 = .ok (.iload_n 3, 1) := by decide +kernel
theorem dL_law_808 : decode cL_law 808 = .ok (.iconst 1, 1) := by decide +kernel
theorem dL_law_809 : decode cL_law 809 = .ok (.iadd, 1) := by decide +kernel
theorem dL_law_810 : decode cL_law 810 = .ok (.iaload, 1) := by decide +kernel
theorem dL_law_811 : decode cL_law 811 = .ok (.invokevirtual 84, 3) := by decide +kernel
theorem dL_law_814 : decode cL_law 814 = .ok (.if_icmp .eq 1696, 3) := by decide +kernel
theorem dL_law_817 : decode cL_law 817 = .ok (.iconst 0, 1) := by decide +kernel
theorem dL_law_818 : decode cL_law 818 = .ok (.ireturn, 1) := by decide +kernel
theorem dL_law_819 : decode cL_law 819 = .ok (.aload_n 1, 1) := by decide +kernel
theorem dL_law_820 : decode cL_law 820 = .ok (.aload_n 0, 1) := by decide +kernel
theorem dL_law_821 : decode cL_law 821 = .ok (.iload_n 3, 1) := by decide +kernel
theorem dL_law_822 : decode cL_law 822 = .ok (.iconst 1, 1) := by decide +kernel
theorem dL_law_823 : decode cL_law 823 = .ok (.iadd, 1) := by decide +kernel
theorem dL_law_824 : decode cL_law 824 = .ok (.iaload, 1) := by decide +kernel
theorem dL_law_825 : decode cL_law 825 = .ok (.invokevirtual 85, 3) := by decide +kernel
theorem dL_law_828 : decode cL_law 828 = .ok (.aload_n 2, 1) := by decide +kernel
theorem dL_law_829 : decode cL_law 829 = .ok (.aload_n 0, 1) := by decide +kernel
theorem dL_law_830 : decode cL_law 830 = .ok (.iload_n 3, 1) := by decide +kernel
theorem dL_law_831 : decode cL_law 831 = .ok (.iconst 1, 1) := by decide +kernel
theorem dL_law_832 : decode cL_law 832 = .ok (.iadd, 1) := by decide +kernel
theorem dL_law_833 : decode cL_law 833 = .ok (.iaload, 1) := by decide +kernel
theorem dL_law_834 : decode cL_law 834 = .ok (.invokevirtual 88, 3) := by decide +kernel
theorem dL_law_837 : decode cL_law 837 = .ok (.if_icmp .eq 1673, 3) := by decide +kernel
theorem dL_law_840 : decode cL_law 840 = .ok (.iconst 0, 1) := by decide +kernel
theorem dL_law_841 : decode cL_law 841 = .ok (.ireturn, 1) := by decide +kernel
theorem dL_law_842 : decode cL_law 842 = .ok (.aload_n 1, 1) := by decide +kernel
theorem dL_law_843 : decode cL_law 843 = .ok (.aload_n 0, 1) := by decide +kernel
theorem dL_law_844 : decode cL_law 844 = .ok (.iload_n 3, 1) := by decide +kernel
theorem dL_law_845 : decode cL_law 845 = .ok (.iconst 1, 1) := by decide +kernel
theorem dL_law_846 : decode cL_law 846 = .ok (.iadd, 1) := by decide +kernel
theorem dL_law_847 : decode cL_law 847 = .ok (.iaload, 1) := by decide +kernel
theorem dL_law_848 : decode cL_law 848 = .ok (.aload_n 0, 1) := by decide +kernel
theorem dL_law_849 : decode cL_law 849 = .ok (.iload_n 3, 1) := by decide +kernel
theorem dL_law_850 : decode cL_law 850 = .ok (.iconst 2, 1) := by decide +kernel
theorem dL_law_851 : decode cL_law 851 = .ok (.iadd, 1) := by decide +kernel
theorem dL_law_852 : decode cL_law 852 = .ok (.iaload, 1) := by decide +kernel
theorem dL_law_853 : decode cL_law 853 = .ok (.invokevirtual 89, 3) := by decide +kernel
theorem dL_law_856 : decode cL_law 856 = .ok (.aload_n 2, 1) := by decide +kernel
theorem dL_law_857 : decode cL_law 857 = .ok (.aload_n 0, 1) := by decide +kernel
theorem dL_law_858 : decode cL_law 858 = .ok (.iload_n 3, 1) := by decide +kernel
theorem dL_law_859 : decode cL_law 859 = .ok (.iconst 1, 1) := by decide +kernel
theorem dL_law_860 : decode cL_law 860 = .ok (.iadd, 1) := by decide +kernel
theorem dL_law_861 : decode cL_law 861 = .ok (.iaload, 1) := by decide +kernel
theorem dL_law_862 : decode cL_law 862 = .ok (.aload_n 0, 1) := by decide +kernel
theorem dL_law_863 : decode cL_law 863 = .ok (.iload_n 3, 1) := by decide +kernel
theorem dL_law_864 : decode cL_law 864 = .ok (.iconst 2, 1) := by decide +kernel
theorem dL_law_865 : decode cL_law 865 = .ok (.iadd, 1) := by decide +kernel
theorem dL_law_866 : decode cL_law 866 = .ok (.iaload, 1) := by decide +kernel
theorem dL_law_867 : decode cL_law 867 = .ok (.invokevirtual 92, 3) := by decide +kernel
theorem dL_law_870 : decode cL_law 870 = .ok (.if_icmp .eq 1640, 3) := by decide +kernel
theorem dL_law_873 : decode cL_law 873 = .ok (.iconst 0, 1) := by decide +kernel
theorem dL_law_874 : decode cL_law 874 = .ok (.ireturn, 1) := by decide +kernel
theorem dL_law_875 : decode cL_law 875 = .ok (.aload_n 1, 1) := by decide +kernel
theorem dL_law_876 : decode cL_law 876 = .ok (.invokevirtual 93, 3) := by decide +kernel
theorem dL_law_879 : decode cL_law 879 = .ok (.aload_n 2, 1) := by decide +kernel
theorem dL_law_880 : decode cL_law 880 = .ok (.invokevirtual 96, 3) := by decide +kernel
theorem dL_law_883 : decode cL_law 883 = .ok (.if_icmp .eq 1627, 3) := by decide +kernel
theorem dL_law_886 : decode cL_law 886 = .ok (.iconst 0, 1) := by decide +kernel
theorem dL_law_887 : decode cL_law 887 = .ok (.ireturn, 1) := by decide +kernel
theorem dL_law_888 : decode cL_law 888 = .ok (.aload_n 1, 1) := by decide +kernel
theorem dL_law_889 : decode cL_law 889 = .ok (.invokevirtual 97, 3) := by decide +kernel
theorem dL_law_892 : decode cL_law 892 = .ok (.aload_n 2, 1) := by decide +kernel
theorem dL_law_893 : decode cL_law 893 = .ok (.invokevirtual 100, 3) := by decide +kernel
theorem dL_law_896 : decode cL_law 896 = .ok (.if_icmp .eq 1614, 3) := by decide +kernel
theorem dL_law_899 : decode cL_law 899 = .ok (.iconst 0, 1) := by decide +kernel
theorem dL_law_900 : decode cL_law 900 = .ok (.ireturn, 1) := by decide +kernel
theorem dL_law_901 : decode cL_law 901 = .ok (.aload_n 1, 1) := by decide +kernel
theorem dL_law_902 : decode cL_law 902 = .ok (.invokevirtual 101, 3) := by decide +kernel
theorem dL_law_905 : decode cL_law 905 = .ok (.aload_n 2, 1) := by decide +kernel
theorem dL_law_906 : decode cL_law 906 = .ok (.invokevirtual 104, 3) := by decide +kernel
theorem dL_law_909 : decode cL_law 909 = .ok (.if_icmp .eq 1601, 3) := by decide +kernel
theorem dL_law_912 : decode cL_law 912 = .ok (.iconst 0, 1) := by decide +kernel
theorem dL_law_913 : decode cL_law 913 = .ok (.ireturn, 1) := by decide +kernel
theorem dL_law_914 : decode cL_law 914 = .ok (.aload_n 1, 1) := by decide +kernel
theorem dL_law_915 : decode cL_law 915 = .ok (.invokevirtual 105, 3) := by decide +kernel
theorem dL_law_918 : decode cL_law 918 = .ok (.aload_n 2, 1) := by decide +kernel
theorem dL_law_919 : decode cL_law 919 = .ok (.invokevirtual 108, 3) := by decide +kernel
theorem dL_law_922 : decode cL_law 922 = .ok (.if_icmp .eq 1588, 3) := by decide +kernel
theorem dL_law_925 : decode cL_law 925 = .ok (.iconst 0, 1) := by decide +kernel
theorem dL_law_926 : decode cL_law 926 = .ok (.ireturn, 1) := by decide +kernel
theorem dL_law_927 : decode cL_law 927 = .ok (.aload_n 1, 1) := by decide +kernel
theorem dL_law_928 : decode cL_law 928 = .ok (.aload_n 0, 1) := by decide +kernel
theorem dL_law_929 : decode cL_law 929 = .ok (.iload_n 3, 1) := by decide +kernel
theorem dL_law_930 : decode cL_law 930 = .ok (.iconst 1, 1) := by decide +kernel
theorem dL_law_931 : decode cL_law 931 = .ok (.iadd, 1) := by decide +kernel
theorem dL_law_932 : decode cL_law 932 = .ok (.iaload, 1) := by decide +kernel
theorem dL_law_933 : decode cL_law 933 = .ok (.invokevirtual 109, 3) := by decide +kernel
theorem dL_law_936 : decode cL_law 936 = .ok (.aload_n 2, 1) := by decide +kernel
theorem dL_law_937 : decode cL_law 937 = .ok (.aload_n 0, 1) := by decide +kernel
theorem dL_law_938 : decode cL_law 938 = .ok (.iload_n 3, 1) := by decide +kernel
theorem dL_law_939 : decode cL_law 939 = .ok (.iconst 1, 1) := by decide +kernel
theorem dL_law_940 : decode cL_law 940 = .ok (.iadd, 1) := by decide +kernel
theorem dL_law_941 : decode cL_law 941 = .ok (.iaload, 1) := by decide +kernel
theorem dL_law_942 : decode cL_law 942 = .ok (.invokevirtual 112, 3) := by decide +kernel
theorem dL_law_945 : decode cL_law 945 = .ok (.if_icmp .eq 1565, 3) := by decide +kernel
theorem dL_law_948 : decode cL_law 948 = .ok (.iconst 0, 1) := by decide +kernel
theorem dL_law_949 : decode cL_law 949 = .ok (.ireturn, 1) := by decide +kernel
theorem dL_law_950 : decode cL_law 950 = .ok (.aload_n 1, 1) := by decide +kernel
theorem dL_law_951 : decode cL_law 951 = .ok (.aload_n 0, 1) := by decide +kernel
theorem dL_law_952 : decode cL_law 952 = .ok (.iload_n 3, 1) := by decide +kernel
theorem dL_law_953 : decode cL_law 953 = .ok (.iconst 1, 1) := by decide +kernel
theorem dL_law_954 : decode cL_law 954 = .ok (.iadd, 1) := by decide +kernel
theorem dL_law_955 : decode cL_law 955 = .ok (.iaload, 1) := by decide +kernel
theorem dL_law_956 : decode cL_law 956 = .ok (.aload_n 0, 1) := by decide +kernel
theorem dL_law_957 : decode cL_law 957 = .ok (.iload_n 3, 1) := by decide +kernel
theorem dL_law_958 : decode cL_law 958 = .ok (.iconst 2, 1) := by decide +kernel
theorem dL_law_959 : decode cL_law 959 = .ok (.iadd, 1) := by decide +kernel
theorem dL_law_960 : decode cL_law 960 = .ok (.iaload, 1) := by decide +kernel
theorem dL_law_961 : decode cL_law 961 = .ok (.invokevirtual 113, 3) := by decide +kernel
theorem dL_law_964 : decode cL_law 964 = .ok (.aload_n 2, 1) := by decide +kernel
theorem dL_law_965 : decode cL_law 965 = .ok (.aload_n 0, 1) := by decide +kernel
theorem dL_law_966 : decode cL_law 966 = .ok (.iload_n 3, 1) := by decide +kernel
theorem dL_law_967 : decode cL_law 967 = .ok (.iconst 1, 1) := by decide +kernel
theorem dL_law_968 : decode cL_law 968 = .ok (.iadd, 1) := by decide +kernel
theorem dL_law_969 : decode cL_law 969 = .ok (.iaload, 1) := by decide +kernel
theorem dL_law_970 : decode cL_law 970 = .ok (.aload_n 0, 1) := by decide +kernel
theorem dL_law_971 : decode cL_law 971 = .ok (.iload_n 3, 1) := by decide +kernel
theorem dL_law_972 : decode cL_law 972 = .ok (.iconst 2, 1) := by decide +kernel
theorem dL_law_973 : decode cL_law 973 = .ok (.iadd, 1) := by decide +kernel
theorem dL_law_974 : decode cL_law 974 = .ok (.iaload, 1) := by decide +kernel
theorem dL_law_975 : decode cL_law 975 = .ok (.invokevirtual 116, 3) := by decide +kernel
theorem dL_law_978 : decode cL_law 978 = .ok (.if_icmp .eq 1532, 3) := by decide +kernel
theorem dL_law_981 : decode cL_law 981 = .ok (.iconst 0, 1) := by decide +kernel
theorem dL_law_982 : decode cL_law 982 = .ok (.ireturn, 1) := by decide +kernel
theorem dL_law_983 : decode cL_law 983 = .ok (.aload_n 1, 1) := by decide +kernel
theorem dL_law_984 : decode cL_law 984 = .ok (.aload_n 0, 1) := by decide +kernel
theorem dL_law_985 : decode cL_law 985 = .ok (.iload_n 3, 1) := by decide +kernel
theorem dL_law_986 : decode cL_law 986 = .ok (.iconst 1, 1) := by decide +kernel
theorem dL_law_987 : decode cL_law 987 = .ok (.iadd, 1) := by decide +kernel
theorem dL_law_988 : decode cL_law 988 = .ok (.iaload, 1) := by decide +kernel
theorem dL_law_989 : decode cL_law 989 = .ok (.aload_n 0, 1) := by decide +kernel
theorem dL_law_990 : decode cL_law 990 = .ok (.iload_n 3, 1) := by decide +kernel
theorem dL_law_991 : decode cL_law 991 = .ok (.iconst 2, 1) := by decide +kernel
theorem dL_law_992 : decode cL_law 992 = .ok (.iadd, 1) := by decide +kernel
theorem dL_law_993 : decode cL_law 993 = .ok (.iaload, 1) := by decide +kernel
theorem dL_law_994 : decode cL_law 994 = .ok (.aload_n 0, 1) := by decide +kernel
theorem dL_law_995 : decode cL_law 995 = .ok (.iload_n 3, 1) := by decide +kernel
theorem dL_law_996 : decode cL_law 996 = .ok (.iconst 3, 1) := by decide +kernel
theorem dL_law_997 : decode cL_law 997 = .ok (.iadd, 1) := by decide +kernel
theorem dL_law_998 : decode cL_law 998 = .ok (.iaload, 1) := by decide +kernel
theorem dL_law_999 : decode cL_law 999 = .ok (.invokevirtual 117, 3) := by decide +kernel
theorem dL_law_1002 : decode cL_law 1002 = .ok (.aload_n 2, 1) := by decide +kernel
theorem dL_law_1003 : decode cL_law 1003 = .ok (.aload_n 0, 1) := by decide +kernel
theorem dL_law_1004 : decode cL_law 1004 = .ok (.iload_n 3, 1) := by decide +kernel
theorem dL_law_1005 : decode cL_law 1005 = .ok (.iconst 1, 1) := by decide +kernel
theorem dL_law_1006 : decode cL_law 1006 = .ok (.iadd, 1) := by decide +kernel
theorem dL_law_1007 : decode cL_law 1007 = .ok (.iaload, 1) := by decide +kernel
theorem dL_law_1008 : decode cL_law 1008 = .ok (.aload_n 0, 1) := by decide +kernel
theorem dL_law_1009 : decode cL_law 1009 = .ok (.iload_n 3, 1) := by decide +kernel
theorem dL_law_1010 : decode cL_law 1010 = .ok (.iconst 2, 1) := by decide +kernel
theorem dL_law_1011 : decode cL_law 1011 = .ok (.iadd, 1) := by decide +kernel
theorem dL_law_1012 : decode cL_law 1012 = .ok (.iaload, 1) := by decide +kernel
theorem dL_law_1013 : decode cL_law 1013 = .ok (.aload_n 0, 1) := by decide +kernel
theorem dL_law_1014 : decode cL_law 1014 = .ok (.iload_n 3, 1) := by decide +kernel
theorem dL_law_1015 : decode cL_law 1015 = .ok (.iconst 3, 1) := by decide +kernel
theorem dL_law_1016 : decode cL_law 1016 = .ok (.iadd, 1) := by decide +kernel
theorem dL_law_1017 : decode cL_law 1017 = .ok (.iaload, 1) := by decide +kernel
theorem dL_law_1018 : decode cL_law 1018 = .ok (.invokevirtual 121, 3) := by decide +kernel
theorem dL_law_1021 : decode cL_law 1021 = .ok (.if_icmp .eq 1489, 3) := by decide +kernel
theorem dL_law_1024 : decode cL_law 1024 = .ok (.iconst 0, 1) := by decide +kernel
theorem dL_law_1025 : decode cL_law 1025 = .ok (.ireturn, 1) := by decide +kernel
theorem dL_law_1026 : decode cL_law 1026 = .ok (.aload_n 1, 1) := by decide +kernel
theorem dL_law_1027 : decode cL_law 1027 = .ok (.aload_n 0, 1) := by decide +kernel
theorem dL_law_1028 : decode cL_law 1028 = .ok (.iload_n 3, 1) := by decide +kernel
theorem dL_law_1029 : decode cL_law 1029 = .ok (.iconst 1, 1) := by decide +kernel
theorem dL_law_1030 : decode cL_law 1030 = .ok (.iadd, 1) := by decide +kernel
theorem dL_law_1031 : decode cL_law 1031 = .ok (.iaload, 1) := by decide +kernel
theorem dL_law_1032 : decode cL_law 1032 = .ok (.aload_n 0, 1) := by decide +kernel
theorem dL_law_1033 : decode cL_law 1033 = .ok (.iload_n 3, 1) := by decide +kernel
theorem dL_law_1034 : decode cL_law 1034 = .ok (.iconst 2, 1) := by decide +kernel
theorem dL_law_1035 : decode cL_law 1035 = .ok (.iadd, 1) := by decide +kernel
theorem dL_law_1036 : decode cL_law 1036 = .ok (.iaload, 1) := by decide +kernel
theorem dL_law_1037 : decode cL_law 1037 = .ok (.invokevirtual 122, 3) := by decide +kernel
theorem dL_law_1040 : decode cL_law 1040 = .ok (.aload_n 2, 1) := by decide +kernel
theorem dL_law_1041 : decode cL_law 1041 = .ok (.aload_n 0, 1) := by decide +kernel
theorem dL_law_1042 : decode cL_law 1042 = .ok (.iload_n 3, 1) := by decide +kernel
theorem dL_law_1043 : decode cL_law 1043 = .ok (.iconst 1, 1) := by decide +kernel
theorem dL_law_1044 : decode cL_law 1044 = .ok (.iadd, 1) := by decide +kernel
theorem dL_law_1045 : decode cL_law 1045 = .ok (.iaload, 1) := by decide +kernel
theorem dL_law_1046 : decode cL_law 1046 = .ok (.aload_n 0, 1) := by decide +kernel
theorem dL_law_1047 : decode cL_law 1047 = .ok (.iload_n 3, 1) := by decide +kernel
theorem dL_law_1048 : decode cL_law 1048 = .ok (.iconst 2, 1) := by decide +kernel
theorem dL_law_1049 : decode cL_law 1049 = .ok (.iadd, 1) := by decide +kernel
theorem dL_law_1050 : decode cL_law 1050 = .ok (.iaload, 1) := by decide +kernel
theorem dL_law_1051 : decode cL_law 1051 = .ok (.invokevirtual 125, 3) := by decide +kernel
theorem dL_law_1054 : decode cL_law 1054 = .ok (.if_icmp .eq 1456, 3) := by decide +kernel
theorem dL_law_1057 : decode cL_law 1057 = .ok (.iconst 0, 1) := by decide +kernel
theorem dL_law_1058 : decode cL_law 1058 = .ok (.ireturn, 1) := by decide +kernel
theorem dL_law_1059 : decode cL_law 1059 = .ok (.aload_n 1, 1) := by decide +kernel
theorem dL_law_1060 : decode cL_law 1060 = .ok (.aload_n 0, 1) := by decide +kernel
theorem dL_law_1061 : decode cL_law 1061 = .ok (.iload_n 3, 1) := by decide +kernel
theorem dL_law_1062 : decode cL_law 1062 = .ok (.iconst 1, 1) := by decide +kernel
theorem dL_law_1063 : decode cL_law 1063 = .ok (.iadd, 1) := by decide +kernel
theorem dL_law_1064 : decode cL_law 1064 = .ok (.iaload, 1) := by decide +kernel
theorem dL_law_1065 : decode cL_law 1065 = .ok (.invokevirtual 126, 3) := by decide +kernel
theorem dL_law_1068 : decode cL_law 1068 = .ok (.aload_n 2, 1) := by decide +kernel
theorem dL_law_1069 : decode cL_law 1069 = .ok (.aload_n 0, 1) := by decide +kernel
theorem dL_law_1070 : decode cL_law 1070 = .ok (.iload_n 3, 1) := by decide +kernel
theorem dL_law_1071 : decode cL_law 1071 = .ok (.iconst 1, 1) := by decide +kernel
theorem dL_law_1072 : decode cL_law 1072 = .ok (.iadd, 1) := by decide +kernel
theorem dL_law_1073 : decode cL_law 1073 = .ok (.iaload, 1) := by decide +kernel
theorem dL_law_1074 : decode cL_law 1074 = .ok (.invokevirtual 129, 3) := by decide +kernel
theorem dL_law_1077 : decode cL_law 1077 = .ok (.if_icmp .eq 1433, 3) := by decide +kernel
theorem dL_law_1080 : decode cL_law 1080 = .ok (.iconst 0, 1) := by decide +kernel
theorem dL_law_1081 : decode cL_law 1081 = .ok (.ireturn, 1) := by decide +kernel
theorem dL_law_1082 : decode cL_law 1082 = .ok (.aload_n 1, 1) := by decide +kernel
theorem dL_law_1083 : decode cL_law 1083 = .ok (.aload_n 0, 1) := by decide +kernel
theorem dL_law_1084 : decode cL_law 1084 = .ok (.iload_n 3, 1) := by decide +kernel
theorem dL_law_1085 : decode cL_law 1085 = .ok (.iconst 1, 1) := by decide +kernel
theorem dL_law_1086 : decode cL_law 1086 = .ok (.iadd, 1) := by decide +kernel
theorem dL_law_1087 : decode cL_law 1087 = .ok (.iaload, 1) := by decide +kernel
theorem dL_law_1088 : decode cL_law 1088 = .ok (.invokevirtual 130, 3) := by decide +kernel
theorem dL_law_1091 : decode cL_law 1091 = .ok (.aload_n 2, 1) := by decide +kernel
theorem dL_law_1092 : decode cL_law 1092 = .ok (.aload_n 0, 1) := by decide +kernel
theorem dL_law_1093 : decode cL_law 1093 = .ok (.iload_n 3, 1) := by decide +kernel
theorem dL_law_1094 : decode cL_law 1094 = .ok (.iconst 1, 1) := by decide +kernel
theorem dL_law_1095 : decode cL_law 1095 = .ok (.iadd, 1) := by decide +kernel
theorem dL_law_1096 : decode cL_law 1096 = .ok (.iaload, 1) := by decide +kernel
theorem dL_law_1097 : decode cL_law 1097 = .ok (.invokevirtual 133, 3) := by decide +kernel
theorem dL_law_1100 : decode cL_law 1100 = .ok (.if_icmp .eq 1410, 3) := by decide +kernel
theorem dL_law_1103 : decode cL_law 1103 = .ok (.iconst 0, 1) := by decide +kernel
theorem dL_law_1104 : decode cL_law 1104 = .ok (.ireturn, 1) := by decide +kernel
theorem dL_law_1105 : decode cL_law 1105 = .ok (.aload_n 1, 1) := by decide +kernel
theorem dL_law_1106 : decode cL_law 1106 = .ok (.invokevirtual 134, 3) := by decide +kernel
theorem dL_law_1109 : decode cL_law 1109 = .ok (.aload_n 2, 1) := by decide +kernel
theorem dL_law_1110 : decode cL_law 1110 = .ok (.invokevirtual 137, 3) := by decide +kernel
theorem dL_law_1113 : decode cL_law 1113 = .ok (.if_icmp .eq 1397, 3) := by decide +kernel
theorem dL_law_1116 : decode cL_law 1116 = .ok (.iconst 0, 1) := by decide +kernel
theorem dL_law_1117 : decode cL_law 1117 = .ok (.ireturn, 1) := by decide +kernel
theorem dL_law_1118 : decode cL_law 1118 = .ok (.aload_n 1, 1) := by decide +kernel
theorem dL_law_1119 : decode cL_law 1119 = .ok (.aload_n 0, 1) := by decide +kernel
theorem dL_law_1120 : decode cL_law 1120 = .ok (.iload_n 3, 1) := by decide +kernel
theorem dL_law_1121 : decode cL_law 1121 = .ok (.iconst 1, 1) := by decide +kernel
theorem dL_law_1122 : decode cL_law 1122 = .ok (.iadd, 1) := by decide +kernel
theorem dL_law_1123 : decode cL_law 1123 = .ok (.iaload, 1) := by decide +kernel
theorem dL_law_1124 : decode cL_law 1124 = .ok (.aload_n 0, 1) := by decide +kernel
theorem dL_law_1125 : decode cL_law 1125 = .ok (.iload_n 3, 1) := by decide +kernel
theorem dL_law_1126 : decode cL_law 1126 = .ok (.iconst 2, 1) := by decide +kernel
theorem dL_law_1127 : decode cL_law 1127 = .ok (.iadd, 1) := by decide +kernel
theorem dL_law_1128 : decode cL_law 1128 = .ok (.iaload, 1) := by decide +kernel
theorem dL_law_1129 : decode cL_law 1129 = .ok (.invokevirtual 138, 3) := by decide +kernel
theorem dL_law_1132 : decode cL_law 1132 = .ok (.aload_n 2, 1) := by decide +kernel
theorem dL_law_1133 : decode cL_law 1133 = .ok (.aload_n 0, 1) := by decide +kernel
theorem dL_law_1134 : decode cL_law 1134 = .ok (.iload_n 3, 1) := by decide +kernel
theorem dL_law_1135 : decode cL_law 1135 = .ok (.iconst 1, 1) := by decide +kernel
theorem dL_law_1136 : decode cL_law 1136 = .ok (.iadd, 1) := by decide +kernel
theorem dL_law_1137 : decode cL_law 1137 = .ok (.iaload, 1) := by decide +kernel
theorem dL_law_1138 : decode cL_law 1138 = .ok (.aload_n 0, 1) := by decide +kernel
theorem dL_law_1139 : decode cL_law 1139 = .ok (.iload_n 3, 1) := by decide +kernel
theorem dL_law_1140 : decode cL_law 1140 = .ok (.iconst 2, 1) := by decide +kernel
theorem dL_law_1141 : decode cL_law 1141 = .ok (.iadd, 1) := by decide +kernel
theorem dL_law_1142 : decode cL_law 1142 = .ok (.iaload, 1) := by decide +kernel
theorem dL_law_1143 : decode cL_law 1143 = .ok (.invokevirtual 141, 3) := by decide +kernel
theorem dL_law_1146 : decode cL_law 1146 = .ok (.if_icmp .eq 1364, 3) := by decide +kernel
theorem dL_law_1149 : decode cL_law 1149 = .ok (.iconst 0, 1) := by decide +kernel
theorem dL_law_1150 : decode cL_law 1150 = .ok (.ireturn, 1) := by decide +kernel
theorem dL_law_1151 : decode cL_law 1151 = .ok (.aload_n 1, 1) := by decide +kernel
theorem dL_law_1152 : decode cL_law 1152 = .ok (.aload_n 0, 1) := by decide +kernel
theorem dL_law_1153 : decode cL_law 1153 = .ok (.iload_n 3, 1) := by decide +kernel
theorem dL_law_1154 : decode cL_law 1154 = .ok (.iconst 1, 1) := by decide +kernel
theorem dL_law_1155 : decode cL_law 1155 = .ok (.iadd, 1) := by decide +kernel
theorem dL_law_1156 : decode cL_law 1156 = .ok (.iaload, 1) := by decide +kernel
theorem dL_law_1157 : decode cL_law 1157 = .ok (.invokevirtual 142, 3) := by decide +kernel
theorem dL_law_1160 : decode cL_law 1160 = .ok (.aload_n 2, 1) := by decide +kernel
theorem dL_law_1161 : decode cL_law 1161 = .ok (.aload_n 0, 1) := by decide +kernel
theorem dL_law_1162 : decode cL_law 1162 = .ok (.iload_n 3, 1) := by decide +kernel
theorem dL_law_1163 : decode cL_law 1163 = .ok (.iconst 1, 1) := by decide +kernel
theorem dL_law_1164 : decode cL_law 1164 = .ok (.iadd, 1) := by decide +kernel
theorem dL_law_1165 : decode cL_law 1165 = .ok (.iaload, 1) := by decide +kernel
theorem dL_law_1166 : decode cL_law 1166 = .ok (.invokevirtual 145, 3) := by decide +kernel
theorem dL_law_1169 : decode cL_law 1169 = .ok (.if_icmp .eq 1341, 3) := by decide +kernel
theorem dL_law_1172 : decode cL_law 1172 = .ok (.iconst 0, 1) := by decide +kernel
theorem dL_law_1173 : decode cL_law 1173 = .ok (.ireturn, 1) := by decide +kernel
theorem dL_law_1174 : decode cL_law 1174 = .ok (.aload_n 1, 1) := by decide +kernel
theorem dL_law_1175 : decode cL_law 1175 = .ok (.aload_n 0, 1) := by decide +kernel
theorem dL_law_1176 : decode cL_law 1176 = .ok (.iload_n 3, 1) := by decide +kernel
theorem dL_law_1177 : decode cL_law 1177 = .ok (.iconst 1, 1) := by decide +kernel
theorem dL_law_1178 : decode cL_law 1178 = .ok (.iadd, 1) := by decide +kernel
theorem dL_law_1179 : decode cL_law 1179 = .ok (.iaload, 1) := by decide +kernel
theorem dL_law_1180 : decode cL_law 1180 = .ok (.invokevirtual 146, 3) := by decide +kernel
theorem dL_law_1183 : decode cL_law 1183 = .ok (.aload_n 2, 1) := by decide +kernel
theorem dL_law_1184 : decode cL_law 1184 = .ok (.aload_n 0, 1) := by decide +kernel
theorem dL_law_1185 : decode cL_law 1185 = .ok (.iload_n 3, 1) := by decide +kernel
theorem dL_law_1186 : decode cL_law 1186 = .ok (.iconst 1, 1) := by decide +kernel
theorem dL_law_1187 : decode cL_law 1187 = .ok (.iadd, 1) := by decide +kernel
theorem dL_law_1188 : decode cL_law 1188 = .ok (.iaload, 1) := by decide +kernel
theorem dL_law_1189 : decode cL_law 1189 = .ok (.invokevirtual 149, 3) := by decide +kernel
theorem dL_law_1192 : decode cL_law 1192 = .ok (.if_icmp .eq 1318, 3) := by decide +kernel
theorem dL_law_1195 : decode cL_law 1195 = .ok (.iconst 0, 1) := by decide +kernel
theorem dL_law_1196 : decode cL_law 1196 = .ok (.ireturn, 1) := by decide +kernel
theorem dL_law_1197 : decode cL_law 1197 = .ok (.aload_n 1, 1) := by decide +kernel
theorem dL_law_1198 : decode cL_law 1198 = .ok (.aload_n 0, 1) := by decide +kernel
theorem dL_law_1199 : decode cL_law 1199 = .ok (.iload_n 3, 1) := by decide +kernel
theorem dL_law_1200 : decode cL_law 1200 = .ok (.iconst 1, 1) := by decide +kernel
theorem dL_law_1201 : decode cL_law 1201 = .ok (.iadd, 1) := by decide +kernel
theorem dL_law_1202 : decode cL_law 1202 = .ok (.iaload, 1) := by decide +kernel
theorem dL_law_1203 : decode cL_law 1203 = .ok (.aload_n 0, 1) := by decide +kernel
theorem dL_law_1204 : decode cL_law 1204 = .ok (.iload_n 3, 1) := by decide +kernel
theorem dL_law_1205 : decode cL_law 1205 = .ok (.iconst 2, 1) := by decide +kernel
theorem dL_law_1206 : decode cL_law 1206 = .ok (.iadd, 1) := by decide +kernel
theorem dL_law_1207 : decode cL_law 1207 = .ok (.iaload, 1) := by decide +kernel
theorem dL_law_1208 : decode cL_law 1208 = .ok (.invokevirtual 150, 3) := by decide +kernel
theorem dL_law_1211 : decode cL_law 1211 = .ok (.aload_n 2, 1) := by decide +kernel
theorem dL_law_1212 : decode cL_law 1212 = .ok (.aload_n 0, 1) := by decide +kernel
theorem dL_law_1213 : decode cL_law 1213 = .ok (.iload_n 3, 1) := by decide +kernel
theorem dL_law_1214 : decode cL_law 1214 = .ok (.iconst 1, 1) := by decide +kernel
theorem dL_law_1215 : decode cL_law 1215 = .ok (.iadd, 1) := by decide +kernel
theorem dL_law_1216 : decode cL_law 1216 = .ok (.iaload, 1) := by decide +kernel
theorem dL_law_1217 : decode cL_law 1217 = .ok (.aload_n 0, 1) := by decide +kernel
theorem dL_law_1218 : decode cL_law 1218 = .ok (.iload_n 3, 1) := by decide +kernel
theorem dL_law_1219 : decode cL_law 1219 = .ok (.iconst 2, 1) := by decide +kernel
theorem dL_law_1220 : decode cL_law 1220 = .ok (.iadd, 1) := by decide +kernel
theorem dL_law_1221 : decode cL_law 1221 = .ok (.iaload, 1) := by decide +kernel
theorem dL_law_1222 : decode cL_law 1222 = .ok (.invokevirtual 153, 3) := by decide +kernel
theorem dL_law_1225 : decode cL_law 1225 = .ok (.if_icmp .eq 1285, 3) := by decide +kernel
theorem dL_law_1228 : decode cL_law 1228 = .ok (.iconst 0, 1) := by decide +kernel
theorem dL_law_1229 : decode cL_law 1229 = .ok (.ireturn, 1) := by decide +kernel
theorem dL_law_1230 : decode cL_law 1230 = .ok (.aload_n 1, 1) := by decide +kernel
theorem dL_law_1231 : decode cL_law 1231 = .ok (.aload_n 0, 1) := by decide +kernel
theorem dL_law_1232 : decode cL_law 1232 = .ok (.iload_n 3, 1) := by decide +kernel
theorem dL_law_1233 : decode cL_law 1233 = .ok (.iconst 1, 1) := by decide +kernel
theorem dL_law_1234 : decode cL_law 1234 = .ok (.iadd, 1) := by decide +kernel
theorem dL_law_1235 : decode cL_law 1235 = .ok (.iaload, 1) := by decide +kernel
theorem dL_law_1236 : decode cL_law 1236 = .ok (.aload_n 0, 1) := by decide +kernel
theorem dL_law_1237 : decode cL_law 1237 = .ok (.iload_n 3, 1) := by decide +kernel
theorem dL_law_1238 : decode cL_law 1238 = .ok (.iconst 2, 1) := by decide +kernel
theorem dL_law_1239 : decode cL_law 1239 = .ok (.iadd, 1) := by decide +kernel
theorem dL_law_1240 : decode cL_law 1240 = .ok (.iaload, 1) := by decide +kernel
theorem dL_law_1241 : decode cL_law 1241 = .ok (.invokevirtual 154, 3) := by decide +kernel
theorem dL_law_1244 : decode cL_law 1244 = .ok (.aload_n 2, 1) := by decide +kernel
theorem dL_law_1245 : decode cL_law 1245 = .ok (.aload_n 0, 1) := by decide +kernel
theorem dL_law_1246 : decode cL_law 1246 = .ok (.iload_n 3, 1) := by decide +kernel
theorem dL_law_1247 : decode cL_law 1247 = .ok (.iconst 1, 1) := by decide +kernel
theorem dL_law_1248 : decode cL_law 1248 = .ok (.iadd, 1) := by decide +kernel
theorem dL_law_1249 : decode cL_law 1249 = .ok (.iaload, 1) := by decide +kernel
theorem dL_law_1250 : decode cL_law 1250 = .ok (.aload_n 0, 1) := by decide +kernel
theorem dL_law_1251 : decode cL_law 1251 = .ok (.iload_n 3, 1) := by decide +kernel
theorem dL_law_1252 : decode cL_law 1252 = .ok (.iconst 2, 1) := by decide +kernel
theorem dL_law_1253 : decode cL_law 1253 = .ok (.iadd, 1) := by decide +kernel
theorem dL_law_1254 : decode cL_law 1254 = .ok (.iaload, 1) := by decide +kernel
theorem dL_law_1255 : decode cL_law 1255 = .ok (.invokevirtual 157, 3) := by decide +kernel
theorem dL_law_1258 : decode cL_law 1258 = .ok (.if_icmp .eq 1252, 3) := by decide +kernel
theorem dL_law_1261 : decode cL_law 1261 = .ok (.iconst 0, 1) := by decide +kernel
theorem dL_law_1262 : decode cL_law 1262 = .ok (.ireturn, 1) := by decide +kernel
theorem dL_law_1263 : decode cL_law 1263 = .ok (.aload_n 1, 1) := by decide +kernel
theorem dL_law_1264 : decode cL_law 1264 = .ok (.aload_n 0, 1) := by decide +kernel
theorem dL_law_1265 : decode cL_law 1265 = .ok (.iload_n 3, 1) := by decide +kernel
theorem dL_law_1266 : decode cL_law 1266 = .ok (.iconst 1, 1) := by decide +kernel
theorem dL_law_1267 : decode cL_law 1267 = .ok (.iadd, 1) := by decide +kernel
theorem dL_law_1268 : decode cL_law 1268 = .ok (.iaload, 1) := by decide +kernel
theorem dL_law_1269 : decode cL_law 1269 = .ok (.invokevirtual 158, 3) := by decide +kernel
theorem dL_law_1272 : decode cL_law 1272 = .ok (.aload_n 2, 1) := by decide +kernel
theorem dL_law_1273 : decode cL_law 1273 = .ok (.aload_n 0, 1) := by decide +kernel
theorem dL_law_1274 : decode cL_law 1274 = .ok (.iload_n 3, 1) := by decide +kernel
theorem dL_law_1275 : decode cL_law 1275 = .ok (.iconst 1, 1) := by decide +kernel
theorem dL_law_1276 : decode cL_law 1276 = .ok (.iadd, 1) := by decide +kernel
theorem dL_law_1277 : decode cL_law 1277 = .ok (.iaload, 1) := by decide +kernel
theorem dL_law_1278 : decode cL_law 1278 = .ok (.invokevirtual 161, 3) := by decide +kernel
theorem dL_law_1281 : decode cL_law 1281 = .ok (.if_icmp .eq 1229, 3) := by decide +kernel
theorem dL_law_1284 : decode cL_law 1284 = .ok (.iconst 0, 1) := by decide +kernel
theorem dL_law_1285 : decode cL_law 1285 = .ok (.ireturn, 1) := by decide +kernel
theorem dL_law_1286 : decode cL_law 1286 = .ok (.aload_n 1, 1) := by decide +kernel
theorem dL_law_1287 : decode cL_law 1287 = .ok (.aload_n 0, 1) := by decide +kernel
theorem dL_law_1288 : decode cL_law 1288 = .ok (.iload_n 3, 1) := by decide +kernel
theorem dL_law_1289 : decode cL_law 1289 = .ok (.iconst 1, 1) := by decide +kernel
theorem dL_law_1290 : decode cL_law 1290 = .ok (.iadd, 1) := by decide +kernel
theorem dL_law_1291 : decode cL_law 1291 = .ok (.iaload, 1) := by decide +kernel
theorem dL_law_1292 : decode cL_law 1292 = .ok (.invokevirtual 162, 3) := by decide +kernel
theorem dL_law_1295 : decode cL_law 1295 = .ok (.aload_n 2, 1) := by decide +kernel
theorem dL_law_1296 : decode cL_law 1296 = .ok (.aload_n 0, 1) := by decide +kernel
theorem dL_law_1297 : decode cL_law 1297 = .ok (.iload_n 3, 1) := by decide +kernel
theorem dL_law_1298 : decode cL_law 1298 = .ok (.iconst 1, 1) := by decide +kernel
theorem dL_law_1299 : decode cL_law 1299 = .ok (.iadd, 1) := by decide +kernel
theorem dL_law_1300 : decode cL_law 1300 = .ok (.iaload, 1) := by decide +kernel
theorem dL_law_1301 : decode cL_law 1301 = .ok (.invokevirtual 165, 3) := by decide +kernel
theorem dL_law_1304 : decode cL_law 1304 = .ok (.if_icmp .eq 1206, 3) := by decide +kernel
theorem dL_law_1307 : decode cL_law 1307 = .ok (.iconst 0, 1) := by decide +kernel
theorem dL_law_1308 : decode cL_law 1308 = .ok (.ireturn, 1) := by decide +kernel
theorem dL_law_1309 : decode cL_law 1309 = .ok (.aload_n 1, 1) := by decide +kernel
theorem dL_law_1310 : decode cL_law 1310 = .ok (.aload_n 0, 1) := by decide +kernel
theorem dL_law_1311 : decode cL_law 1311 = .ok (.iload_n 3, 1) := by decide +kernel
theorem dL_law_1312 : decode cL_law 1312 = .ok (.iconst 1, 1) := by decide +kernel
theorem dL_law_1313 : decode cL_law 1313 = .ok (.iadd, 1) := by decide +kernel
theorem dL_law_1314 : decode cL_law 1314 = .ok (.iaload, 1) := by decide +kernel
theorem dL_law_1315 : decode cL_law 1315 = .ok (.invokevirtual 166, 3) := by decide +kernel
theorem dL_law_1318 : decode cL_law 1318 = .ok (.aload_n 2, 1) := by decide +kernel
theorem dL_law_1319 : decode cL_law 1319 = .ok (.aload_n 0, 1) := by decide +kernel
theorem dL_law_1320 : decode cL_law 1320 = .ok (.iload_n 3, 1) := by decide +kernel
theorem dL_law_1321 : decode cL_law 1321 = .ok (.iconst 1, 1) := by decide +kernel
theorem dL_law_1322 : decode cL_law 1322 = .ok (.iadd, 1) := by decide +kernel
theorem dL_law_1323 : decode cL_law 1323 = .ok (.iaload, 1) := by decide +kernel
theorem dL_law_1324 : decode cL_law 1324 = .ok (.invokevirtual 169, 3) := by decide +kernel
theorem dL_law_1327 : decode cL_law 1327 = .ok (.if_icmp .eq 1183, 3) := by decide +kernel
theorem dL_law_1330 : decode cL_law 1330 = .ok (.iconst 0, 1) := by decide +kernel
theorem dL_law_1331 : decode cL_law 1331 = .ok (.ireturn, 1) := by decide +kernel
theorem dL_law_1332 : decode cL_law 1332 = .ok (.aload_n 1, 1) := by decide +kernel
theorem dL_law_1333 : decode cL_law 1333 = .ok (.aload_n 0, 1) := by decide +kernel
theorem dL_law_1334 : decode cL_law 1334 = .ok (.iload_n 3, 1) := by decide +kernel
theorem dL_law_1335 : decode cL_law 1335 = .ok (.iconst 1, 1) := by decide +kernel
theorem dL_law_1336 : decode cL_law 1336 = .ok (.iadd, 1) := by decide +kernel
theorem dL_law_1337 : decode cL_law 1337 = .ok (.iaload, 1) := by decide +kernel
theorem dL_law_1338 : decode cL_law 1338 = .ok (.invokevirtual 170, 3) := by decide +kernel
theorem dL_law_1341 : decode cL_law 1341 = .ok (.aload_n 2, 1) := by decide +kernel
theorem dL_law_1342 : decode cL_law 1342 = .ok (.aload_n 0, 1) := by decide +kernel
theorem dL_law_1343 : decode cL_law 1343 = .ok (.iload_n 3, 1) := by decide +kernel
theorem dL_law_1344 : decode cL_law 1344 = .ok (.iconst 1, 1) := by decide +kernel
theorem dL_law_1345 : decode cL_law 1345 = .ok (.iadd, 1) := by decide +kernel
theorem dL_law_1346 : decode cL_law 1346 = .ok (.iaload, 1) := by decide +kernel
theorem dL_law_1347 : decode cL_law 1347 = .ok (.invokevirtual 173, 3) := by decide +kernel
theorem dL_law_1350 : decode cL_law 1350 = .ok (.if_icmp .eq 1160, 3) := by decide +kernel
theorem dL_law_1353 : decode cL_law 1353 = .ok (.iconst 0, 1) := by decide +kernel
theorem dL_law_1354 : decode cL_law 1354 = .ok (.ireturn, 1) := by decide +kernel
theorem dL_law_1355 : decode cL_law 1355 = .ok (.aload_n 1, 1) := by decide +kernel
theorem dL_law_1356 : decode cL_law 1356 = .ok (.aload_n 0, 1) := by decide +kernel
theorem dL_law_1357 : decode cL_law 1357 = .ok (.iload_n 3, 1) := by decide +kernel
theorem dL_law_1358 : decode cL_law 1358 = .ok (.iconst 1, 1) := by decide +kernel
theorem dL_law_1359 : decode cL_law 1359 = .ok (.iadd, 1) := by decide +kernel
theorem dL_law_1360 : decode cL_law 1360 = .ok (.iaload, 1) := by decide +kernel
theorem dL_law_1361 : decode cL_law 1361 = .ok (.invokevirtual 174, 3) := by decide +kernel
theorem dL_law_1364 : decode cL_law 1364 = .ok (.aload_n 2, 1) := by decide +kernel
theorem dL_law_1365 : decode cL_law 1365 = .ok (.aload_n 0, 1) := by decide +kernel
theorem dL_law_1366 : decode cL_law 1366 = .ok (.iload_n 3, 1) := by decide +kernel
theorem dL_law_1367 : decode cL_law 1367 = .ok (.iconst 1, 1) := by decide +kernel
theorem dL_law_1368 : decode cL_law 1368 = .ok (.iadd, 1) := by decide +kernel
theorem dL_law_1369 : decode cL_law 1369 = .ok (.iaload, 1) := by decide +kernel
theorem dL_law_1370 : decode cL_law 1370 = .ok (.invokevirtual 177, 3) := by decide +kernel
theorem dL_law_1373 : decode cL_law 1373 = .ok (.if_icmp .eq 1137, 3) := by decide +kernel
theorem dL_law_1376 : decode cL_law 1376 = .ok (.iconst 0, 1) := by decide +kernel
theorem dL_law_1377 : decode cL_law 1377 = .ok (.ireturn, 1) := by decide +kernel
theorem dL_law_1378 : decode cL_law 1378 = .ok (.aload_n 1, 1) := by decide +kernel
theorem dL_law_1379 : decode cL_law 1379 = .ok (.invokevirtual 178, 3) := by decide +kernel
theorem dL_law_1382 : decode cL_law 1382 = .ok (.aload_n 2, 1) := by decide +kernel
theorem dL_law_1383 : decode cL_law 1383 = .ok (.invokevirtual 181, 3) := by decide +kernel
theorem dL_law_1386 : decode cL_law 1386 = .ok (.if_icmp .eq 1124, 3) := by decide +kernel
theorem dL_law_1389 : decode cL_law 1389 = .ok (.iconst 0, 1) := by decide +kernel
theorem dL_law_1390 : decode cL_law 1390 = .ok (.ireturn, 1) := by decide +kernel
theorem dL_law_1391 : decode cL_law 1391 = .ok (.aload_n 1, 1) := by decide +kernel
theorem dL_law_1392 : decode cL_law 1392 = .ok (.aload_n 0, 1) := by decide +kernel
theorem dL_law_1393 : decode cL_law 1393 = .ok (.iload_n 3, 1) := by decide +kernel
theorem dL_law_1394 : decode cL_law 1394 = .ok (.iconst 1, 1) := by decide +kernel
theorem dL_law_1395 : decode cL_law 1395 = .ok (.iadd, 1) := by decide +kernel
theorem dL_law_1396 : decode cL_law 1396 = .ok (.iaload, 1) := by decide +kernel
theorem dL_law_1397 : decode cL_law 1397 = .ok (.invokevirtual 182, 3) := by decide +kernel
theorem dL_law_1400 : decode cL_law 1400 = .ok (.aload_n 2, 1) := by decide +kernel
theorem dL_law_1401 : decode cL_law 1401 = .ok (.aload_n 0, 1) := by decide +kernel
theorem dL_law_1402 : decode cL_law 1402 = .ok (.iload_n 3, 1) := by decide +kernel
theorem dL_law_1403 : decode cL_law 1403 = .ok (.iconst 1, 1) := by decide +kernel
theorem dL_law_1404 : decode cL_law 1404 = .ok (.iadd, 1) := by decide +kernel
theorem dL_law_1405 : decode cL_law 1405 = .ok (.iaload, 1) := by decide +kernel
theorem dL_law_1406 : decode cL_law 1406 = .ok (.invokevirtual 185, 3) := by decide +kernel
theorem dL_law_1409 : decode cL_law 1409 = .ok (.if_icmp .eq 1101, 3) := by decide +kernel
theorem dL_law_1412 : decode cL_law 1412 = .ok (.iconst 0, 1) := by decide +kernel
theorem dL_law_1413 : decode cL_law 1413 = .ok (.ireturn, 1) := by decide +kernel
theorem dL_law_1414 : decode cL_law 1414 = .ok (.aload_n 1, 1) := by decide +kernel
theorem dL_law_1415 : decode cL_law 1415 = .ok (.aload_n 0, 1) := by decide +kernel
theorem dL_law_1416 : decode cL_law 1416 = .ok (.iload_n 3, 1) := by decide +kernel
theorem dL_law_1417 : decode cL_law 1417 = .ok (.iconst 1, 1) := by decide +kernel
theorem dL_law_1418 : decode cL_law 1418 = .ok (.iadd, 1) := by decide +kernel
theorem dL_law_1419 : decode cL_law 1419 = .ok (.iaload, 1) := by decide +kernel
theorem dL_law_1420 : decode cL_law 1420 = .ok (.invokevirtual 186, 3) := by decide +kernel
theorem dL_law_1423 : decode cL_law 1423 = .ok (.aload_n 2, 1) := by decide +kernel
theorem dL_law_1424 : decode cL_law 1424 = .ok (.aload_n 0, 1) := by decide +kernel
theorem dL_law_1425 : decode cL_law 1425 = .ok (.iload_n 3, 1) := by decide +kernel
theorem dL_law_1426 : decode cL_law 1426 = .ok (.iconst 1, 1) := by decide +kernel
theorem dL_law_1427 : decode cL_law 1427 = .ok (.iadd, 1) := by decide +kernel
theorem dL_law_1428 : decode cL_law 1428 = .ok (.iaload, 1) := by decide +kernel
theorem dL_law_1429 : decode cL_law 1429 = .ok (.invokevirtual 189, 3) := by decide +kernel
theorem dL_law_1432 : decode cL_law 1432 = .ok (.if_icmp .eq 1078, 3) := by decide +kernel
theorem dL_law_1435 : decode cL_law 1435 = .ok (.iconst 0, 1) := by decide +kernel
theorem dL_law_1436 : decode cL_law 1436 = .ok (.ireturn, 1) := by decide +kernel
theorem dL_law_1437 : decode cL_law 1437 = .ok (.aload_n 1, 1) := by decide +kernel
theorem dL_law_1438 : decode cL_law 1438 = .ok (.invokevirtual 190, 3) := by decide +kernel
theorem dL_law_1441 : decode cL_law 1441 = .ok (.aload_n 2, 1) := by decide +kernel
theorem dL_law_1442 : decode cL_law 1442 = .ok (.invokevirtual 193, 3) := by decide +kernel
theorem dL_law_1445 : decode cL_law 1445 = .ok (.if_icmp .eq 1065, 3) := by decide +kernel
theorem dL_law_1448 : decode cL_law 1448 = .ok (.iconst 0, 1) := by decide +kernel
theorem dL_law_1449 : decode cL_law 1449 = .ok (.ireturn, 1) := by decide +kernel
theorem dL_law_1450 : decode cL_law 1450 = .ok (.aload_n 1, 1) := by decide +kernel
theorem dL_law_1451 : decode cL_law 1451 = .ok (.aload_n 0, 1) := by decide +kernel
theorem dL_law_1452 : decode cL_law 1452 = .ok (.iload_n 3, 1) := by decide +kernel
theorem dL_law_1453 : decode cL_law 1453 = .ok (.iconst 1, 1) := by decide +kernel
theorem dL_law_1454 : decode cL_law 1454 = .ok (.iadd, 1) := by decide +kernel
theorem dL_law_1455 : decode cL_law 1455 = .ok (.iaload, 1) := by decide +kernel
theorem dL_law_1456 : decode cL_law 1456 = .ok (.invokevirtual 194, 3) := by decide +kernel
theorem dL_law_1459 : decode cL_law 1459 = .ok (.aload_n 2, 1) := by decide +kernel
theorem dL_law_1460 : decode cL_law 1460 = .ok (.aload_n 0, 1) := by decide +kernel
theorem dL_law_1461 : decode cL_law 1461 = .ok (.iload_n 3, 1) := by decide +kernel
theorem dL_law_1462 : decode cL_law 1462 = .ok (.iconst 1, 1) := by decide +kernel
theorem dL_law_1463 : decode cL_law 1463 = .ok (.iadd, 1) := by decide +kernel
theorem dL_law_1464 : decode cL_law 1464 = .ok (.iaload, 1) := by decide +kernel
theorem dL_law_1465 : decode cL_law 1465 = .ok (.invokevirtual 197, 3) := by decide +kernel
theorem dL_law_1468 : decode cL_law 1468 = .ok (.if_icmp .eq 1042, 3) := by decide +kernel
theorem dL_law_1471 : decode cL_law 1471 = .ok (.iconst 0, 1) := by decide +kernel
theorem dL_law_1472 : decode cL_law 1472 = .ok (.ireturn, 1) := by decide +kernel
theorem dL_law_1473 : decode cL_law 1473 = .ok (.aload_n 1, 1) := by decide +kernel
theorem dL_law_1474 : decode cL_law 1474 = .ok (.aload_n 0, 1) := by decide +kernel
theorem dL_law_1475 : decode cL_law 1475 = .ok (.iload_n 3, 1) := by decide +kernel
theorem dL_law_1476 : decode cL_law 1476 = .ok (.iconst 1, 1) := by decide +kernel
theorem dL_law_1477 : decode cL_law 1477 = .ok (.iadd, 1) := by decide +kernel
theorem dL_law_1478 : decode cL_law 1478 = .ok (.iaload, 1) := by decide +kernel
theorem dL_law_1479 : decode cL_law 1479 = .ok (.aload_n 0, 1) := by decide +kernel
theorem dL_law_1480 : decode cL_law 1480 = .ok (.iload_n 3, 1) := by decide +kernel
theorem dL_law_1481 : decode cL_law 1481 = .ok (.iconst 2, 1) := by decide +kernel
theorem dL_law_1482 : decode cL_law 1482 = .ok (.iadd, 1) := by decide +kernel
theorem dL_law_1483 : decode cL_law 1483 = .ok (.iaload, 1) := by decide +kernel
theorem dL_law_1484 : decode cL_law 1484 = .ok (.invokevirtual 198, 3) := by decide +kernel
theorem dL_law_1487 : decode cL_law 1487 = .ok (.aload_n 2, 1) := by decide +kernel
theorem dL_law_1488 : decode cL_law 1488 = .ok (.aload_n 0, 1) := by decide +kernel
theorem dL_law_1489 : decode cL_law 1489 = .ok (.iload_n 3, 1) := by decide +kernel
theorem dL_law_1490 : decode cL_law 1490 = .ok (.iconst 1, 1) := by decide +kernel
theorem dL_law_1491 : decode cL_law 1491 = .ok (.iadd, 1) := by decide +kernel
theorem dL_law_1492 : decode cL_law 1492 = .ok (.iaload, 1) := by decide +kernel
theorem dL_law_1493 : decode cL_law 1493 = .ok (.aload_n 0, 1) := by decide +kernel
theorem dL_law_1494 : decode cL_law 1494 = .ok (.iload_n 3, 1) := by decide +kernel
theorem dL_law_1495 : decode cL_law 1495 = .ok (.iconst 2, 1) := by decide +kernel
theorem dL_law_1496 : decode cL_law 1496 = .ok (.iadd, 1) := by decide +kernel
theorem dL_law_1497 : decode cL_law 1497 = .ok (.iaload, 1) := by decide +kernel
theorem dL_law_1498 : decode cL_law 1498 = .ok (.invokevirtual 201, 3) := by decide +kernel
theorem dL_law_1501 : decode cL_law 1501 = .ok (.if_icmp .eq 1009, 3) := by decide +kernel
theorem dL_law_1504 : decode cL_law 1504 = .ok (.iconst 0, 1) := by decide +kernel
theorem dL_law_1505 : decode cL_law 1505 = .ok (.ireturn, 1) := by decide +kernel
theorem dL_law_1506 : decode cL_law 1506 = .ok (.aload_n 1, 1) := by decide +kernel
theorem dL_law_1507 : decode cL_law 1507 = .ok (.aload_n 0, 1) := by decide +kernel
theorem dL_law_1508 : decode cL_law 1508 = .ok (.iload_n 3, 1) := by decide +kernel
theorem dL_law_1509 : decode cL_law 1509 = .ok (.iconst 1, 1) := by decide +kernel
theorem dL_law_1510 : decode cL_law 1510 = .ok (.iadd, 1) := by decide +kernel
theorem dL_law_1511 : decode cL_law 1511 = .ok (.iaload, 1) := by decide +kernel
theorem dL_law_1512 : decode cL_law 1512 = .ok (.aload_n 0, 1) := by decide +kernel
theorem dL_law_1513 : decode cL_law 1513 = .ok (.iload_n 3, 1) := by decide +kernel
theorem dL_law_1514 : decode cL_law 1514 = .ok (.iconst 2, 1) := by decide +kernel
theorem dL_law_1515 : decode cL_law 1515 = .ok (.iadd, 1) := by decide +kernel
theorem dL_law_1516 : decode cL_law 1516 = .ok (.iaload, 1) := by decide +kernel
theorem dL_law_1517 : decode cL_law 1517 = .ok (.invokevirtual 202, 3) := by decide +kernel
theorem dL_law_1520 : decode cL_law 1520 = .ok (.aload_n 2, 1) := by decide +kernel
theorem dL_law_1521 : decode cL_law 1521 = .ok (.aload_n 0, 1) := by decide +kernel
theorem dL_law_1522 : decode cL_law 1522 = .ok (.iload_n 3, 1) := by decide +kernel
theorem dL_law_1523 : decode cL_law 1523 = .ok (.iconst 1, 1) := by decide +kernel
theorem dL_law_1524 : decode cL_law 1524 = .ok (.iadd, 1) := by decide +kernel
theorem dL_law_1525 : decode cL_law 1525 = .ok (.iaload, 1) := by decide +kernel
theorem dL_law_1526 : decode cL_law 1526 = .ok (.aload_n 0, 1) := by decide +kernel
theorem dL_law_1527 : decode cL_law 1527 = .ok (.iload_n 3, 1) := by decide +kernel
theorem dL_law_1528 : decode cL_law 1528 = .ok (.iconst 2, 1) := by decide +kernel
theorem dL_law_1529 : decode cL_law 1529 = .ok (.iadd, 1) := by decide +kernel
theorem dL_law_1530 : decode cL_law 1530 = .ok (.iaload, 1) := by decide +kernel
theorem dL_law_1531 : decode cL_law 1531 = .ok (.invokevirtual 205, 3) := by decide +kernel
theorem dL_law_1534 : decode cL_law 1534 = .ok (.if_icmp .eq 976, 3) := by decide +kernel
theorem dL_law_1537 : decode cL_law 1537 = .ok (.iconst 0, 1) := by decide +kernel
theorem dL_law_1538 : decode cL_law 1538 = .ok (.ireturn, 1) := by decide +kernel
theorem dL_law_1539 : decode cL_law 1539 = .ok (.aload_n 1, 1) := by decide +kernel
theorem dL_law_1540 : decode cL_law 1540 = .ok (.aload_n 0, 1) := by decide +kernel
theorem dL_law_1541 : decode cL_law 1541 = .ok (.iload_n 3, 1) := by decide +kernel
theorem dL_law_1542 : decode cL_law 1542 = .ok (.iconst 1, 1) := by decide +kernel
theorem dL_law_1543 : decode cL_law 1543 = .ok (.iadd, 1) := by decide +kernel
theorem dL_law_1544 : decode cL_law 1544 = .ok (.iaload, 1) := by decide +kernel
theorem dL_law_1545 : decode cL_law 1545 = .ok (.invokevirtual 206, 3) := by decide +kernel
theorem dL_law_1548 : decode cL_law 1548 = .ok (.aload_n 2, 1) := by decide +kernel
theorem dL_law_1549 : decode cL_law 1549 = .ok (.aload_n 0, 1) := by decide +kernel
theorem dL_law_1550 : decode cL_law 1550 = .ok (.iload_n 3, 1) := by decide +kernel
theorem dL_law_1551 : decode cL_law 1551 = .ok (.iconst 1, 1) := by decide +kernel
theorem dL_law_1552 : decode cL_law 1552 = .ok (.iadd, 1) := by decide +kernel
theorem dL_law_1553 : decode cL_law 1553 = .ok (.iaload, 1) := by decide +kernel
theorem dL_law_1554 : decode cL_law 1554 = .ok (.invokevirtual 209, 3) := by decide +kernel
theorem dL_law_1557 : decode cL_law 1557 = .ok (.if_icmp .eq 953, 3) := by decide +kernel
theorem dL_law_1560 : decode cL_law 1560 = .ok (.iconst 0, 1) := by decide +kernel
theorem dL_law_1561 : decode cL_law 1561 = .ok (.ireturn, 1) := by decide +kernel
theorem dL_law_1562 : decode cL_law 1562 = .ok (.aload_n 1, 1) := by decide +kernel
theorem dL_law_1563 : decode cL_law 1563 = .ok (.invokevirtual 210, 3) := by decide +kernel
theorem dL_law_1566 : decode cL_law 1566 = .ok (.aload_n 2, 1) := by decide +kernel
theorem dL_law_1567 : decode cL_law 1567 = .ok (.invokevirtual 213, 3) := by decide +kernel
theorem dL_law_1570 : decode cL_law 1570 = .ok (.if_icmp .eq 940, 3) := by decide +kernel
theorem dL_law_1573 : decode cL_law 1573 = .ok (.iconst 0, 1) := by decide +kernel
theorem dL_law_1574 : decode cL_law 1574 = .ok (.ireturn, 1) := by decide +kernel
theorem dL_law_1575 : decode cL_law 1575 = .ok (.aload_n 1, 1) := by decide +kernel
theorem dL_law_1576 : decode cL_law 1576 = .ok (.invokevirtual 214, 3) := by decide +kernel
theorem dL_law_1579 : decode cL_law 1579 = .ok (.aload_n 2, 1) := by decide +kernel
theorem dL_law_1580 : decode cL_law 1580 = .ok (.invokevirtual 217, 3) := by decide +kernel
theorem dL_law_1583 : decode cL_law 1583 = .ok (.if_icmp .eq 927, 3) := by decide +kernel
theorem dL_law_1586 : decode cL_law 1586 = .ok (.iconst 0, 1) := by decide +kernel
theorem dL_law_1587 : decode cL_law 1587 = .ok (.ireturn, 1) := by decide +kernel
theorem dL_law_1588 : decode cL_law 1588 = .ok (.aload_n 1, 1) := by decide +kernel
theorem dL_law_1589 : decode cL_law 1589 = .ok (.aload_n 0, 1) := by decide +kernel
theorem dL_law_1590 : decode cL_law 1590 = .ok (.iload_n 3, 1) := by decide +kernel
theorem dL_law_1591 : decode cL_law 1591 = .ok (.iconst 1, 1) := by decide +kernel
theorem dL_law_1592 : decode cL_law 1592 = .ok (.iadd, 1) := by decide +kernel
theorem dL_law_1593 : decode cL_law 1593 = .ok (.iaload, 1) := by decide +kernel
theorem dL_law_1594 : decode cL_law 1594 = .ok (.invokevirtual 218, 3) := by decide +kernel
theorem dL_law_1597 : decode cL_law 1597 = .ok (.aload_n 2, 1) := by decide +kernel
theorem dL_law_1598 : decode cL_law 1598 = .ok (.aload_n 0, 1) := by decide +kernel
theorem dL_law_1599 : decode cL_law 1599 = .ok (.iload_n 3, 1) := by decide +kernel
theorem dL_law_1600 : decode cL_law 1600 = .ok (.iconst 1, 1) := by decide +kernel
theorem dL_law_1601 : decode cL_law 1601 = .ok (.iadd, 1) := by decide +kernel
theorem dL_law_1602 : decode cL_law 1602 = .ok (.iaload, 1) := by decide +kernel
theorem dL_law_1603 : decode cL_law 1603 = .ok (.invokevirtual 221, 3) := by decide +kernel
theorem dL_law_1606 : decode cL_law 1606 = .ok (.if_icmp .eq 904, 3) := by decide +kernel
theorem dL_law_1609 : decode cL_law 1609 = .ok (.iconst 0, 1) := by decide +kernel
theorem dL_law_1610 : decode cL_law 1610 = .ok (.ireturn, 1) := by decide +kernel
theorem dL_law_1611 : decode cL_law 1611 = .ok (.aload_n 1, 1) := by decide +kernel
theorem dL_law_1612 : decode cL_law 1612 = .ok (.invokevirtual 222, 3) := by decide +kernel
theorem dL_law_1615 : decode cL_law 1615 = .ok (.aload_n 2, 1) := by decide +kernel
theorem dL_law_1616 : decode cL_law 1616 = .ok (.invokevirtual 225, 3) := by decide +kernel
theorem dL_law_1619 : decode cL_law 1619 = .ok (.if_icmp .eq 891, 3) := by decide +kernel
theorem dL_law_1622 : decode cL_law 1622 = .ok (.iconst 0, 1) := by decide +kernel
theorem dL_law_1623 : decode cL_law 1623 = .ok (.ireturn, 1) := by decide +kernel
theorem dL_law_1624 : decode cL_law 1624 = .ok (.aload_n 1, 1) := by decide +kernel
theorem dL_law_1625 : decode cL_law 1625 = .ok (.invokevirtual 226, 3) := by decide +kernel
theorem dL_law_1628 : decode cL_law 1628 = .ok (.aload_n 2, 1) := by decide +kernel
theorem dL_law_1629 : decode cL_law 1629 = .ok (.invokevirtual 229, 3) := by decide +kernel
theorem dL_law_1632 : decode cL_law 1632 = .ok (.if_icmp .eq 878, 3) := by decide +kernel
theorem dL_law_1635 : decode cL_law 1635 = .ok (.iconst 0, 1) := by decide +kernel
theorem dL_law_1636 : decode cL_law 1636 = .ok (.ireturn, 1) := by decide +kernel
theorem dL_law_1637 : decode cL_law 1637 = .ok (.aload_n 1, 1) := by decide +kernel
theorem dL_law_1638 : decode cL_law 1638 = .ok (.invokevirtual 230, 3) := by decide +kernel
theorem dL_law_1641 : decode cL_law 1641 = .ok (.aload_n 2, 1) := by decide +kernel
theorem dL_law_1642 : decode cL_law 1642 = .ok (.invokevirtual 233, 3) := by decide +kernel
theorem dL_law_1645 : decode cL_law 1645 = .ok (.if_icmp .eq 865, 3) := by decide +kernel
theorem dL_law_1648 : decode cL_law 1648 = .ok (.iconst 0, 1) := by decide +kernel
theorem dL_law_1649 : decode cL_law 1649 = .ok (.ireturn, 1) := by decide +kernel
theorem dL_law_1650 : decode cL_law 1650 = .ok (.aload_n 1, 1) := by decide +kernel
theorem dL_law_1651 : decode cL_law 1651 = .ok (.aload_n 0, 1) := by decide +kernel
theorem dL_law_1652 : decode cL_law 1652 = .ok (.iload_n 3, 1) := by decide +kernel
theorem dL_law_1653 : decode cL_law 1653 = .ok (.iconst 1, 1) := by decide +kernel
theorem dL_law_1654 : decode cL_law 1654 = .ok (.iadd, 1) := by decide +kernel
theorem dL_law_1655 : decode cL_law 1655 = .ok (.iaload, 1) := by decide +kernel
theorem dL_law_1656 : decode cL_law 1656 = .ok (.invokevirtual 234, 3) := by decide +kernel
theorem dL_law_1659 : decode cL_law 1659 = .ok (.aload_n 2, 1) := by decide +kernel
theorem dL_law_1660 : decode cL_law 1660 = .ok (.aload_n 0, 1) := by decide +kernel
theorem dL_law_1661 : decode cL_law 1661 = .ok (.iload_n 3, 1) := by decide +kernel
theorem dL_law_1662 : decode cL_law 1662 = .ok (.iconst 1, 1) := by decide +kernel
theorem dL_law_1663 : decode cL_law 1663 = .ok (.iadd, 1) := by decide +kernel
theorem dL_law_1664 : decode cL_law 1664 = .ok (.iaload, 1) := by decide +kernel
theorem dL_law_1665 : decode cL_law 1665 = .ok (.invokevirtual 237, 3) := by decide +kernel
theorem dL_law_1668 : decode cL_law 1668 = .ok (.if_icmp .eq 842, 3) := by decide +kernel
theorem dL_law_1671 : decode cL_law 1671 = .ok (.iconst 0, 1) := by decide +kernel
theorem dL_law_1672 : decode cL_law 1672 = .ok (.ireturn, 1) := by decide +kernel
theorem dL_law_1673 : decode cL_law 1673 = .ok (.aload_n 1, 1) := by decide +kernel
theorem dL_law_1674 : decode cL_law 1674 = .ok (.aload_n 0, 1) := by decide +kernel
theorem dL_law_1675 : decode cL_law 1675 = .ok (.iload_n 3, 1) := by decide +kernel
theorem dL_law_1676 : decode cL_law 1676 = .ok (.iconst 1, 1) := by decide +kernel
theorem dL_law_1677 : decode cL_law 1677 = .ok (.iadd, 1) := by decide +kernel
theorem dL_law_1678 : decode cL_law 1678 = .ok (.iaload, 1) := by decide +kernel
theorem dL_law_1679 : decode cL_law 1679 = .ok (.invokevirtual 238, 3) := by decide +kernel
theorem dL_law_1682 : decode cL_law 1682 = .ok (.aload_n 2, 1) := by decide +kernel
theorem dL_law_1683 : decode cL_law 1683 = .ok (.aload_n 0, 1) := by decide +kernel
theorem dL_law_1684 : decode cL_law 1684 = .ok (.iload_n 3, 1) := by decide +kernel
theorem dL_law_1685 : decode cL_law 1685 = .ok (.iconst 1, 1) := by decide +kernel
theorem dL_law_1686 : decode cL_law 1686 = .ok (.iadd, 1) := by decide +kernel
theorem dL_law_1687 : decode cL_law 1687 = .ok (.iaload, 1) := by decide +kernel
theorem dL_law_1688 : decode cL_law 1688 = .ok (.invokevirtual 241, 3) := by decide +kernel
theorem dL_law_1691 : decode cL_law 1691 = .ok (.if_icmp .eq 819, 3) := by decide +kernel
theorem dL_law_1694 : decode cL_law 1694 = .ok (.iconst 0, 1) := by decide +kernel
theorem dL_law_1695 : decode cL_law 1695 = .ok (.ireturn, 1) := by decide +kernel
theorem dL_law_1696 : decode cL_law 1696 = .ok (.aload_n 1, 1) := by decide +kernel
theorem dL_law_1697 : decode cL_law 1697 = .ok (.aload_n 0, 1) := by decide +kernel
theorem dL_law_1698 : decode cL_law 1698 = .ok (.iload_n 3, 1) := by decide +kernel
theorem dL_law_1699 : decode cL_law 1699 = .ok (.iconst 1, 1) := by decide +kernel
theorem dL_law_1700 : decode cL_law 1700 = .ok (.iadd, 1) := by decide +kernel
theorem dL_law_1701 : decode cL_law 1701 = .ok (.iaload, 1) := by decide +kernel
theorem dL_law_1702 : decode cL_law 1702 = .ok (.invokevirtual 242, 3) := by decide +kernel
theorem dL_law_1705 : decode cL_law 1705 = .ok (.aload_n 2, 1) := by decide +kernel
theorem dL_law_1706 : decode cL_law 1706 = .ok (.aload_n 0, 1) := by decide +kernel
theorem dL_law_1707 : decode cL_law 1707 = .ok (.iload_n 3, 1) := by decide +kernel
theorem dL_law_1708 : decode cL_law 1708 = .ok (.iconst 1, 1) := by decide +kernel
theorem dL_law_1709 : decode cL_law 1709 = .ok (.iadd, 1) := by decide +kernel
theorem dL_law_1710 : decode cL_law 1710 = .ok (.iaload, 1) := by decide +kernel
theorem dL_law_1711 : decode cL_law 1711 = .ok (.invokevirtual 245, 3) := by decide +kernel
theorem dL_law_1714 : decode cL_law 1714 = .ok (.if_icmp .eq 796, 3) := by decide +kernel
theorem dL_law_1717 : decode cL_law 1717 = .ok (.iconst 0, 1) := by decide +kernel
theorem dL_law_1718 : decode cL_law 1718 = .ok (.ireturn, 1) := by decide +kernel
theorem dL_law_1719 : decode cL_law 1719 = .ok (.aload_n 1, 1) := by decide +kernel
theorem dL_law_1720 : decode cL_law 1720 = .ok (.aload_n 0, 1) := by decide +kernel
theorem dL_law_1721 : decode cL_law 1721 = .ok (.iload_n 3, 1) := by decide +kernel
theorem dL_law_1722 : decode cL_law 1722 = .ok (.iconst 1, 1) := by decide +kernel
theorem dL_law_1723 : decode cL_law 1723 = .ok (.iadd, 1) := by decide +kernel
theorem dL_law_1724 : decode cL_law 1724 = .ok (.iaload, 1) := by decide +kernel
theorem dL_law_1725 : decode cL_law 1725 = .ok (.invokevirtual 246, 3) := by decide +kernel
theorem dL_law_1728 : decode cL_law 1728 = .ok (.aload_n 2, 1) := by decide +kernel
theorem dL_law_1729 : decode cL_law 1729 = .ok (.aload_n 0, 1) := by decide +kernel
theorem dL_law_1730 : decode cL_law 1730 = .ok (.iload_n 3, 1) := by decide +kernel
theorem dL_law_1731 : decode cL_law 1731 = .ok (.iconst 1, 1) := by decide +kernel
theorem dL_law_1732 : decode cL_law 1732 = .ok (.iadd, 1) := by decide +kernel
theorem dL_law_1733 : decode cL_law 1733 = .ok (.iaload, 1) := by decide +kernel
theorem dL_law_1734 : decode cL_law 1734 = .ok (.invokevirtual 249, 3) := by decide +kernel
theorem dL_law_1737 : decode cL_law 1737 = .ok (.if_icmp .eq 773, 3) := by decide +kernel
theorem dL_law_1740 : decode cL_law 1740 = .ok (.iconst 0, 1) := by decide +kernel
theorem dL_law_1741 : decode cL_law 1741 = .ok (.ireturn, 1) := by decide +kernel
theorem dL_law_1742 : decode cL_law 1742 = .ok (.aload_n 1, 1) := by decide +kernel
theorem dL_law_1743 : decode cL_law 1743 = .ok (.aload_n 0, 1) := by decide +kernel
theorem dL_law_1744 : decode cL_law 1744 = .ok (.iload_n 3, 1) := by decide +kernel
theorem dL_law_1745 : decode cL_law 1745 = .ok (.iconst 1, 1) := by decide +kernel
theorem dL_law_1746 : decode cL_law 1746 = .ok (.iadd, 1) := by decide +kernel
theorem dL_law_1747 : decode cL_law 1747 = .ok (.iaload, 1) := by decide +kernel
theorem dL_law_1748 : decode cL_law 1748 = .ok (.invokevirtual 250, 3) := by decide +kernel
theorem dL_law_1751 : decode cL_law 1751 = .ok (.aload_n 2, 1) := by decide +kernel
theorem dL_law_1752 : decode cL_law 1752 = .ok (.aload_n 0, 1) := by decide +kernel
theorem dL_law_1753 : decode cL_law 1753 = .ok (.iload_n 3, 1) := by decide +kernel
theorem dL_law_1754 : decode cL_law 1754 = .ok (.iconst 1, 1) := by decide +kernel
theorem dL_law_1755 : decode cL_law 1755 = .ok (.iadd, 1) := by decide +kernel
theorem dL_law_1756 : decode cL_law 1756 = .ok (.iaload, 1) := by decide +kernel
theorem dL_law_1757 : decode cL_law 1757 = .ok (.invokevirtual 253, 3) := by decide +kernel
theorem dL_law_1760 : decode cL_law 1760 = .ok (.if_icmp .eq 750, 3) := by decide +kernel
theorem dL_law_1763 : decode cL_law 1763 = .ok (.iconst 0, 1) := by decide +kernel
theorem dL_law_1764 : decode cL_law 1764 = .ok (.ireturn, 1) := by decide +kernel
theorem dL_law_1765 : decode cL_law 1765 = .ok (.aload_n 1, 1) := by decide +kernel
theorem dL_law_1766 : decode cL_law 1766 = .ok (.aload_n 0, 1) := by decide +kernel
theorem dL_law_1767 : decode cL_law 1767 = .ok (.iload_n 3, 1) := by decide +kernel
theorem dL_law_1768 : decode cL_law 1768 = .ok (.iconst 1, 1) := by decide +kernel
theorem dL_law_1769 : decode cL_law 1769 = .ok (.iadd, 1) := by decide +kernel
theorem dL_law_1770 : decode cL_law 1770 = .ok (.iaload, 1) := by decide +kernel
theorem dL_law_1771 : decode cL_law 1771 = .ok (.invokevirtual 254, 3) := by decide +kernel
theorem dL_law_1774 : decode cL_law 1774 = .ok (.aload_n 2, 1) := by decide +kernel
theorem dL_law_1775 : decode cL_law 1775 = .ok (.aload_n 0, 1) := by decide +kernel
theorem dL_law_1776 : decode cL_law 1776 = .ok (.iload_n 3, 1) := by decide +kernel
theorem dL_law_1777 : decode cL_law 1777 = .ok (.iconst 1, 1) := by decide +kernel
theorem dL_law_1778 : decode cL_law 1778 = .ok (.iadd, 1) := by decide +kernel
theorem dL_law_1779 : decode cL_law 1779 = .ok (.iaload, 1) := by decide +kernel
theorem dL_law_1780 : decode cL_law 1780 = .ok (.invokevirtual 257, 3) := by decide +kernel
theorem dL_law_1783 : decode cL_law 1783 = .ok (.if_icmp .eq 727, 3) := by decide +kernel
theorem dL_law_1786 : decode cL_law 1786 = .ok (.iconst 0, 1) := by decide +kernel
theorem dL_law_1787 : decode cL_law 1787 = .ok (.ireturn, 1) := by decide +kernel
theorem dL_law_1788 : decode cL_law 1788 = .ok (.aload_n 1, 1) := by decide +kernel
theorem dL_law_1789 : decode cL_law 1789 = .ok (.aload_n 0, 1) := by decide +kernel
theorem dL_law_1790 : decode cL_law 1790 = .ok (.iload_n 3, 1) := by decide +kernel
theorem dL_law_1791 : decode cL_law 1791 = .ok (.iconst 1, 1) := by decide +kernel
theorem dL_law_1792 : decode cL_law 1792 = .ok (.iadd, 1) := by decide +kernel
theorem dL_law_1793 : decode cL_law 1793 = .ok (.iaload, 1) := by decide +kernel
theorem dL_law_1794 : decode cL_law 1794 = .ok (.invokevirtual 258, 3) := by decide +kernel
theorem dL_law_1797 : decode cL_law 1797 = .ok (.aload_n 2, 1) := by decide +kernel
theorem dL_law_1798 : decode cL_law 1798 = .ok (.aload_n 0, 1) := by decide +kernel
theorem dL_law_1799 : decode cL_law 1799 = .ok (.iload_n 3, 1) := by decide +kernel
theorem dL_law_1800 : decode cL_law 1800 = .ok (.iconst 1, 1) := by decide +kernel
theorem dL_law_1801 : decode cL_law 1801 = .ok (.iadd, 1) := by decide +kernel
theorem dL_law_1802 : decode cL_law 1802 = .ok (.iaload, 1) := by decide +kernel
theorem dL_law_1803 : decode cL_law 1803 = .ok (.invokevirtual 261, 3) := by decide +kernel
theorem dL_law_1806 : decode cL_law 1806 = .ok (.if_icmp .eq 704, 3) := by decide +kernel
theorem dL_law_1809 : decode cL_law 1809 = .ok (.iconst 0, 1) := by decide +kernel
theorem dL_law_1810 : decode cL_law 1810 = .ok (.ireturn, 1) := by decide +kernel
theorem dL_law_1811 : decode cL_law 1811 = .ok (.aload_n 1, 1) := by decide +kernel
theorem dL_law_1812 : decode cL_law 1812 = .ok (.aload_n 0, 1) := by decide +kernel
theorem dL_law_1813 : decode cL_law 1813 = .ok (.iload_n 3, 1) := by decide +kernel
theorem dL_law_1814 : decode cL_law 1814 = .ok (.iconst 1, 1) := by decide +kernel
theorem dL_law_1815 : decode cL_law 1815 = .ok (.iadd, 1) := by decide +kernel
theorem dL_law_1816 : decode cL_law 1816 = .ok (.iaload, 1) := by decide +kernel
theorem dL_law_1817 : decode cL_law 1817 = .ok (.invokevirtual 262, 3) := by decide +kernel
theorem dL_law_1820 : decode cL_law 1820 = .ok (.aload_n 2, 1) := by decide +kernel
theorem dL_law_1821 : decode cL_law 1821 = .ok (.aload_n 0, 1) := by decide +kernel
theorem dL_law_1822 : decode cL_law 1822 = .ok (.iload_n 3, 1) := by decide +kernel
theorem dL_law_1823 : decode cL_law 1823 = .ok (.iconst 1, 1) := by decide +kernel
theorem dL_law_1824 : decode cL_law 1824 = .ok (.iadd, 1) := by decide +kernel
theorem dL_law_1825 : decode cL_law 1825 = .ok (.iaload, 1) := by decide +kernel
theorem dL_law_1826 : decode cL_law 1826 = .ok (.invokevirtual 265, 3) := by decide +kernel
theorem dL_law_1829 : decode cL_law 1829 = .ok (.if_icmp .eq 681, 3) := by decide +kernel
theorem dL_law_1832 : decode cL_law 1832 = .ok (.iconst 0, 1) := by decide +kernel
theorem dL_law_1833 : decode cL_law 1833 = .ok (.ireturn, 1) := by decide +kernel
theorem dL_law_1834 : decode cL_law 1834 = .ok (.aload_n 1, 1) := by decide +kernel
theorem dL_law_1835 : decode cL_law 1835 = .ok (.aload_n 0, 1) := by decide +kernel
theorem dL_law_1836 : decode cL_law 1836 = .ok (.iload_n 3, 1) := by decide +kernel
theorem dL_law_1837 : decode cL_law 1837 = .ok (.iconst 1, 1) := by decide +kernel
theorem dL_law_1838 : decode cL_law 1838 = .ok (.iadd, 1) := by decide +kernel
theorem dL_law_1839 : decode cL_law 1839 = .ok (.iaload, 1) := by decide +kernel
theorem dL_law_1840 : decode cL_law 1840 = .ok (.aload_n 0, 1) := by decide +kernel
theorem dL_law_1841 : decode cL_law 1841 = .ok (.iload_n 3, 1) := by decide +kernel
theorem dL_law_1842 : decode cL_law 1842 = .ok (.iconst 2, 1) := by decide +kernel
theorem dL_law_1843 : decode cL_law 1843 = .ok (.iadd, 1) := by decide +kernel
theorem dL_law_1844 : decode cL_law 1844 = .ok (.iaload, 1) := by decide +kernel
theorem dL_law_1845 : decode cL_law 1845 = .ok (.invokevirtual 266, 3) := by decide +kernel
theorem dL_law_1848 : decode cL_law 1848 = .ok (.aload_n 2, 1) := by decide +kernel
theorem dL_law_1849 : decode cL_law 1849 = .ok (.aload_n 0, 1) := by decide +kernel
theorem dL_law_1850 : decode cL_law 1850 = .ok (.iload_n 3, 1) := by decide +kernel
theorem dL_law_1851 : decode cL_law 1851 = .ok (.iconst 1, 1) := by decide +kernel
theorem dL_law_1852 : decode cL_law 1852 = .ok (.iadd, 1) := by decide +kernel
theorem dL_law_1853 : decode cL_law 1853 = .ok (.iaload, 1) := by decide +kernel
theorem dL_law_1854 : decode cL_law 1854 = .ok (.aload_n 0, 1) := by decide +kernel
theorem dL_law_1855 : decode cL_law 1855 = .ok (.iload_n 3, 1) := by decide +kernel
theorem dL_law_1856 : decode cL_law 1856 = .ok (.iconst 2, 1) := by decide +kernel
theorem dL_law_1857 : decode cL_law 1857 = .ok (.iadd, 1) := by decide +kernel
theorem dL_law_1858 : decode cL_law 1858 = .ok (.iaload, 1) := by decide +kernel
theorem dL_law_1859 : decode cL_law 1859 = .ok (.invokevirtual 269, 3) := by decide +kernel
theorem dL_law_1862 : decode cL_law 1862 = .ok (.if_icmp .eq 648, 3) := by decide +kernel
theorem dL_law_1865 : decode cL_law 1865 = .ok (.iconst 0, 1) := by decide +kernel
theorem dL_law_1866 : decode cL_law 1866 = .ok (.ireturn, 1) := by decide +kernel
theorem dL_law_1867 : decode cL_law 1867 = .ok (.aload_n 1, 1) := by decide +kernel
theorem dL_law_1868 : decode cL_law 1868 = .ok (.aload_n 0, 1) := by decide +kernel
theorem dL_law_1869 : decode cL_law 1869 = .ok (.iload_n 3, 1) := by decide +kernel
theorem dL_law_1870 : decode cL_law 1870 = .ok (.iconst 1, 1) := by decide +kernel
theorem dL_law_1871 : decode cL_law 1871 = .ok (.iadd, 1) := by decide +kernel
theorem dL_law_1872 : decode cL_law 1872 = .ok (.iaload, 1) := by decide +kernel
theorem dL_law_1873 : decode cL_law 1873 = .ok (.aload_n 0, 1) := by decide +kernel
theorem dL_law_1874 : decode cL_law 1874 = .ok (.iload_n 3, 1) := by decide +kernel
theorem dL_law_1875 : decode cL_law 1875 = .ok (.iconst 2, 1) := by decide +kernel
theorem dL_law_1876 : decode cL_law 1876 = .ok (.iadd, 1) := by decide +kernel
theorem dL_law_1877 : decode cL_law 1877 = .ok (.iaload, 1) := by decide +kernel
theorem dL_law_1878 : decode cL_law 1878 = .ok (.invokevirtual 270, 3) := by decide +kernel
theorem dL_law_1881 : decode cL_law 1881 = .ok (.aload_n 2, 1) := by decide +kernel
theorem dL_law_1882 : decode cL_law 1882 = .ok (.aload_n 0, 1) := by decide +kernel
theorem dL_law_1883 : decode cL_law 1883 = .ok (.iload_n 3, 1) := by decide +kernel
theorem dL_law_1884 : decode cL_law 1884 = .ok (.iconst 1, 1) := by decide +kernel
theorem dL_law_1885 : decode cL_law 1885 = .ok (.iadd, 1) := by decide +kernel
theorem dL_law_1886 : decode cL_law 1886 = .ok (.iaload, 1) := by decide +kernel
theorem dL_law_1887 : decode cL_law 1887 = .ok (.aload_n 0, 1) := by decide +kernel
theorem dL_law_1888 : decode cL_law 1888 = .ok (.iload_n 3, 1) := by decide +kernel
theorem dL_law_1889 : decode cL_law 1889 = .ok (.iconst 2, 1) := by decide +kernel
theorem dL_law_1890 : decode cL_law 1890 = .ok (.iadd, 1) := by decide +kernel
theorem dL_law_1891 : decode cL_law 1891 = .ok (.iaload, 1) := by decide +kernel
theorem dL_law_1892 : decode cL_law 1892 = .ok (.invokevirtual 273, 3) := by decide +kernel
theorem dL_law_1895 : decode cL_law 1895 = .ok (.if_icmp .eq 615, 3) := by decide +kernel
theorem dL_law_1898 : decode cL_law 1898 = .ok (.iconst 0, 1) := by decide +kernel
theorem dL_law_1899 : decode cL_law 1899 = .ok (.ireturn, 1) := by decide +kernel
theorem dL_law_1900 : decode cL_law 1900 = .ok (.aload_n 1, 1) := by decide +kernel
theorem dL_law_1901 : decode cL_law 1901 = .ok (.aload_n 0, 1) := by decide +kernel
theorem dL_law_1902 : decode cL_law 1902 = .ok (.iload_n 3, 1) := by decide +kernel
theorem dL_law_1903 : decode cL_law 1903 = .ok (.iconst 1, 1) := by decide +kernel
theorem dL_law_1904 : decode cL_law 1904 = .ok (.iadd, 1) := by decide +kernel
theorem dL_law_1905 : decode cL_law 1905 = .ok (.iaload, 1) := by decide +kernel
theorem dL_law_1906 : decode cL_law 1906 = .ok (.aload_n 0, 1) := by decide +kernel
theorem dL_law_1907 : decode cL_law 1907 = .ok (.iload_n 3, 1) := by decide +kernel
theorem dL_law_1908 : decode cL_law 1908 = .ok (.iconst 2, 1) := by decide +kernel
theorem dL_law_1909 : decode cL_law 1909 = .ok (.iadd, 1) := by decide +kernel
theorem dL_law_1910 : decode cL_law 1910 = .ok (.iaload, 1) := by decide +kernel
theorem dL_law_1911 : decode cL_law 1911 = .ok (.aload_n 0, 1) := by decide +kernel
theorem dL_law_1912 : decode cL_law 1912 = .ok (.iload_n 3, 1) := by decide +kernel
theorem dL_law_1913 : decode cL_law 1913 = .ok (.iconst 3, 1) := by decide +kernel
theorem dL_law_1914 : decode cL_law 1914 = .ok (.iadd, 1) := by decide +kernel
theorem dL_law_1915 : decode cL_law 1915 = .ok (.iaload, 1) := by decide +kernel
theorem dL_law_1916 : decode cL_law 1916 = .ok (.aload_n 0, 1) := by decide +kernel
theorem dL_law_1917 : decode cL_law 1917 = .ok (.iload_n 3, 1) := by decide +kernel
theorem dL_law_1918 : decode cL_law 1918 = .ok (.iconst 4, 1) := by decide +kernel
theorem dL_law_1919 : decode cL_law 1919 = .ok (.iadd, 1) := by decide +kernel
theorem dL_law_1920 : decode cL_law 1920 = .ok (.iaload, 1) := by decide +kernel
theorem dL_law_1921 : decode cL_law 1921 = .ok (.invokevirtual 274, 3) := by decide +kernel
theorem dL_law_1924 : decode cL_law 1924 = .ok (.aload_n 2, 1) := by decide +kernel
theorem dL_law_1925 : decode cL_law 1925 = .ok (.aload_n 0, 1) := by decide +kernel
theorem dL_law_1926 : decode cL_law 1926 = .ok (.iload_n 3, 1) := by decide +kernel
theorem dL_law_1927 : decode cL_law 1927 = .ok (.iconst 1, 1) := by decide +kernel
theorem dL_law_1928 : decode cL_law 1928 = .ok (.iadd, 1) := by decide +kernel
theorem dL_law_1929 : decode cL_law 1929 = .ok (.iaload, 1) := by decide +kernel
theorem dL_law_1930 : decode cL_law 1930 = .ok (.aload_n 0, 1) := by decide +kernel
theorem dL_law_1931 : decode cL_law 1931 = .ok (.iload_n 3, 1) := by decide +kernel
theorem dL_law_1932 : decode cL_law 1932 = .ok (.iconst 2, 1) := by decide +kernel
theorem dL_law_1933 : decode cL_law 1933 = .ok (.iadd, 1) := by decide +kernel
theorem dL_law_1934 : decode cL_law 1934 = .ok (.iaload, 1) := by decide +kernel
theorem dL_law_1935 : decode cL_law 1935 = .ok (.aload_n 0, 1) := by decide +kernel
theorem dL_law_1936 : decode cL_law 1936 = .ok (.iload_n 3, 1) := by decide +kernel
theorem dL_law_1937 : decode cL_law 1937 = .ok (.iconst 3, 1) := by decide +kernel
theorem dL_law_1938 : decode cL_law 1938 = .ok (.iadd, 1) := by decide +kernel
theorem dL_law_1939 : decode cL_law 1939 = .ok (.iaload, 1) := by decide +kernel
theorem dL_law_1940 : decode cL_law 1940 = .ok (.aload_n 0, 1) := by decide +kernel
theorem dL_law_1941 : decode cL_law 1941 = .ok (.iload_n 3, 1) := by decide +kernel
theorem dL_law_1942 : decode cL_law 1942 = .ok (.iconst 4, 1) := by decide +kernel
theorem dL_law_1943 : decode cL_law 1943 = .ok (.iadd, 1) := by decide +kernel
theorem dL_law_1944 : decode cL_law 1944 = .ok (.iaload, 1) := by decide +kernel
theorem dL_law_1945 : decode cL_law 1945 = .ok (.invokevirtual 278, 3) := by decide +kernel
theorem dL_law_1948 : decode cL_law 1948 = .ok (.if_icmp .eq 562, 3) := by decide +kernel
theorem dL_law_1951 : decode cL_law 1951 = .ok (.iconst 0, 1) := by decide +kernel
theorem dL_law_1952 : decode cL_law 1952 = .ok (.ireturn, 1) := by decide +kernel
theorem dL_law_1953 : decode cL_law 1953 = .ok (.aload_n 1, 1) := by decide +kernel
theorem dL_law_1954 : decode cL_law 1954 = .ok (.aload_n 0, 1) := by decide +kernel
theorem dL_law_1955 : decode cL_law 1955 = .ok (.iload_n 3, 1) := by decide +kernel
theorem dL_law_1956 : decode cL_law 1956 = .ok (.iconst 1, 1) := by decide +kernel
theorem dL_law_1957 : decode cL_law 1957 = .ok (.iadd, 1) := by decide +kernel
theorem dL_law_1958 : decode cL_law 1958 = .ok (.iaload, 1) := by decide +kernel
theorem dL_law_1959 : decode cL_law 1959 = .ok (.aload_n 0, 1) := by decide +kernel
theorem dL_law_1960 : decode cL_law 1960 = .ok (.iload_n 3, 1) := by decide +kernel
theorem dL_law_1961 : decode cL_law 1961 = .ok (.iconst 2, 1) := by decide +kernel
theorem dL_law_1962 : decode cL_law 1962 = .ok (.iadd, 1) := by decide +kernel
theorem dL_law_1963 : decode cL_law 1963 = .ok (.iaload, 1) := by decide +kernel
theorem dL_law_1964 : decode cL_law 1964 = .ok (.aload_n 0, 1) := by decide +kernel
theorem dL_law_1965 : decode cL_law 1965 = .ok (.iload_n 3, 1) := by decide +kernel
theorem dL_law_1966 : decode cL_law 1966 = .ok (.iconst 3, 1) := by decide +kernel
theorem dL_law_1967 : decode cL_law 1967 = .ok (.iadd, 1) := by decide +kernel
theorem dL_law_1968 : decode cL_law 1968 = .ok (.iaload, 1) := by decide +kernel
theorem dL_law_1969 : decode cL_law 1969 = .ok (.aload_n 0, 1) := by decide +kernel
theorem dL_law_1970 : decode cL_law 1970 = .ok (.iload_n 3, 1) := by decide +kernel
theorem dL_law_1971 : decode cL_law 1971 = .ok (.iconst 4, 1) := by decide +kernel
theorem dL_law_1972 : decode cL_law 1972 = .ok (.iadd, 1) := by decide +kernel
theorem dL_law_1973 : decode cL_law 1973 = .ok (.iaload, 1) := by decide +kernel
theorem dL_law_1974 : decode cL_law 1974 = .ok (.invokevirtual 279, 3) := by decide +kernel
theorem dL_law_1977 : decode cL_law 1977 = .ok (.aload_n 2, 1) := by decide +kernel
theorem dL_law_1978 : decode cL_law 1978 = .ok (.aload_n 0, 1) := by decide +kernel
theorem dL_law_1979 : decode cL_law 1979 = .ok (.iload_n 3, 1) := by decide +kernel
theorem dL_law_1980 : decode cL_law 1980 = .ok (.iconst 1, 1) := by decide +kernel
theorem dL_law_1981 : decode cL_law 1981 = .ok (.iadd, 1) := by decide +kernel
theorem dL_law_1982 : decode cL_law 1982 = .ok (.iaload, 1) := by decide +kernel
theorem dL_law_1983 : decode cL_law 1983 = .ok (.aload_n 0, 1) := by decide +kernel
theorem dL_law_1984 : decode cL_law 1984 = .ok (.iload_n 3, 1) := by decide +kernel
theorem dL_law_1985 : decode cL_law 1985 = .ok (.iconst 2, 1) := by decide +kernel
theorem dL_law_1986 : decode cL_law 1986 = .ok (.iadd, 1) := by decide +kernel
theorem dL_law_1987 : decode cL_law 1987 = .ok (.iaload, 1) := by decide +kernel
theorem dL_law_1988 : decode cL_law 1988 = .ok (.aload_n 0, 1) := by decide +kernel
theorem dL_law_1989 : decode cL_law 1989 = .ok (.iload_n 3, 1) := by decide +kernel
theorem dL_law_1990 : decode cL_law 1990 = .ok (.iconst 3, 1) := by decide +kernel
theorem dL_law_1991 : decode cL_law 1991 = .ok (.iadd, 1) := by decide +kernel
theorem dL_law_1992 : decode cL_law 1992 = .ok (.iaload, 1) := by decide +kernel
theorem dL_law_1993 : decode cL_law 1993 = .ok (.aload_n 0, 1) := by decide +kernel
theorem dL_law_1994 : decode cL_law 1994 = .ok (.iload_n 3, 1) := by decide +kernel
theorem dL_law_1995 : decode cL_law 1995 = .ok (.iconst 4, 1) := by decide +kernel
theorem dL_law_1996 : decode cL_law 1996 = .ok (.iadd, 1) := by decide +kernel
theorem dL_law_1997 : decode cL_law 1997 = .ok (.iaload, 1) := by decide +kernel
theorem dL_law_1998 : decode cL_law 1998 = .ok (.invokevirtual 283, 3) := by decide +kernel
theorem dL_law_2001 : decode cL_law 2001 = .ok (.lcmp, 1) := by decide +kernel
theorem dL_law_2002 : decode cL_law 2002 = .ok (.ifCond .eq 508, 3) := by decide +kernel
theorem dL_law_2005 : decode cL_law 2005 = .ok (.iconst 0, 1) := by decide +kernel
theorem dL_law_2006 : decode cL_law 2006 = .ok (.ireturn, 1) := by decide +kernel
theorem dL_law_2007 : decode cL_law 2007 = .ok (.aload_n 1, 1) := by decide +kernel
theorem dL_law_2008 : decode cL_law 2008 = .ok (.aload_n 0, 1) := by decide +kernel
theorem dL_law_2009 : decode cL_law 2009 = .ok (.iload_n 3, 1) := by decide +kernel
theorem dL_law_2010 : decode cL_law 2010 = .ok (.iconst 1, 1) := by decide +kernel
theorem dL_law_2011 : decode cL_law 2011 = .ok (.iadd, 1) := by decide +kernel
theorem dL_law_2012 : decode cL_law 2012 = .ok (.iaload, 1) := by decide +kernel
theorem dL_law_2013 : decode cL_law 2013 = .ok (.aload_n 0, 1) := by decide +kernel
theorem dL_law_2014 : decode cL_law 2014 = .ok (.iload_n 3, 1) := by decide +kernel
theorem dL_law_2015 : decode cL_law 2015 = .ok (.iconst 2, 1) := by decide +kernel
theorem dL_law_2016 : decode cL_law 2016 = .ok (.iadd, 1) := by decide +kernel
theorem dL_law_2017 : decode cL_law 2017 = .ok (.iaload, 1) := by decide +kernel
theorem dL_law_2018 : decode cL_law 2018 = .ok (.aload_n 0, 1) := by decide +kernel
theorem dL_law_2019 : decode cL_law 2019 = .ok (.iload_n 3, 1) := by decide +kernel
theorem dL_law_2020 : decode cL_law 2020 = .ok (.iconst 3, 1) := by decide +kernel
theorem dL_law_2021 : decode cL_law 2021 = .ok (.iadd, 1) := by decide +kernel
theorem dL_law_2022 : decode cL_law 2022 = .ok (.iaload, 1) := by decide +kernel
theorem dL_law_2023 : decode cL_law 2023 = .ok (.invokevirtual 284, 3) := by decide +kernel
theorem dL_law_2026 : decode cL_law 2026 = .ok (.aload_n 2, 1) := by decide +kernel
theorem dL_law_2027 : decode cL_law 2027 = .ok (.aload_n 0, 1) := by decide +kernel
theorem dL_law_2028 : decode cL_law 2028 = .ok (.iload_n 3, 1) := by decide +kernel
theorem dL_law_2029 : decode cL_law 2029 = .ok (.iconst 1, 1) := by decide +kernel
theorem dL_law_2030 : decode cL_law 2030 = .ok (.iadd, 1) := by decide +kernel
theorem dL_law_2031 : decode cL_law 2031 = .ok (.iaload, 1) := by decide +kernel
theorem dL_law_2032 : decode cL_law 2032 = .ok (.aload_n 0, 1) := by decide +kernel
theorem dL_law_2033 : decode cL_law 2033 = .ok (.iload_n 3, 1) := by decide +kernel
theorem dL_law_2034 : decode cL_law 2034 = .ok (.iconst 2, 1) := by decide +kernel
theorem dL_law_2035 : decode cL_law 2035 = .ok (.iadd, 1) := by decide +kernel
theorem dL_law_2036 : decode cL_law 2036 = .ok (.iaload, 1) := by decide +kernel
theorem dL_law_2037 : decode cL_law 2037 = .ok (.aload_n 0, 1) := by decide +kernel
theorem dL_law_2038 : decode cL_law 2038 = .ok (.iload_n 3, 1) := by decide +kernel
theorem dL_law_2039 : decode cL_law 2039 = .ok (.iconst 3, 1) := by decide +kernel
theorem dL_law_2040 : decode cL_law 2040 = .ok (.iadd, 1) := by decide +kernel
theorem dL_law_2041 : decode cL_law 2041 = .ok (.iaload, 1) := by decide +kernel
theorem dL_law_2042 : decode cL_law 2042 = .ok (.invokevirtual 288, 3) := by decide +kernel
theorem dL_law_2045 : decode cL_law 2045 = .ok (.lcmp, 1) := by decide +kernel
theorem dL_law_2046 : decode cL_law 2046 = .ok (.ifCond .eq 464, 3) := by decide +kernel
theorem dL_law_2049 : decode cL_law 2049 = .ok (.iconst 0, 1) := by decide +kernel
theorem dL_law_2050 : decode cL_law 2050 = .ok (.ireturn, 1) := by decide +kernel
theorem dL_law_2051 : decode cL_law 2051 = .ok (.aload_n 1, 1) := by decide +kernel
theorem dL_law_2052 : decode cL_law 2052 = .ok (.aload_n 0, 1) := by decide +kernel
theorem dL_law_2053 : decode cL_law 2053 = .ok (.iload_n 3, 1) := by decide +kernel
theorem dL_law_2054 : decode cL_law 2054 = .ok (.iconst 1, 1) := by decide +kernel
theorem dL_law_2055 : decode cL_law 2055 = .ok (.iadd, 1) := by decide +kernel
theorem dL_law_2056 : decode cL_law 2056 = .ok (.iaload, 1) := by decide +kernel
theorem dL_law_2057 : decode cL_law 2057 = .ok (.aload_n 0, 1) := by decide +kernel
theorem dL_law_2058 : decode cL_law 2058 = .ok (.iload_n 3, 1) := by decide +kernel
theorem dL_law_2059 : decode cL_law 2059 = .ok (.iconst 2, 1) := by decide +kernel
theorem dL_law_2060 : decode cL_law 2060 = .ok (.iadd, 1) := by decide +kernel
theorem dL_law_2061 : decode cL_law 2061 = .ok (.iaload, 1) := by decide +kernel
theorem dL_law_2062 : decode cL_law 2062 = .ok (.invokevirtual 289, 3) := by decide +kernel
theorem dL_law_2065 : decode cL_law 2065 = .ok (.aload_n 2, 1) := by decide +kernel
theorem dL_law_2066 : decode cL_law 2066 = .ok (.aload_n 0, 1) := by decide +kernel
theorem dL_law_2067 : decode cL_law 2067 = .ok (.iload_n 3, 1) := by decide +kernel
theorem dL_law_2068 : decode cL_law 2068 = .ok (.iconst 1, 1) := by decide +kernel
theorem dL_law_2069 : decode cL_law 2069 = .ok (.iadd, 1) := by decide +kernel
theorem dL_law_2070 : decode cL_law 2070 = .ok (.iaload, 1) := by decide +kernel
theorem dL_law_2071 : decode cL_law 2071 = .ok (.aload_n 0, 1) := by decide +kernel
theorem dL_law_2072 : decode cL_law 2072 = .ok (.iload_n 3, 1) := by decide +kernel
theorem dL_law_2073 : decode cL_law 2073 = .ok (.iconst 2, 1) := by decide +kernel
theorem dL_law_2074 : decode cL_law 2074 = .ok (.iadd, 1) := by decide +kernel
theorem dL_law_2075 : decode cL_law 2075 = .ok (.iaload, 1) := by decide +kernel
theorem dL_law_2076 : decode cL_law 2076 = .ok (.invokevirtual 292, 3) := by decide +kernel
theorem dL_law_2079 : decode cL_law 2079 = .ok (.if_icmp .eq 431, 3) := by decide +kernel
theorem dL_law_2082 : decode cL_law 2082 = .ok (.iconst 0, 1) := by decide +kernel
theorem dL_law_2083 : decode cL_law 2083 = .ok (.ireturn, 1) := by decide +kernel
theorem dL_law_2084 : decode cL_law 2084 = .ok (.aload_n 1, 1) := by decide +kernel
theorem dL_law_2085 : decode cL_law 2085 = .ok (.aload_n 0, 1) := by decide +kernel
theorem dL_law_2086 : decode cL_law 2086 = .ok (.iload_n 3, 1) := by decide +kernel
theorem dL_law_2087 : decode cL_law 2087 = .ok (.iconst 1, 1) := by decide +kernel
theorem dL_law_2088 : decode cL_law 2088 = .ok (.iadd, 1) := by decide +kernel
theorem dL_law_2089 : decode cL_law 2089 = .ok (.iaload, 1) := by decide +kernel
theorem dL_law_2090 : decode cL_law 2090 = .ok (.aload_n 0, 1) := by decide +kernel
theorem dL_law_2091 : decode cL_law 2091 = .ok (.iload_n 3, 1) := by decide +kernel
theorem dL_law_2092 : decode cL_law 2092 = .ok (.iconst 2, 1) := by decide +kernel
theorem dL_law_2093 : decode cL_law 2093 = .ok (.iadd, 1) := by decide +kernel
theorem dL_law_2094 : decode cL_law 2094 = .ok (.iaload, 1) := by decide +kernel
theorem dL_law_2095 : decode cL_law 2095 = .ok (.aload_n 0, 1) := by decide +kernel
theorem dL_law_2096 : decode cL_law 2096 = .ok (.iload_n 3, 1) := by decide +kernel
theorem dL_law_2097 : decode cL_law 2097 = .ok (.iconst 3, 1) := by decide +kernel
theorem dL_law_2098 : decode cL_law 2098 = .ok (.iadd, 1) := by decide +kernel
theorem dL_law_2099 : decode cL_law 2099 = .ok (.iaload, 1) := by decide +kernel
theorem dL_law_2100 : decode cL_law 2100 = .ok (.invokevirtual 293, 3) := by decide +kernel
theorem dL_law_2103 : decode cL_law 2103 = .ok (.aload_n 2, 1) := by decide +kernel
theorem dL_law_2104 : decode cL_law 2104 = .ok (.aload_n 0, 1) := by decide +kernel
theorem dL_law_2105 : decode cL_law 2105 = .ok (.iload_n 3, 1) := by decide +kernel
theorem dL_law_2106 : decode cL_law 2106 = .ok (.iconst 1, 1) := by decide +kernel
theorem dL_law_2107 : decode cL_law 2107 = .ok (.iadd, 1) := by decide +kernel
theorem dL_law_2108 : decode cL_law 2108 = .ok (.iaload, 1) := by decide +kernel
theorem dL_law_2109 : decode cL_law 2109 = .ok (.aload_n 0, 1) := by decide +kernel
theorem dL_law_2110 : decode cL_law 2110 = .ok (.iload_n 3, 1) := by decide +kernel
theorem dL_law_2111 : decode cL_law 2111 = .ok (.iconst 2, 1) := by decide +kernel
theorem dL_law_2112 : decode cL_law 2112 = .ok (.iadd, 1) := by decide +kernel
theorem dL_law_2113 : decode cL_law 2113 = .ok (.iaload, 1) := by decide +kernel
theorem dL_law_2114 : decode cL_law 2114 = .ok (.aload_n 0, 1) := by decide +kernel
theorem dL_law_2115 : decode cL_law 2115 = .ok (.iload_n 3, 1) := by decide +kernel
theorem dL_law_2116 : decode cL_law 2116 = .ok (.iconst 3, 1) := by decide +kernel
theorem dL_law_2117 : decode cL_law 2117 = .ok (.iadd, 1) := by decide +kernel
theorem dL_law_2118 : decode cL_law 2118 = .ok (.iaload, 1) := by decide +kernel
theorem dL_law_2119 : decode cL_law 2119 = .ok (.invokevirtual 296, 3) := by decide +kernel
theorem dL_law_2122 : decode cL_law 2122 = .ok (.if_icmp .eq 388, 3) := by decide +kernel
theorem dL_law_2125 : decode cL_law 2125 = .ok (.iconst 0, 1) := by decide +kernel
theorem dL_law_2126 : decode cL_law 2126 = .ok (.ireturn, 1) := by decide +kernel
theorem dL_law_2127 : decode cL_law 2127 = .ok (.aload_n 1, 1) := by decide +kernel
theorem dL_law_2128 : decode cL_law 2128 = .ok (.invokevirtual 297, 3) := by decide +kernel
theorem dL_law_2131 : decode cL_law 2131 = .ok (.aload_n 2, 1) := by decide +kernel
theorem dL_law_2132 : decode cL_law 2132 = .ok (.invokevirtual 300, 3) := by decide +kernel
theorem dL_law_2135 : decode cL_law 2135 = .ok (.if_icmp .eq 375, 3) := by decide +kernel
theorem dL_law_2138 : decode cL_law 2138 = .ok (.iconst 0, 1) := by decide +kernel
theorem dL_law_2139 : decode cL_law 2139 = .ok (.ireturn, 1) := by decide +kernel
theorem dL_law_2140 : decode cL_law 2140 = .ok (.aload_n 1, 1) := by decide +kernel
theorem dL_law_2141 : decode cL_law 2141 = .ok (.invokevirtual 301, 3) := by decide +kernel
theorem dL_law_2144 : decode cL_law 2144 = .ok (.aload_n 2, 1) := by decide +kernel
theorem dL_law_2145 : decode cL_law 2145 = .ok (.invokevirtual 304, 3) := by decide +kernel
theorem dL_law_2148 : decode cL_law 2148 = .ok (.if_icmp .eq 362, 3) := by decide +kernel
theorem dL_law_2151 : decode cL_law 2151 = .ok (.iconst 0, 1) := by decide +kernel
theorem dL_law_2152 : decode cL_law 2152 = .ok (.ireturn, 1) := by decide +kernel
theorem dL_law_2153 : decode cL_law 2153 = .ok (.aload_n 1, 1) := by decide +kernel
theorem dL_law_2154 : decode cL_law 2154 = .ok (.aload_n 0, 1) := by decide +kernel
theorem dL_law_2155 : decode cL_law 2155 = .ok (.iload_n 3, 1) := by decide +kernel
theorem dL_law_2156 : decode cL_law 2156 = .ok (.iconst 1, 1) := by decide +kernel
theorem dL_law_2157 : decode cL_law 2157 = .ok (.iadd, 1) := by decide +kernel
theorem dL_law_2158 : decode cL_law 2158 = .ok (.iaload, 1) := by decide +kernel
theorem dL_law_2159 : decode cL_law 2159 = .ok (.aload_n 0, 1) := by decide +kernel
theorem dL_law_2160 : decode cL_law 2160 = .ok (.iload_n 3, 1) := by decide +kernel
theorem dL_law_2161 : decode cL_law 2161 = .ok (.iconst 2, 1) := by decide +kernel
theorem dL_law_2162 : decode cL_law 2162 = .ok (.iadd, 1) := by decide +kernel
theorem dL_law_2163 : decode cL_law 2163 = .ok (.iaload, 1) := by decide +kernel
theorem dL_law_2164 : decode cL_law 2164 = .ok (.invokevirtual 305, 3) := by decide +kernel
theorem dL_law_2167 : decode cL_law 2167 = .ok (.aload_n 2, 1) := by decide +kernel
theorem dL_law_2168 : decode cL_law 2168 = .ok (.aload_n 0, 1) := by decide +kernel
theorem dL_law_2169 : decode cL_law 2169 = .ok (.iload_n 3, 1) := by decide +kernel
theorem dL_law_2170 : decode cL_law 2170 = .ok (.iconst 1, 1) := by decide +kernel
theorem dL_law_2171 : decode cL_law 2171 = .ok (.iadd, 1) := by decide +kernel
theorem dL_law_2172 : decode cL_law 2172 = .ok (.iaload, 1) := by decide +kernel
theorem dL_law_2173 : decode cL_law 2173 = .ok (.aload_n 0, 1) := by decide +kernel
theorem dL_law_2174 : decode cL_law 2174 = .ok (.iload_n 3, 1) := by decide +kernel
theorem dL_law_2175 : decode cL_law 2175 = .ok (.iconst 2, 1) := by decide +kernel
theorem dL_law_2176 : decode cL_law 2176 = .ok (.iadd, 1) := by decide +kernel
theorem dL_law_2177 : decode cL_law 2177 = .ok (.iaload, 1) := by decide +kernel
theorem dL_law_2178 : decode cL_law 2178 = .ok (.invokevirtual 308, 3) := by decide +kernel
theorem dL_law_2181 : decode cL_law 2181 = .ok (.if_icmp .eq 329, 3) := by decide +kernel
theorem dL_law_2184 : decode cL_law 2184 = .ok (.iconst 0, 1) := by decide +kernel
theorem dL_law_2185 : decode cL_law 2185 = .ok (.ireturn, 1) := by decide +kernel
theorem dL_law_2186 : decode cL_law 2186 = .ok (.aload_n 1, 1) := by decide +kernel
theorem dL_law_2187 : decode cL_law 2187 = .ok (.aload_n 0, 1) := by decide +kernel
theorem dL_law_2188 : decode cL_law 2188 = .ok (.iload_n 3, 1) := by decide +kernel
theorem dL_law_2189 : decode cL_law 2189 = .ok (.iconst 1, 1) := by decide +kernel
theorem dL_law_2190 : decode cL_law 2190 = .ok (.iadd, 1) := by decide +kernel
theorem dL_law_2191 : decode cL_law 2191 = .ok (.iaload, 1) := by decide +kernel
theorem dL_law_2192 : decode cL_law 2192 = .ok (.aload_n 0, 1) := by decide +kernel
theorem dL_law_2193 : decode cL_law 2193 = .ok (.iload_n 3, 1) := by decide +kernel
theorem dL_law_2194 : decode cL_law 2194 = .ok (.iconst 2, 1) := by decide +kernel
theorem dL_law_2195 : decode cL_law 2195 = .ok (.iadd, 1) := by decide +kernel
theorem dL_law_2196 : decode cL_law 2196 = .ok (.iaload, 1) := by decide +kernel
theorem dL_law_2197 : decode cL_law 2197 = .ok (.aload_n 0, 1) := by decide +kernel
theorem dL_law_2198 : decode cL_law 2198 = .ok (.iload_n 3, 1) := by decide +kernel
theorem dL_law_2199 : decode cL_law 2199 = .ok (.iconst 3, 1) := by decide +kernel
theorem dL_law_2200 : decode cL_law 2200 = .ok (.iadd, 1) := by decide +kernel
theorem dL_law_2201 : decode cL_law 2201 = .ok (.iaload, 1) := by decide +kernel
theorem dL_law_2202 : decode cL_law 2202 = .ok (.invokevirtual 309, 3) := by decide +kernel
theorem dL_law_2205 : decode cL_law 2205 = .ok (.aload_n 2, 1) := by decide +kernel
theorem dL_law_2206 : decode cL_law 2206 = .ok (.aload_n 0, 1) := by decide +kernel
theorem dL_law_2207 : decode cL_law 2207 = .ok (.iload_n 3, 1) := by decide +kernel
theorem dL_law_2208 : decode cL_law 2208 = .ok (.iconst 1, 1) := by decide +kernel
theorem dL_law_2209 : decode cL_law 2209 = .ok (.iadd, 1) := by decide +kernel
theorem dL_law_2210 : decode cL_law 2210 = .ok (.iaload, 1) := by decide +kernel
theorem dL_law_2211 : decode cL_law 2211 = .ok (.aload_n 0, 1) := by decide +kernel
theorem dL_law_2212 : decode cL_law 2212 = .ok (.iload_n 3, 1) := by decide +kernel
theorem dL_law_2213 : decode cL_law 2213 = .ok (.iconst 2, 1) := by decide +kernel
theorem dL_law_2214 : decode cL_law 2214 = .ok (.iadd, 1) := by decide +kernel
theorem dL_law_2215 : decode cL_law 2215 = .ok (.iaload, 1) := by decide +kernel
theorem dL_law_2216 : decode cL_law 2216 = .ok (.aload_n 0, 1) := by decide +kernel
theorem dL_law_2217 : decode cL_law 2217 = .ok (.iload_n 3, 1) := by decide +kernel
theorem dL_law_2218 : decode cL_law 2218 = .ok (.iconst 3, 1) := by decide +kernel
theorem dL_law_2219 : decode cL_law 2219 = .ok (.iadd, 1) := by decide +kernel
theorem dL_law_2220 : decode cL_law 2220 = .ok (.iaload, 1) := by decide +kernel
theorem dL_law_2221 : decode cL_law 2221 = .ok (.invokevirtual 312, 3) := by decide +kernel
theorem dL_law_2224 : decode cL_law 2224 = .ok (.if_icmp .eq 286, 3) := by decide +kernel
theorem dL_law_2227 : decode cL_law 2227 = .ok (.iconst 0, 1) := by decide +kernel
theorem dL_law_2228 : decode cL_law 2228 = .ok (.ireturn, 1) := by decide +kernel
theorem dL_law_2229 : decode cL_law 2229 = .ok (.aload_n 1, 1) := by decide +kernel
theorem dL_law_2230 : decode cL_law 2230 = .ok (.aload_n 0, 1) := by decide +kernel
theorem dL_law_2231 : decode cL_law 2231 = .ok (.iload_n 3, 1) := by decide +kernel
theorem dL_law_2232 : decode cL_law 2232 = .ok (.iconst 1, 1) := by decide +kernel
theorem dL_law_2233 : decode cL_law 2233 = .ok (.iadd, 1) := by decide +kernel
theorem dL_law_2234 : decode cL_law 2234 = .ok (.iaload, 1) := by decide +kernel
theorem dL_law_2235 : decode cL_law 2235 = .ok (.aload_n 0, 1) := by decide +kernel
theorem dL_law_2236 : decode cL_law 2236 = .ok (.iload_n 3, 1) := by decide +kernel
theorem dL_law_2237 : decode cL_law 2237 = .ok (.iconst 2, 1) := by decide +kernel
theorem dL_law_2238 : decode cL_law 2238 = .ok (.iadd, 1) := by decide +kernel
theorem dL_law_2239 : decode cL_law 2239 = .ok (.iaload, 1) := by decide +kernel
theorem dL_law_2240 : decode cL_law 2240 = .ok (.invokevirtual 313, 3) := by decide +kernel
theorem dL_law_2243 : decode cL_law 2243 = .ok (.aload_n 2, 1) := by decide +kernel
theorem dL_law_2244 : decode cL_law 2244 = .ok (.aload_n 0, 1) := by decide +kernel
theorem dL_law_2245 : decode cL_law 2245 = .ok (.iload_n 3, 1) := by decide +kernel
theorem dL_law_2246 : decode cL_law 2246 = .ok (.iconst 1, 1) := by decide +kernel
theorem dL_law_2247 : decode cL_law 2247 = .ok (.iadd, 1) := by decide +kernel
theorem dL_law_2248 : decode cL_law 2248 = .ok (.iaload, 1) := by decide +kernel
theorem dL_law_2249 : decode cL_law 2249 = .ok (.aload_n 0, 1) := by decide +kernel
theorem dL_law_2250 : decode cL_law 2250 = .ok (.iload_n 3, 1) := by decide +kernel
theorem dL_law_2251 : decode cL_law 2251 = .ok (.iconst 2, 1) := by decide +kernel
theorem dL_law_2252 : decode cL_law 2252 = .ok (.iadd, 1) := by decide +kernel
theorem dL_law_2253 : decode cL_law 2253 = .ok (.iaload, 1) := by decide +kernel
theorem dL_law_2254 : decode cL_law 2254 = .ok (.invokevirtual 316, 3) := by decide +kernel
theorem dL_law_2257 : decode cL_law 2257 = .ok (.if_icmp .eq 253, 3) := by decide +kernel
theorem dL_law_2260 : decode cL_law 2260 = .ok (.iconst 0, 1) := by decide +kernel
theorem dL_law_2261 : decode cL_law 2261 = .ok (.ireturn, 1) := by decide +kernel
theorem dL_law_2262 : decode cL_law 2262 = .ok (.aload_n 1, 1) := by decide +kernel
theorem dL_law_2263 : decode cL_law 2263 = .ok (.aload_n 0, 1) := by decide +kernel
theorem dL_law_2264 : decode cL_law 2264 = .ok (.iload_n 3, 1) := by decide +kernel
theorem dL_law_2265 : decode cL_law 2265 = .ok (.iconst 1, 1) := by decide +kernel
theorem dL_law_2266 : decode cL_law 2266 = .ok (.iadd, 1) := by decide +kernel
theorem dL_law_2267 : decode cL_law 2267 = .ok (.iaload, 1) := by decide +kernel
theorem dL_law_2268 : decode cL_law 2268 = .ok (.invokevirtual 317, 3) := by decide +kernel
theorem dL_law_2271 : decode cL_law 2271 = .ok (.aload_n 2, 1) := by decide +kernel
theorem dL_law_2272 : decode cL_law 2272 = .ok (.aload_n 0, 1) := by decide +kernel
theorem dL_law_2273 : decode cL_law 2273 = .ok (.iload_n 3, 1) := by decide +kernel
theorem dL_law_2274 : decode cL_law 2274 = .ok (.iconst 1, 1) := by decide +kernel
theorem dL_law_2275 : decode cL_law 2275 = .ok (.iadd, 1) := by decide +kernel
theorem dL_law_2276 : decode cL_law 2276 = .ok (.iaload, 1) := by decide +kernel
theorem dL_law_2277 : decode cL_law 2277 = .ok (.invokevirtual 320, 3) := by decide +kernel
theorem dL_law_2280 : decode cL_law 2280 = .ok (.if_icmp .eq 230, 3) := by decide +kernel
theorem dL_law_2283 : decode cL_law 2283 = .ok (.iconst 0, 1) := by decide +kernel
theorem dL_law_2284 : decode cL_law 2284 = .ok (.ireturn, 1) := by decide +kernel
theorem dL_law_2285 : decode cL_law 2285 = .ok (.aload_n 1, 1) := by decide +kernel
theorem dL_law_2286 : decode cL_law 2286 = .ok (.aload_n 0, 1) := by decide +kernel
theorem dL_law_2287 : decode cL_law 2287 = .ok (.iload_n 3, 1) := by decide +kernel
theorem dL_law_2288 : decode cL_law 2288 = .ok (.iconst 1, 1) := by decide +kernel
theorem dL_law_2289 : decode cL_law 2289 = .ok (.iadd, 1) := by decide +kernel
theorem dL_law_2290 : decode cL_law 2290 = .ok (.iaload, 1) := by decide +kernel
theorem dL_law_2291 : decode cL_law 2291 = .ok (.invokevirtual 321, 3) := by decide +kernel
theorem dL_law_2294 : decode cL_law 2294 = .ok (.aload_n 2, 1) := by decide +kernel
theorem dL_law_2295 : decode cL_law 2295 = .ok (.aload_n 0, 1) := by decide +kernel
theorem dL_law_2296 : decode cL_law 2296 = .ok (.iload_n 3, 1) := by decide +kernel
theorem dL_law_2297 : decode cL_law 2297 = .ok (.iconst 1, 1) := by decide +kernel
theorem dL_law_2298 : decode cL_law 2298 = .ok (.iadd, 1) := by decide +kernel
theorem dL_law_2299 : decode cL_law 2299 = .ok (.iaload, 1) := by decide +kernel
theorem dL_law_2300 : decode cL_law 2300 = .ok (.invokevirtual 324, 3) := by decide +kernel
theorem dL_law_2303 : decode cL_law 2303 = .ok (.if_icmp .eq 207, 3) := by decide +kernel
theorem dL_law_2306 : decode cL_law 2306 = .ok (.iconst 0, 1) := by decide +kernel
theorem dL_law_2307 : decode cL_law 2307 = .ok (.ireturn, 1) := by decide +kernel
theorem dL_law_2308 : decode cL_law 2308 = .ok (.aload_n 1, 1) := by decide +kernel
theorem dL_law_2309 : decode cL_law 2309 = .ok (.aload_n 0, 1) := by decide +kernel
theorem dL_law_2310 : decode cL_law 2310 = .ok (.iload_n 3, 1) := by decide +kernel
theorem dL_law_2311 : decode cL_law 2311 = .ok (.iconst 1, 1) := by decide +kernel
theorem dL_law_2312 : decode cL_law 2312 = .ok (.iadd, 1) := by decide +kernel
theorem dL_law_2313 : decode cL_law 2313 = .ok (.iaload, 1) := by decide +kernel
theorem dL_law_2314 : decode cL_law 2314 = .ok (.invokevirtual 325, 3) := by decide +kernel
theorem dL_law_2317 : decode cL_law 2317 = .ok (.aload_n 2, 1) := by decide +kernel
theorem dL_law_2318 : decode cL_law 2318 = .ok (.aload_n 0, 1) := by decide +kernel
theorem dL_law_2319 : decode cL_law 2319 = .ok (.iload_n 3, 1) := by decide +kernel
theorem dL_law_2320 : decode cL_law 2320 = .ok (.iconst 1, 1) := by decide +kernel
theorem dL_law_2321 : decode cL_law 2321 = .ok (.iadd, 1) := by decide +kernel
theorem dL_law_2322 : decode cL_law 2322 = .ok (.iaload, 1) := by decide +kernel
theorem dL_law_2323 : decode cL_law 2323 = .ok (.invokevirtual 328, 3) := by decide +kernel
theorem dL_law_2326 : decode cL_law 2326 = .ok (.if_icmp .eq 184, 3) := by decide +kernel
theorem dL_law_2329 : decode cL_law 2329 = .ok (.iconst 0, 1) := by decide +kernel
theorem dL_law_2330 : decode cL_law 2330 = .ok (.ireturn, 1) := by decide +kernel
theorem dL_law_2331 : decode cL_law 2331 = .ok (.aload_n 1, 1) := by decide +kernel
theorem dL_law_2332 : decode cL_law 2332 = .ok (.aload_n 0, 1) := by decide +kernel
theorem dL_law_2333 : decode cL_law 2333 = .ok (.iload_n 3, 1) := by decide +kernel
theorem dL_law_2334 : decode cL_law 2334 = .ok (.iconst 1, 1) := by decide +kernel
theorem dL_law_2335 : decode cL_law 2335 = .ok (.iadd, 1) := by decide +kernel
theorem dL_law_2336 : decode cL_law 2336 = .ok (.iaload, 1) := by decide +kernel
theorem dL_law_2337 : decode cL_law 2337 = .ok (.aload_n 0, 1) := by decide +kernel
theorem dL_law_2338 : decode cL_law 2338 = .ok (.iload_n 3, 1) := by decide +kernel
theorem dL_law_2339 : decode cL_law 2339 = .ok (.iconst 2, 1) := by decide +kernel
theorem dL_law_2340 : decode cL_law 2340 = .ok (.iadd, 1) := by decide +kernel
theorem dL_law_2341 : decode cL_law 2341 = .ok (.iaload, 1) := by decide +kernel
theorem dL_law_2342 : decode cL_law 2342 = .ok (.aload_n 0, 1) := by decide +kernel
theorem dL_law_2343 : decode cL_law 2343 = .ok (.iload_n 3, 1) := by decide +kernel
theorem dL_law_2344 : decode cL_law 2344 = .ok (.iconst 3, 1) := by decide +kernel
theorem dL_law_2345 : decode cL_law 2345 = .ok (.iadd, 1) := by decide +kernel
theorem dL_law_2346 : decode cL_law 2346 = .ok (.iaload, 1) := by decide +kernel
theorem dL_law_2347 : decode cL_law 2347 = .ok (.invokevirtual 329, 3) := by decide +kernel
theorem dL_law_2350 : decode cL_law 2350 = .ok (.aload_n 2, 1) := by decide +kernel
theorem dL_law_2351 : decode cL_law 2351 = .ok (.aload_n 0, 1) := by decide +kernel
theorem dL_law_2352 : decode cL_law 2352 = .ok (.iload_n 3, 1) := by decide +kernel
theorem dL_law_2353 : decode cL_law 2353 = .ok (.iconst 1, 1) := by decide +kernel
theorem dL_law_2354 : decode cL_law 2354 = .ok (.iadd, 1) := by decide +kernel
theorem dL_law_2355 : decode cL_law 2355 = .ok (.iaload, 1) := by decide +kernel
theorem dL_law_2356 : decode cL_law 2356 = .ok (.aload_n 0, 1) := by decide +kernel
theorem dL_law_2357 : decode cL_law 2357 = .ok (.iload_n 3, 1) := by decide +kernel
theorem dL_law_2358 : decode cL_law 2358 = .ok (.iconst 2, 1) := by decide +kernel
theorem dL_law_2359 : decode cL_law 2359 = .ok (.iadd, 1) := by decide +kernel
theorem dL_law_2360 : decode cL_law 2360 = .ok (.iaload, 1) := by decide +kernel
theorem dL_law_2361 : decode cL_law 2361 = .ok (.aload_n 0, 1) := by decide +kernel
theorem dL_law_2362 : decode cL_law 2362 = .ok (.iload_n 3, 1) := by decide +kernel
theorem dL_law_2363 : decode cL_law 2363 = .ok (.iconst 3, 1) := by decide +kernel
theorem dL_law_2364 : decode cL_law 2364 = .ok (.iadd, 1) := by decide +kernel
theorem dL_law_2365 : decode cL_law 2365 = .ok (.iaload, 1) := by decide +kernel
theorem dL_law_2366 : decode cL_law 2366 = .ok (.invokevirtual 332, 3) := by decide +kernel
theorem dL_law_2369 : decode cL_law 2369 = .ok (.if_icmp .eq 141, 3) := by decide +kernel
theorem dL_law_2372 : decode cL_law 2372 = .ok (.iconst 0, 1) := by decide +kernel
theorem dL_law_2373 : decode cL_law 2373 = .ok (.ireturn, 1) := by decide +kernel
theorem dL_law_2374 : decode cL_law 2374 = .ok (.aload_n 1, 1) := by decide +kernel
theorem dL_law_2375 : decode cL_law 2375 = .ok (.aload_n 0, 1) := by decide +kernel
theorem dL_law_2376 : decode cL_law 2376 = .ok (.iload_n 3, 1) := by decide +kernel
theorem dL_law_2377 : decode cL_law 2377 = .ok (.iconst 1, 1) := by decide +kernel
theorem dL_law_2378 : decode cL_law 2378 = .ok (.iadd, 1) := by decide +kernel
theorem dL_law_2379 : decode cL_law 2379 = .ok (.iaload, 1) := by decide +kernel
theorem dL_law_2380 : decode cL_law 2380 = .ok (.aload_n 0, 1) := by decide +kernel
theorem dL_law_2381 : decode cL_law 2381 = .ok (.iload_n 3, 1) := by decide +kernel
theorem dL_law_2382 : decode cL_law 2382 = .ok (.iconst 2, 1) := by decide +kernel
theorem dL_law_2383 : decode cL_law 2383 = .ok (.iadd, 1) := by decide +kernel
theorem dL_law_2384 : decode cL_law 2384 = .ok (.iaload, 1) := by decide +kernel
theorem dL_law_2385 : decode cL_law 2385 = .ok (.aload_n 0, 1) := by decide +kernel
theorem dL_law_2386 : decode cL_law 2386 = .ok (.iload_n 3, 1) := by decide +kernel
theorem dL_law_2387 : decode cL_law 2387 = .ok (.iconst 3, 1) := by decide +kernel
theorem dL_law_2388 : decode cL_law 2388 = .ok (.iadd, 1) := by decide +kernel
theorem dL_law_2389 : decode cL_law 2389 = .ok (.iaload, 1) := by decide +kernel
theorem dL_law_2390 : decode cL_law 2390 = .ok (.i2l, 1) := by decide +kernel
theorem dL_law_2391 : decode cL_law 2391 = .ok (.bipush 32, 2) := by decide +kernel
theorem dL_law_2393 : decode cL_law 2393 = .ok (.lshl, 1) := by decide +kernel
theorem dL_law_2394 : decode cL_law 2394 = .ok (.aload_n 0, 1) := by decide +kernel
theorem dL_law_2395 : decode cL_law 2395 = .ok (.iload_n 3, 1) := by decide +kernel
theorem dL_law_2396 : decode cL_law 2396 = .ok (.iconst 4, 1) := by decide +kernel
theorem dL_law_2397 : decode cL_law 2397 = .ok (.iadd, 1) := by decide +kernel
theorem dL_law_2398 : decode cL_law 2398 = .ok (.iaload, 1) := by decide +kernel
theorem dL_law_2399 : decode cL_law 2399 = .ok (.i2l, 1) := by decide +kernel
theorem dL_law_2400 : decode cL_law 2400 = .ok (.ldc2_w 333, 3) := by decide +kernel
theorem dL_law_2403 : decode cL_law 2403 = .ok (.land, 1) := by decide +kernel
theorem dL_law_2404 : decode cL_law 2404 = .ok (.lor, 1) := by decide +kernel
theorem dL_law_2405 : decode cL_law 2405 = .ok (.invokevirtual 335, 3) := by decide +kernel
theorem dL_law_2408 : decode cL_law 2408 = .ok (.aload_n 2, 1) := by decide +kernel
theorem dL_law_2409 : decode cL_law 2409 = .ok (.aload_n 0, 1) := by decide +kernel
theorem dL_law_2410 : decode cL_law 2410 = .ok (.iload_n 3, 1) := by decide +kernel
theorem dL_law_2411 : decode cL_law 2411 = .ok (.iconst 1, 1) := by decide +kernel
theorem dL_law_2412 : decode cL_law 2412 = .ok (.iadd, 1) := by decide +kernel
theorem dL_law_2413 : decode cL_law 2413 = .ok (.iaload, 1) := by decide +kernel
theorem dL_law_2414 : decode cL_law 2414 = .ok (.aload_n 0, 1) := by decide +kernel
theorem dL_law_2415 : decode cL_law 2415 = .ok (.iload_n 3, 1) := by decide +kernel
theorem dL_law_2416 : decode cL_law 2416 = .ok (.iconst 2, 1) := by decide +kernel
theorem dL_law_2417 : decode cL_law 2417 = .ok (.iadd, 1) := by decide +kernel
theorem dL_law_2418 : decode cL_law 2418 = .ok (.iaload, 1) := by decide +kernel
theorem dL_law_2419 : decode cL_law 2419 = .ok (.aload_n 0, 1) := by decide +kernel
theorem dL_law_2420 : decode cL_law 2420 = .ok (.iload_n 3, 1) := by decide +kernel
theorem dL_law_2421 : decode cL_law 2421 = .ok (.iconst 3, 1) := by decide +kernel
theorem dL_law_2422 : decode cL_law 2422 = .ok (.iadd, 1) := by decide +kernel
theorem dL_law_2423 : decode cL_law 2423 = .ok (.iaload, 1) := by decide +kernel
theorem dL_law_2424 : decode cL_law 2424 = .ok (.i2l, 1) := by decide +kernel
theorem dL_law_2425 : decode cL_law 2425 = .ok (.bipush 32, 2) := by decide +kernel
theorem dL_law_2427 : decode cL_law 2427 = .ok (.lshl, 1) := by decide +kernel
theorem dL_law_2428 : decode cL_law 2428 = .ok (.aload_n 0, 1) := by decide +kernel
theorem dL_law_2429 : decode cL_law 2429 = .ok (.iload_n 3, 1) := by decide +kernel
theorem dL_law_2430 : decode cL_law 2430 = .ok (.iconst 4, 1) := by decide +kernel
theorem dL_law_2431 : decode cL_law 2431 = .ok (.iadd, 1) := by decide +kernel
theorem dL_law_2432 : decode cL_law 2432 = .ok (.iaload, 1) := by decide +kernel
theorem dL_law_2433 : decode cL_law 2433 = .ok (.i2l, 1) := by decide +kernel
theorem dL_law_2434 : decode cL_law 2434 = .ok (.ldc2_w 333, 3) := by decide +kernel
theorem dL_law_2437 : decode cL_law 2437 = .ok (.land, 1) := by decide +kernel
theorem dL_law_2438 : decode cL_law 2438 = .ok (.lor, 1) := by decide +kernel
theorem dL_law_2439 : decode cL_law 2439 = .ok (.invokevirtual 339, 3) := by decide +kernel
theorem dL_law_2442 : decode cL_law 2442 = .ok (.if_icmp .eq 68, 3) := by decide +kernel
theorem dL_law_2445 : decode cL_law 2445 = .ok (.iconst 0, 1) := by decide +kernel
theorem dL_law_2446 : decode cL_law 2446 = .ok (.ireturn, 1) := by decide +kernel
theorem dL_law_2447 : decode cL_law 2447 = .ok (.aload_n 1, 1) := by decide +kernel
theorem dL_law_2448 : decode cL_law 2448 = .ok (.aload_n 0, 1) := by decide +kernel
theorem dL_law_2449 : decode cL_law 2449 = .ok (.iload_n 3, 1) := by decide +kernel
theorem dL_law_2450 : decode cL_law 2450 = .ok (.iconst 1, 1) := by decide +kernel
theorem dL_law_2451 : decode cL_law 2451 = .ok (.iadd, 1) := by decide +kernel
theorem dL_law_2452 : decode cL_law 2452 = .ok (.iaload, 1) := by decide +kernel
theorem dL_law_2453 : decode cL_law 2453 = .ok (.aload_n 0, 1) := by decide +kernel
theorem dL_law_2454 : decode cL_law 2454 = .ok (.iload_n 3, 1) := by decide +kernel
theorem dL_law_2455 : decode cL_law 2455 = .ok (.iconst 2, 1) := by decide +kernel
theorem dL_law_2456 : decode cL_law 2456 = .ok (.iadd, 1) := by decide +kernel
theorem dL_law_2457 : decode cL_law 2457 = .ok (.iaload, 1) := by decide +kernel
theorem dL_law_2458 : decode cL_law 2458 = .ok (.aload_n 0, 1) := by decide +kernel
theorem dL_law_2459 : decode cL_law 2459 = .ok (.iload_n 3, 1) := by decide +kernel
theorem dL_law_2460 : decode cL_law 2460 = .ok (.iconst 3, 1) := by decide +kernel
theorem dL_law_2461 : decode cL_law 2461 = .ok (.iadd, 1) := by decide +kernel
theorem dL_law_2462 : decode cL_law 2462 = .ok (.iaload, 1) := by decide +kernel
theorem dL_law_2463 : decode cL_law 2463 = .ok (.aload_n 0, 1) := by decide +kernel
theorem dL_law_2464 : decode cL_law 2464 = .ok (.iload_n 3, 1) := by decide +kernel
theorem dL_law_2465 : decode cL_law 2465 = .ok (.iconst 4, 1) := by decide +kernel
theorem dL_law_2466 : decode cL_law 2466 = .ok (.iadd, 1) := by decide +kernel
theorem dL_law_2467 : decode cL_law 2467 = .ok (.iaload, 1) := by decide +kernel
theorem dL_law_2468 : decode cL_law 2468 = .ok (.aload_n 0, 1) := by decide +kernel
theorem dL_law_2469 : decode cL_law 2469 = .ok (.iload_n 3, 1) := by decide +kernel
theorem dL_law_2470 : decode cL_law 2470 = .ok (.iconst 5, 1) := by decide +kernel
theorem dL_law_2471 : decode cL_law 2471 = .ok (.iadd, 1) := by decide +kernel
theorem dL_law_2472 : decode cL_law 2472 = .ok (.iaload, 1) := by decide +kernel
theorem dL_law_2473 : decode cL_law 2473 = .ok (.invokevirtual 340, 3) := by decide +kernel
theorem dL_law_2476 : decode cL_law 2476 = .ok (.aload_n 2, 1) := by decide +kernel
theorem dL_law_2477 : decode cL_law 2477 = .ok (.aload_n 0, 1) := by decide +kernel
theorem dL_law_2478 : decode cL_law 2478 = .ok (.iload_n 3, 1) := by decide +kernel
theorem dL_law_2479 : decode cL_law 2479 = .ok (.iconst 1, 1) := by decide +kernel
theorem dL_law_2480 : decode cL_law 2480 = .ok (.iadd, 1) := by decide +kernel
theorem dL_law_2481 : decode cL_law 2481 = .ok (.iaload, 1) := by decide +kernel
theorem dL_law_2482 : decode cL_law 2482 = .ok (.aload_n 0, 1) := by decide +kernel
theorem dL_law_2483 : decode cL_law 2483 = .ok (.iload_n 3, 1) := by decide +kernel
theorem dL_law_2484 : decode cL_law 2484 = .ok (.iconst 2, 1) := by decide +kernel
theorem dL_law_2485 : decode cL_law 2485 = .ok (.iadd, 1) := by decide +kernel
theorem dL_law_2486 : decode cL_law 2486 = .ok (.iaload, 1) := by decide +kernel
theorem dL_law_2487 : decode cL_law 2487 = .ok (.aload_n 0, 1) := by decide +kernel
theorem dL_law_2488 : decode cL_law 2488 = .ok (.iload_n 3, 1) := by decide +kernel
theorem dL_law_2489 : decode cL_law 2489 = .ok (.iconst 3, 1) := by decide +kernel
theorem dL_law_2490 : decode cL_law 2490 = .ok (.iadd, 1) := by decide +kernel
theorem dL_law_2491 : decode cL_law 2491 = .ok (.iaload, 1) := by decide +kernel
theorem dL_law_2492 : decode cL_law 2492 = .ok (.aload_n 0, 1) := by decide +kernel
theorem dL_law_2493 : decode cL_law 2493 = .ok (.iload_n 3, 1) := by decide +kernel
theorem dL_law_2494 : decode cL_law 2494 = .ok (.iconst 4, 1) := by decide +kernel
theorem dL_law_2495 : decode cL_law 2495 = .ok (.iadd, 1) := by decide +kernel
theorem dL_law_2496 : decode cL_law 2496 = .ok (.iaload, 1) := by decide +kernel
theorem dL_law_2497 : decode cL_law 2497 = .ok (.aload_n 0, 1) := by decide +kernel
theorem dL_law_2498 : decode cL_law 2498 = .ok (.iload_n 3, 1) := by decide +kernel
theorem dL_law_2499 : decode cL_law 2499 = .ok (.iconst 5, 1) := by decide +kernel
theorem dL_law_2500 : decode cL_law 2500 = .ok (.iadd, 1) := by decide +kernel
theorem dL_law_2501 : decode cL_law 2501 = .ok (.iaload, 1) := by decide +kernel
theorem dL_law_2502 : decode cL_law 2502 = .ok (.invokevirtual 343, 3) := by decide +kernel
theorem dL_law_2505 : decode cL_law 2505 = .ok (.if_icmp .eq 5, 3) := by decide +kernel
theorem dL_law_2508 : decode cL_law 2508 = .ok (.iconst 0, 1) := by decide +kernel
theorem dL_law_2509 : decode cL_law 2509 = .ok (.ireturn, 1) := by decide +kernel
theorem dL_law_2510 : decode cL_law 2510 = .ok (.iinc 3 6, 3) := by decide +kernel
theorem dL_law_2513 : decode cL_law 2513 = .ok (.goto (-2495), 3) := by decide +kernel
theorem dL_law_2516 : decode cL_law 2516 = .ok (.iconst 1, 1) := by decide +kernel
theorem dL_law_2517 : decode cL_law 2517 = .ok (.ireturn, 1) := by decide +kernel
