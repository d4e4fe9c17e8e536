theorem dL_hangs_282 : decode cL_hangs 282 = .ok (.iload_n 1, 1) := by decide +kernel
theorem dL_hangs_283 : decode cL_hangs 283 = .ok (.iconst 1, 1) := by decide +kernel
theorem dL_hangs_284 : decode cL_hangs 284 = .ok (.aload_n 0, 1) := by decide +kernel
theorem dL_hangs_285 : decode cL_hangs 285 = .ok (.invokevirtual 128, 3) := by decide +kernel
theorem dL_hangs_288 : decode cL_hangs 288 = .ok (.ishl, 1) := by decide +kernel
theorem dL_hangs_289 : decode cL_hangs 289 = .ok (.irem, 1) := by decide +kernel
theorem dL_hangs_290 : decode cL_hangs 290 = .ok (.istore 6, 2) := by decide +kernel
theorem dL_hangs_292 : decode cL_hangs 292 = .ok (.iload 5, 2) := by decide +kernel
theorem dL_hangs_294 : decode cL_hangs 294 = .ok (.ifCond .eq 76, 3) := by decide +kernel
theorem dL_hangs_297 : decode cL_hangs 297 = .ok (.aload_n 0, 1) := by decide +kernel
theorem dL_hangs_298 : decode cL_hangs 298 = .ok (.iload 6, 2) := by decide +kernel
theorem dL_hangs_300 : decode cL_hangs 300 = .ok (.invokestatic 203, 3) := by decide +kernel
theorem dL_hangs_303 : decode cL_hangs 303 = .ok (.aload_n 0, 1) := by decide +kernel
theorem dL_hangs_304 : decode cL_hangs 304 = .ok (.iload 6, 2) := by decide +kernel
theorem dL_hangs_306 : decode cL_hangs 306 = .ok (.invokestatic 206, 3) := by decide +kernel
theorem dL_hangs_309 : decode cL_hangs 309 = .ok (.if_icmp .ne 61, 3) := by decide +kernel
theorem dL_hangs_312 : decode cL_hangs 312 = .ok (.aload_n 0, 1) := by decide +kernel
theorem dL_hangs_313 : decode cL_hangs 313 = .ok (.iload 6, 2) := by decide +kernel
theorem dL_hangs_315 : decode cL_hangs 315 = .ok (.invokestatic 203, 3) := by decide +kernel
theorem dL_hangs_318 : decode cL_hangs 318 = .ok (.aload_n 0, 1) := by decide +kernel
theorem dL_hangs_319 : decode cL_hangs 319 = .ok (.iload 6, 2) := by decide +kernel
theorem dL_hangs_321 : decode cL_hangs 321 = .ok (.invokestatic 209, 3) := by decide +kernel
theorem dL_hangs_324 : decode cL_hangs 324 = .ok (.if_icmp .ne 46, 3) := by decide +kernel
theorem dL_hangs_327 : decode cL_hangs 327 = .ok (.aload_n 0, 1) := by decide +kernel
theorem dL_hangs_328 : decode cL_hangs 328 = .ok (.iload 6, 2) := by decide +kernel
theorem dL_hangs_330 : decode cL_hangs 330 = .ok (.invokestatic 212, 3) := by decide +kernel
theorem dL_hangs_333 : decode cL_hangs 333 = .ok (.iload 6, 2) := by decide +kernel
theorem dL_hangs_335 : decode cL_hangs 335 = .ok (.ifCond .ne 7, 3) := by decide +kernel
theorem dL_hangs_338 : decode cL_hangs 338 = .ok (.iconst 0, 1) := by decide +kernel
theorem dL_hangs_339 : decode cL_hangs 339 = .ok (.goto 4, 3) := by decide +kernel
theorem dL_hangs_342 : decode cL_hangs 342 = .ok (.iconst 1, 1) := by decide +kernel
theorem dL_hangs_343 : decode cL_hangs 343 = .ok (.if_icmp .lt 27, 3) := by decide +kernel
theorem dL_hangs_346 : decode cL_hangs 346 = .ok (.aload_n 0, 1) := by decide +kernel
theorem dL_hangs_347 : decode cL_hangs 347 = .ok (.iload_n 2, 1) := by decide +kernel
theorem dL_hangs_348 : decode cL_hangs 348 = .ok (.invokestatic 203, 3) := by decide +kernel
theorem dL_hangs_351 : decode cL_hangs 351 = .ok (.aload_n 0, 1) := by decide +kernel
theorem dL_hangs_352 : decode cL_hangs 352 = .ok (.invokevirtual 179, 3) := by decide +kernel
theorem dL_hangs_355 : decode cL_hangs 355 = .ok (.ifCond .le 7, 3) := by decide +kernel
theorem dL_hangs_358 : decode cL_hangs 358 = .ok (.iconst 1, 1) := by decide +kernel
theorem dL_hangs_359 : decode cL_hangs 359 = .ok (.goto 4, 3) := by decide +kernel
theorem dL_hangs_362 : decode cL_hangs 362 = .ok (.iconst 0, 1) := by decide +kernel
theorem dL_hangs_363 : decode cL_hangs 363 = .ok (.if_icmp .ne 7, 3) := by decide +kernel
theorem dL_hangs_366 : decode cL_hangs 366 = .ok (.iconst 1, 1) := by decide +kernel
theorem dL_hangs_367 : decode cL_hangs 367 = .ok (.goto 4, 3) := by decide +kernel
theorem dL_hangs_370 : decode cL_hangs 370 = .ok (.iconst 0, 1) := by decide +kernel
theorem dL_hangs_371 : decode cL_hangs 371 = .ok (.istore 5, 2) := by decide +kernel
theorem dL_hangs_373 : decode cL_hangs 373 = .ok (.aload_n 0, 1) := by decide +kernel
theorem dL_hangs_374 : decode cL_hangs 374 = .ok (.invokevirtual 179, 3) := by decide +kernel
theorem dL_hangs_377 : decode cL_hangs 377 = .ok (.ifCond .le 7, 3) := by decide +kernel
theorem dL_hangs_380 : decode cL_hangs 380 = .ok (.iconst 1, 1) := by decide +kernel
theorem dL_hangs_381 : decode cL_hangs 381 = .ok (.goto 4, 3) := by decide +kernel
theorem dL_hangs_384 : decode cL_hangs 384 = .ok (.iconst 0, 1) := by decide +kernel
theorem dL_hangs_385 : decode cL_hangs 385 = .ok (.istore 7, 2) := by decide +kernel
theorem dL_hangs_387 : decode cL_hangs 387 = .ok (.aload_n 0, 1) := by decide +kernel
theorem dL_hangs_388 : decode cL_hangs 388 = .ok (.invokevirtual 185, 3) := by decide +kernel
theorem dL_hangs_391 : decode cL_hangs 391 = .ok (.istore 8, 2) := by decide +kernel
theorem dL_hangs_393 : decode cL_hangs 393 = .ok (.iload 5, 2) := by decide +kernel
theorem dL_hangs_395 : decode cL_hangs 395 = .ok (.ifCond .eq 140, 3) := by decide +kernel
theorem dL_hangs_398 : decode cL_hangs 398 = .ok (.iload 8, 2) := by decide +kernel
theorem dL_hangs_400 : decode cL_hangs 400 = .ok (.ifCond .ge 7, 3) := by decide +kernel
theorem dL_hangs_403 : decode cL_hangs 403 = .ok (.iconst 1, 1) := by decide +kernel
theorem dL_hangs_404 : decode cL_hangs 404 = .ok (.goto 4, 3) := by decide +kernel
theorem dL_hangs_407 : decode cL_hangs 407 = .ok (.iconst 0, 1) := by decide +kernel
theorem dL_hangs_408 : decode cL_hangs 408 = .ok (.iload 7, 2) := by decide +kernel
theorem dL_hangs_410 : decode cL_hangs 410 = .ok (.if_icmp .ne 125, 3) := by decide +kernel
theorem dL_hangs_413 : decode cL_hangs 413 = .ok (.aload_n 0, 1) := by decide +kernel
theorem dL_hangs_414 : decode cL_hangs 414 = .ok (.invokevirtual 214, 3) := by decide +kernel
theorem dL_hangs_417 : decode cL_hangs 417 = .ok (.ifCond .ge 7, 3) := by decide +kernel
theorem dL_hangs_420 : decode cL_hangs 420 = .ok (.iconst 1, 1) := by decide +kernel
theorem dL_hangs_421 : decode cL_hangs 421 = .ok (.goto 4, 3) := by decide +kernel
theorem dL_hangs_424 : decode cL_hangs 424 = .ok (.iconst 0, 1) := by decide +kernel
theorem dL_hangs_425 : decode cL_hangs 425 = .ok (.iload 7, 2) := by decide +kernel
theorem dL_hangs_427 : decode cL_hangs 427 = .ok (.if_icmp .ne 108, 3) := by decide +kernel
theorem dL_hangs_430 : decode cL_hangs 430 = .ok (.aload_n 0, 1) := by decide +kernel
theorem dL_hangs_431 : decode cL_hangs 431 = .ok (.invokevirtual 217, 3) := by decide +kernel
theorem dL_hangs_434 : decode cL_hangs 434 = .ok (.ifCond .ne 7, 3) := by decide +kernel
theorem dL_hangs_437 : decode cL_hangs 437 = .ok (.iconst 1, 1) := by decide +kernel
theorem dL_hangs_438 : decode cL_hangs 438 = .ok (.goto 4, 3) := by decide +kernel
theorem dL_hangs_441 : decode cL_hangs 441 = .ok (.iconst 0, 1) := by decide +kernel
theorem dL_hangs_442 : decode cL_hangs 442 = .ok (.iload 7, 2) := by decide +kernel
theorem dL_hangs_444 : decode cL_hangs 444 = .ok (.if_icmp .ne 91, 3) := by decide +kernel
theorem dL_hangs_447 : decode cL_hangs 447 = .ok (.aload_n 0, 1) := by decide +kernel
theorem dL_hangs_448 : decode cL_hangs 448 = .ok (.invokevirtual 191, 3) := by decide +kernel
theorem dL_hangs_451 : decode cL_hangs 451 = .ok (.ifCond .ne 7, 3) := by decide +kernel
theorem dL_hangs_454 : decode cL_hangs 454 = .ok (.iconst 1, 1) := by decide +kernel
theorem dL_hangs_455 : decode cL_hangs 455 = .ok (.goto 4, 3) := by decide +kernel
theorem dL_hangs_458 : decode cL_hangs 458 = .ok (.iconst 0, 1) := by decide +kernel
theorem dL_hangs_459 : decode cL_hangs 459 = .ok (.iload 7, 2) := by decide +kernel
theorem dL_hangs_461 : decode cL_hangs 461 = .ok (.if_icmp .ne 74, 3) := by decide +kernel
theorem dL_hangs_464 : decode cL_hangs 464 = .ok (.aload_n 0, 1) := by decide +kernel
theorem dL_hangs_465 : decode cL_hangs 465 = .ok (.invokevirtual 197, 3) := by decide +kernel
theorem dL_hangs_468 : decode cL_hangs 468 = .ok (.ifCond .lt 7, 3) := by decide +kernel
theorem dL_hangs_471 : decode cL_hangs 471 = .ok (.iconst 1, 1) := by decide +kernel
theorem dL_hangs_472 : decode cL_hangs 472 = .ok (.goto 4, 3) := by decide +kernel
theorem dL_hangs_475 : decode cL_hangs 475 = .ok (.iconst 0, 1) := by decide +kernel
theorem dL_hangs_476 : decode cL_hangs 476 = .ok (.iload 7, 2) := by decide +kernel
theorem dL_hangs_478 : decode cL_hangs 478 = .ok (.if_icmp .ne 57, 3) := by decide +kernel
theorem dL_hangs_481 : decode cL_hangs 481 = .ok (.aload_n 0, 1) := by decide +kernel
theorem dL_hangs_482 : decode cL_hangs 482 = .ok (.invokevirtual 220, 3) := by decide +kernel
theorem dL_hangs_485 : decode cL_hangs 485 = .ok (.ifCond .ne 7, 3) := by decide +kernel
theorem dL_hangs_488 : decode cL_hangs 488 = .ok (.iconst 1, 1) := by decide +kernel
theorem dL_hangs_489 : decode cL_hangs 489 = .ok (.goto 4, 3) := by decide +kernel
theorem dL_hangs_492 : decode cL_hangs 492 = .ok (.iconst 0, 1) := by decide +kernel
theorem dL_hangs_493 : decode cL_hangs 493 = .ok (.iload 7, 2) := by decide +kernel
theorem dL_hangs_495 : decode cL_hangs 495 = .ok (.if_icmp .ne 40, 3) := by decide +kernel
theorem dL_hangs_498 : decode cL_hangs 498 = .ok (.aload_n 0, 1) := by decide +kernel
theorem dL_hangs_499 : decode cL_hangs 499 = .ok (.invokevirtual 197, 3) := by decide +kernel
theorem dL_hangs_502 : decode cL_hangs 502 = .ok (.ifCond .ne 7, 3) := by decide +kernel
theorem dL_hangs_505 : decode cL_hangs 505 = .ok (.iconst 1, 1) := by decide +kernel
theorem dL_hangs_506 : decode cL_hangs 506 = .ok (.goto 4, 3) := by decide +kernel
theorem dL_hangs_509 : decode cL_hangs 509 = .ok (.iconst 0, 1) := by decide +kernel
theorem dL_hangs_510 : decode cL_hangs 510 = .ok (.iload_n 3, 1) := by decide +kernel
theorem dL_hangs_511 : decode cL_hangs 511 = .ok (.ifCond .ne 7, 3) := by decide +kernel
theorem dL_hangs_514 : decode cL_hangs 514 = .ok (.iconst 1, 1) := by decide +kernel
theorem dL_hangs_515 : decode cL_hangs 515 = .ok (.goto 4, 3) := by decide +kernel
theorem dL_hangs_518 : decode cL_hangs 518 = .ok (.iconst 0, 1) := by decide +kernel
theorem dL_hangs_519 : decode cL_hangs 519 = .ok (.if_icmp .ne 16, 3) := by decide +kernel
theorem dL_hangs_522 : decode cL_hangs 522 = .ok (.aload_n 0, 1) := by decide +kernel
theorem dL_hangs_523 : decode cL_hangs 523 = .ok (.invokevirtual 220, 3) := by decide +kernel
theorem dL_hangs_526 : decode cL_hangs 526 = .ok (.iload 4, 2) := by decide +kernel
theorem dL_hangs_528 : decode cL_hangs 528 = .ok (.if_icmp .gt 7, 3) := by decide +kernel
theorem dL_hangs_531 : decode cL_hangs 531 = .ok (.iconst 1, 1) := by decide +kernel
theorem dL_hangs_532 : decode cL_hangs 532 = .ok (.goto 4, 3) := by decide +kernel
theorem dL_hangs_535 : decode cL_hangs 535 = .ok (.iconst 0, 1) := by decide +kernel
theorem dL_hangs_536 : decode cL_hangs 536 = .ok (.istore 5, 2) := by decide +kernel
theorem dL_hangs_538 : decode cL_hangs 538 = .ok (.iload 5, 2) := by decide +kernel
theorem dL_hangs_540 : decode cL_hangs 540 = .ok (.ifCond .eq 48, 3) := by decide +kernel
theorem dL_hangs_543 : decode cL_hangs 543 = .ok (.iload 8, 2) := by decide +kernel
theorem dL_hangs_545 : decode cL_hangs 545 = .ok (.ifCond .lt 39, 3) := by decide +kernel
theorem dL_hangs_548 : decode cL_hangs 548 = .ok (.aload_n 0, 1) := by decide +kernel
theorem dL_hangs_549 : decode cL_hangs 549 = .ok (.iload 8, 2) := by decide +kernel
theorem dL_hangs_551 : decode cL_hangs 551 = .ok (.invokestatic 203, 3) := by decide +kernel
theorem dL_hangs_554 : decode cL_hangs 554 = .ok (.ifCond .ne 34, 3) := by decide +kernel
theorem dL_hangs_557 : decode cL_hangs 557 = .ok (.aload_n 0, 1) := by decide +kernel
theorem dL_hangs_558 : decode cL_hangs 558 = .ok (.aload_n 0, 1) := by decide +kernel
theorem dL_hangs_559 : decode cL_hangs 559 = .ok (.invokevirtual 214, 3) := by decide +kernel
theorem dL_hangs_562 : decode cL_hangs 562 = .ok (.invokestatic 203, 3) := by decide +kernel
theorem dL_hangs_565 : decode cL_hangs 565 = .ok (.ifCond .ne 23, 3) := by decide +kernel
theorem dL_hangs_568 : decode cL_hangs 568 = .ok (.aload_n 0, 1) := by decide +kernel
theorem dL_hangs_569 : decode cL_hangs 569 = .ok (.iload_n 2, 1) := by decide +kernel
theorem dL_hangs_570 : decode cL_hangs 570 = .ok (.aload_n 0, 1) := by decide +kernel
theorem dL_hangs_571 : decode cL_hangs 571 = .ok (.invokevirtual 191, 3) := by decide +kernel
theorem dL_hangs_574 : decode cL_hangs 574 = .ok (.iconst (-1), 1) := by decide +kernel
theorem dL_hangs_575 : decode cL_hangs 575 = .ok (.ixor, 1) := by decide +kernel
theorem dL_hangs_576 : decode cL_hangs 576 = .ok (.iand, 1) := by decide +kernel
theorem dL_hangs_577 : decode cL_hangs 577 = .ok (.invokestatic 203, 3) := by decide +kernel
theorem dL_hangs_580 : decode cL_hangs 580 = .ok (.iconst 1, 1) := by decide +kernel
theorem dL_hangs_581 : decode cL_hangs 581 = .ok (.if_icmp .ne 7, 3) := by decide +kernel
theorem dL_hangs_584 : decode cL_hangs 584 = .ok (.iconst 1, 1) := by decide +kernel
theorem dL_hangs_585 : decode cL_hangs 585 = .ok (.goto 4, 3) := by decide +kernel
theorem dL_hangs_588 : decode cL_hangs 588 = .ok (.iconst 0, 1) := by decide +kernel
theorem dL_hangs_589 : decode cL_hangs 589 = .ok (.istore 5, 2) := by decide +kernel
theorem dL_hangs_591 : decode cL_hangs 591 = .ok (.aload_n 0, 1) := by decide +kernel
theorem dL_hangs_592 : decode cL_hangs 592 = .ok (.invokevirtual 223, 3) := by decide +kernel
theorem dL_hangs_595 : decode cL_hangs 595 = .ok (.istore 9, 2) := by decide +kernel
theorem dL_hangs_597 : decode cL_hangs 597 = .ok (.iconst 0, 1) := by decide +kernel
theorem dL_hangs_598 : decode cL_hangs 598 = .ok (.istore 10, 2) := by decide +kernel
theorem dL_hangs_600 : decode cL_hangs 600 = .ok (.iload 10, 2) := by decide +kernel
theorem dL_hangs_602 : decode cL_hangs 602 = .ok (.bipush 6, 2) := by decide +kernel
theorem dL_hangs_604 : decode cL_hangs 604 = .ok (.if_icmp .ge 104, 3) := by decide +kernel
theorem dL_hangs_607 : decode cL_hangs 607 = .ok (.aload_n 0, 1) := by decide +kernel
theorem dL_hangs_608 : decode cL_hangs 608 = .ok (.iload 10, 2) := by decide +kernel
theorem dL_hangs_610 : decode cL_hangs 610 = .ok (.invokestatic 226, 3) := by decide +kernel
theorem dL_hangs_613 : decode cL_hangs 613 = .ok (.istore 11, 2) := by decide +kernel
theorem dL_hangs_615 : decode cL_hangs 615 = .ok (.iload 5, 2) := by decide +kernel
theorem dL_hangs_617 : decode cL_hangs 617 = .ok (.ifCond .eq 82, 3) := by decide +kernel
theorem dL_hangs_620 : decode cL_hangs 620 = .ok (.iload 11, 2) := by decide +kernel
theorem dL_hangs_622 : decode cL_hangs 622 = .ok (.ifCond .lt 45, 3) := by decide +kernel
theorem dL_hangs_625 : decode cL_hangs 625 = .ok (.aload_n 0, 1) := by decide +kernel
theorem dL_hangs_626 : decode cL_hangs 626 = .ok (.iload 11, 2) := by decide +kernel
theorem dL_hangs_628 : decode cL_hangs 628 = .ok (.invokestatic 148, 3) := by decide +kernel
theorem dL_hangs_631 : decode cL_hangs 631 = .ok (.iconst 1, 1) := by decide +kernel
theorem dL_hangs_632 : decode cL_hangs 632 = .ok (.if_icmp .ne 67, 3) := by decide +kernel
theorem dL_hangs_635 : decode cL_hangs 635 = .ok (.aload_n 0, 1) := by decide +kernel
theorem dL_hangs_636 : decode cL_hangs 636 = .ok (.iload 11, 2) := by decide +kernel
theorem dL_hangs_638 : decode cL_hangs 638 = .ok (.aload_n 0, 1) := by decide +kernel
theorem dL_hangs_639 : decode cL_hangs 639 = .ok (.invokevirtual 131, 3) := by decide +kernel
theorem dL_hangs_642 : decode cL_hangs 642 = .ok (.invokestatic 165, 3) := by decide +kernel
theorem dL_hangs_645 : decode cL_hangs 645 = .ok (.iconst 1, 1) := by decide +kernel
theorem dL_hangs_646 : decode cL_hangs 646 = .ok (.if_icmp .ne 53, 3) := by decide +kernel
theorem dL_hangs_649 : decode cL_hangs 649 = .ok (.aload_n 0, 1) := by decide +kernel
theorem dL_hangs_650 : decode cL_hangs 650 = .ok (.iload 11, 2) := by decide +kernel
theorem dL_hangs_652 : decode cL_hangs 652 = .ok (.aload_n 0, 1) := by decide +kernel
theorem dL_hangs_653 : decode cL_hangs 653 = .ok (.invokevirtual 131, 3) := by decide +kernel
theorem dL_hangs_656 : decode cL_hangs 656 = .ok (.iconst 1, 1) := by decide +kernel
theorem dL_hangs_657 : decode cL_hangs 657 = .ok (.iload 10, 2) := by decide +kernel
theorem dL_hangs_659 : decode cL_hangs 659 = .ok (.ishl, 1) := by decide +kernel
theorem dL_hangs_660 : decode cL_hangs 660 = .ok (.ixor, 1) := by decide +kernel
theorem dL_hangs_661 : decode cL_hangs 661 = .ok (.invokestatic 165, 3) := by decide +kernel
theorem dL_hangs_664 : decode cL_hangs 664 = .ok (.ifCond .ne 35, 3) := by decide +kernel
theorem dL_hangs_667 : decode cL_hangs 667 = .ok (.aload_n 0, 1) := by decide +kernel
theorem dL_hangs_668 : decode cL_hangs 668 = .ok (.iload 10, 2) := by decide +kernel
theorem dL_hangs_670 : decode cL_hangs 670 = .ok (.invokestatic 229, 3) := by decide +kernel
theorem dL_hangs_673 : decode cL_hangs 673 = .ok (.iconst (-1), 1) := by decide +kernel
theorem dL_hangs_674 : decode cL_hangs 674 = .ok (.if_icmp .ne 7, 3) := by decide +kernel
theorem dL_hangs_677 : decode cL_hangs 677 = .ok (.iconst 1, 1) := by decide +kernel
theorem dL_hangs_678 : decode cL_hangs 678 = .ok (.goto 4, 3) := by decide +kernel
theorem dL_hangs_681 : decode cL_hangs 681 = .ok (.iconst 0, 1) := by decide +kernel
theorem dL_hangs_682 : decode cL_hangs 682 = .ok (.iload 7, 2) := by decide +kernel
theorem dL_hangs_684 : decode cL_hangs 684 = .ok (.ifCond .ne 7, 3) := by decide +kernel
theorem dL_hangs_687 : decode cL_hangs 687 = .ok (.iconst 1, 1) := by decide +kernel
theorem dL_hangs_688 : decode cL_hangs 688 = .ok (.goto 4, 3) := by decide +kernel
theorem dL_hangs_691 : decode cL_hangs 691 = .ok (.iconst 0, 1) := by decide +kernel
theorem dL_hangs_692 : decode cL_hangs 692 = .ok (.if_icmp .ne 7, 3) := by decide +kernel
theorem dL_hangs_695 : decode cL_hangs 695 = .ok (.iconst 1, 1) := by decide +kernel
theorem dL_hangs_696 : decode cL_hangs 696 = .ok (.goto 4, 3) := by decide +kernel
theorem dL_hangs_699 : decode cL_hangs 699 = .ok (.iconst 0, 1) := by decide +kernel
theorem dL_hangs_700 : decode cL_hangs 700 = .ok (.istore 5, 2) := by decide +kernel
theorem dL_hangs_702 : decode cL_hangs 702 = .ok (.iinc 10 1, 3) := by decide +kernel
theorem dL_hangs_705 : decode cL_hangs 705 = .ok (.goto (-105), 3) := by decide +kernel
theorem dL_hangs_708 : decode cL_hangs 708 = .ok (.iload 5, 2) := by decide +kernel
theorem dL_hangs_710 : decode cL_hangs 710 = .ok (.ifCond .eq 26, 3) := by decide +kernel
theorem dL_hangs_713 : decode cL_hangs 713 = .ok (.iload 9, 2) := by decide +kernel
theorem dL_hangs_715 : decode cL_hangs 715 = .ok (.ifCond .lt 17, 3) := by decide +kernel
theorem dL_hangs_718 : decode cL_hangs 718 = .ok (.aload_n 0, 1) := by decide +kernel
theorem dL_hangs_719 : decode cL_hangs 719 = .ok (.iload 9, 2) := by decide +kernel
theorem dL_hangs_721 : decode cL_hangs 721 = .ok (.invokestatic 226, 3) := by decide +kernel
theorem dL_hangs_724 : decode cL_hangs 724 = .ok (.ifCond .ge 12, 3) := by decide +kernel
theorem dL_hangs_727 : decode cL_hangs 727 = .ok (.iload 4, 2) := by decide +kernel
theorem dL_hangs_729 : decode cL_hangs 729 = .ok (.ifCond .le 7, 3) := by decide +kernel
theorem dL_hangs_732 : decode cL_hangs 732 = .ok (.iconst 1, 1) := by decide +kernel
theorem dL_hangs_733 : decode cL_hangs 733 = .ok (.goto 4, 3) := by decide +kernel
theorem dL_hangs_736 : decode cL_hangs 736 = .ok (.iconst 0, 1) := by decide +kernel
theorem dL_hangs_737 : decode cL_hangs 737 = .ok (.ireturn, 1) := by decide +kernel
theorem dL_law_0 : decode cL_law 0 = .ok (.new 10, 3) := by decide +kernel
theorem dL_law_3 : decode cL_law 3 = .ok (.dup, 1) := by decide +kernel
theorem dL_law_4 : decode cL_law 4 = .ok (.invokespecial 231, 3) := by decide +kernel
theorem dL_law_7 : decode cL_law 7 = .ok (.astore_n 1, 1) := by decide +kernel
theorem dL_law_8 : decode cL_law 8 = .ok (.aload_n 1, 1) := by decide +kernel
theorem dL_law_9 : decode cL_law 9 = .ok (.invokestatic 232, 3) := by decide +kernel
theorem dL_law_12 : decode cL_law 12 = .ok (.ldc 17, 2) := by decide +kernel
theorem dL_law_14 : decode cL_law 14 = .ok (.if_icmp .ne 24, 3) := by decide +kernel
theorem dL_law_17 : decode cL_law 17 = .ok (.aload_n 1, 1) := by decide +kernel
theorem dL_law_18 : decode cL_law 18 = .ok (.invokestatic 235, 3) := by decide +kernel
theorem dL_law_21 : decode cL_law 21 = .ok (.ldc 17, 2) := by decide +kernel
theorem dL_law_23 : decode cL_law 23 = .ok (.if_icmp .ne 15, 3) := by decide +kernel
theorem dL_law_26 : decode cL_law 26 = .ok (.aload_n 1, 1) := by decide +kernel
theorem dL_law_27 : decode cL_law 27 = .ok (.iconst 0, 1) := by decide +kernel
theorem dL_law_28 : decode cL_law 28 = .ok (.invokestatic 238, 3) := by decide +kernel
theorem dL_law_31 : decode cL_law 31 = .ok (.ifCond .eq 7, 3) := by decide +kernel
theorem dL_law_34 : decode cL_law 34 = .ok (.iconst 1, 1) := by decide +kernel
theorem dL_law_35 : decode cL_law 35 = .ok (.goto 4, 3) := by decide +kernel
theorem dL_law_38 : decode cL_law 38 = .ok (.iconst 0, 1) := by decide +kernel
theorem dL_law_39 : decode cL_law 39 = .ok (.istore_n 2, 1) := by decide +kernel
theorem dL_law_40 : decode cL_law 40 = .ok (.iconst 0, 1) := by decide +kernel
theorem dL_law_41 : decode cL_law 41 = .ok (.istore_n 3, 1) := by decide +kernel
theorem dL_law_42 : decode cL_law 42 = .ok (.iload_n 3, 1) := by decide +kernel
theorem dL_law_43 : decode cL_law 43 = .ok (.bipush 60, 2) := by decide +kernel
theorem dL_law_45 : decode cL_law 45 = .ok (.if_icmp .ge 179, 3) := by decide +kernel
theorem dL_law_48 : decode cL_law 48 = .ok (.iload_n 2, 1) := by decide +kernel
theorem dL_law_49 : decode cL_law 49 = .ok (.ifCond .eq 175, 3) := by decide +kernel
theorem dL_law_52 : decode cL_law 52 = .ok (.iload_n 3, 1) := by decide +kernel
theorem dL_law_53 : decode cL_law 53 = .ok (.iconst 5, 1) := by decide +kernel
theorem dL_law_54 : decode cL_law 54 = .ok (.if_icmp .ge 21, 3) := by decide +kernel
theorem dL_law_57 : decode cL_law 57 = .ok (.aload_n 0, 1) := by decide +kernel
theorem dL_law_58 : decode cL_law 58 = .ok (.iload_n 3, 1) := by decide +kernel
theorem dL_law_59 : decode cL_law 59 = .ok (.invokestatic 242, 3) := by decide +kernel
theorem dL_law_62 : decode cL_law 62 = .ok (.bipush 16, 2) := by decide +kernel
theorem dL_law_64 : decode cL_law 64 = .ok (.idiv, 1) := by decide +kernel
theorem dL_law_65 : decode cL_law 65 = .ok (.bipush 16, 2) := by decide +kernel
theorem dL_law_67 : decode cL_law 67 = .ok (.imul, 1) := by decide +kernel
theorem dL_law_68 : decode cL_law 68 = .ok (.iload_n 3, 1) := by decide +kernel
theorem dL_law_69 : decode cL_law 69 = .ok (.iconst 4, 1) := by decide +kernel
theorem dL_law_70 : decode cL_law 70 = .ok (.irem, 1) := by decide +kernel
theorem dL_law_71 : decode cL_law 71 = .ok (.iadd, 1) := by decide +kernel
theorem dL_law_72 : decode cL_law 72 = .ok (.goto 8, 3) := by decide +kernel
theorem dL_law_75 : decode cL_law 75 = .ok (.aload_n 0, 1) := by decide +kernel
theorem dL_law_76 : decode cL_law 76 = .ok (.iload_n 3, 1) := by decide +kernel
theorem dL_law_77 : decode cL_law 77 = .ok (.invokestatic 242, 3) := by decide +kernel
theorem dL_law_80 : decode cL_law 80 = .ok (.istore 4, 2) := by decide +kernel
theorem dL_law_82 : decode cL_law 82 = .ok (.aload_n 1, 1) := by decide +kernel
theorem dL_law_83 : decode cL_law 83 = .ok (.invokestatic 246, 3) := by decide +kernel
theorem dL_law_86 : decode cL_law 86 = .ok (.istore 5, 2) := by decide +kernel
theorem dL_law_88 : decode cL_law 88 = .ok (.aload_n 1, 1) := by decide +kernel
theorem dL_law_89 : decode cL_law 89 = .ok (.iload 4, 2) := by decide +kernel
theorem dL_law_91 : decode cL_law 91 = .ok (.invokestatic 249, 3) := by decide +kernel
theorem dL_law_94 : decode cL_law 94 = .ok (.istore 6, 2) := by decide +kernel
theorem dL_law_96 : decode cL_law 96 = .ok (.iload 6, 2) := by decide +kernel
theorem dL_law_98 : decode cL_law 98 = .ok (.ifCond .ge 21, 3) := by decide +kernel
theorem dL_law_101 : decode cL_law 101 = .ok (.aload_n 1, 1) := by decide +kernel
theorem dL_law_102 : decode cL_law 102 = .ok (.invokestatic 246, 3) := by decide +kernel
theorem dL_law_105 : decode cL_law 105 = .ok (.iload 5, 2) := by decide +kernel
theorem dL_law_107 : decode cL_law 107 = .ok (.if_icmp .ne 7, 3) := by decide +kernel
theorem dL_law_110 : decode cL_law 110 = .ok (.iconst 1, 1) := by decide +kernel
theorem dL_law_111 : decode cL_law 111 = .ok (.goto 4, 3) := by decide +kernel
theorem dL_law_114 : decode cL_law 114 = .ok (.iconst 0, 1) := by decide +kernel
theorem dL_law_115 : decode cL_law 115 = .ok (.istore_n 2, 1) := by decide +kernel
theorem dL_law_116 : decode cL_law 116 = .ok (.goto 102, 3) := by decide +kernel
theorem dL_law_119 : decode cL_law 119 = .ok (.iload 4, 2) := by decide +kernel
theorem dL_law_121 : decode cL_law 121 = .ok (.bipush 6, 2) := by decide +kernel
theorem dL_law_123 : decode cL_law 123 = .ok (.irem, 1) := by decide +kernel
theorem dL_law_124 : decode cL_law 124 = .ok (.ifCond .gt 15, 3) := by decide +kernel
theorem dL_law_127 : decode cL_law 127 = .ok (.aload_n 1, 1) := by decide +kernel
theorem dL_law_128 : decode cL_law 128 = .ok (.iload 4, 2) := by decide +kernel
theorem dL_law_130 : decode cL_law 130 = .ok (.bipush 64, 2) := by decide +kernel
theorem dL_law_132 : decode cL_law 132 = .ok (.idiv, 1) := by decide +kernel
theorem dL_law_133 : decode cL_law 133 = .ok (.invokestatic 238, 3) := by decide +kernel
theorem dL_law_136 : decode cL_law 136 = .ok (.ifCond .eq 7, 3) := by decide +kernel
theorem dL_law_139 : decode cL_law 139 = .ok (.iconst 1, 1) := by decide +kernel
theorem dL_law_140 : decode cL_law 140 = .ok (.goto 4, 3) := by decide +kernel
theorem dL_law_143 : decode cL_law 143 = .ok (.iconst 0, 1) := by decide +kernel
theorem dL_law_144 : decode cL_law 144 = .ok (.istore_n 2, 1) := by decide +kernel
theorem dL_law_145 : decode cL_law 145 = .ok (.iload_n 2, 1) := by decide +kernel
theorem dL_law_146 : decode cL_law 146 = .ok (.ifCond .eq 72, 3) := by decide +kernel
theorem dL_law_149 : decode cL_law 149 = .ok (.iload 4, 2) := by decide +kernel
theorem dL_law_151 : decode cL_law 151 = .ok (.bipush 7, 2) := by decide +kernel
theorem dL_law_153 : decode cL_law 153 = .ok (.idiv, 1) := by decide +kernel
theorem dL_law_154 : decode cL_law 154 = .ok (.iconst 4, 1) := by decide +kernel
theorem dL_law_155 : decode cL_law 155 = .ok (.irem, 1) := by decide +kernel
theorem dL_law_156 : decode cL_law 156 = .ok (.ifCond .ne 62, 3) := by decide +kernel
theorem dL_law_159 : decode cL_law 159 = .ok (.aload_n 1, 1) := by decide +kernel
theorem dL_law_160 : decode cL_law 160 = .ok (.invokestatic 246, 3) := by decide +kernel
theorem dL_law_163 : decode cL_law 163 = .ok (.istore 7, 2) := by decide +kernel
theorem dL_law_165 : decode cL_law 165 = .ok (.aload_n 1, 1) := by decide +kernel
theorem dL_law_166 : decode cL_law 166 = .ok (.invokevirtual 252, 3) := by decide +kernel
theorem dL_law_169 : decode cL_law 169 = .ok (.aload_n 1, 1) := by decide +kernel
theorem dL_law_170 : decode cL_law 170 = .ok (.invokevirtual 134, 3) := by decide +kernel
theorem dL_law_173 : decode cL_law 173 = .ok (.if_icmp .ne 43, 3) := by decide +kernel
theorem dL_law_176 : decode cL_law 176 = .ok (.aload_n 1, 1) := by decide +kernel
theorem dL_law_177 : decode cL_law 177 = .ok (.invokestatic 232, 3) := by decide +kernel
theorem dL_law_180 : decode cL_law 180 = .ok (.ifCond .lt 36, 3) := by decide +kernel
theorem dL_law_183 : decode cL_law 183 = .ok (.aload_n 1, 1) := by decide +kernel
theorem dL_law_184 : decode cL_law 184 = .ok (.invokestatic 246, 3) := by decide +kernel
theorem dL_law_187 : decode cL_law 187 = .ok (.iload 5, 2) := by decide +kernel
theorem dL_law_189 : decode cL_law 189 = .ok (.if_icmp .ne 27, 3) := by decide +kernel
theorem dL_law_192 : decode cL_law 192 = .ok (.aload_n 1, 1) := by decide +kernel
theorem dL_law_193 : decode cL_law 193 = .ok (.invokestatic 235, 3) := by decide +kernel
theorem dL_law_196 : decode cL_law 196 = .ok (.aload_n 1, 1) := by decide +kernel
theorem dL_law_197 : decode cL_law 197 = .ok (.invokevirtual 134, 3) := by decide +kernel
theorem dL_law_200 : decode cL_law 200 = .ok (.if_icmp .ne 16, 3) := by decide +kernel
theorem dL_law_203 : decode cL_law 203 = .ok (.aload_n 1, 1) := by decide +kernel
theorem dL_law_204 : decode cL_law 204 = .ok (.invokestatic 246, 3) := by decide +kernel
theorem dL_law_207 : decode cL_law 207 = .ok (.iload 7, 2) := by decide +kernel
theorem dL_law_209 : decode cL_law 209 = .ok (.if_icmp .ne 7, 3) := by decide +kernel
theorem dL_law_212 : decode cL_law 212 = .ok (.iconst 1, 1) := by decide +kernel
theorem dL_law_213 : decode cL_law 213 = .ok (.goto 4, 3) := by decide +kernel
theorem dL_law_216 : decode cL_law 216 = .ok (.iconst 0, 1) := by decide +kernel
theorem dL_law_217 : decode cL_law 217 = .ok (.istore_n 2, 1) := by decide +kernel
theorem dL_law_218 : decode cL_law 218 = .ok (.iinc 3 1, 3) := by decide +kernel
theorem dL_law_221 : decode cL_law 221 = .ok (.goto (-179), 3) := by decide +kernel
theorem dL_law_224 : decode cL_law 224 = .ok (.iload_n 2, 1) := by decide +kernel
theorem dL_law_225 : decode cL_law 225 = .ok (.ifCond .eq 17, 3) := by decide +kernel
theorem dL_law_228 : decode cL_law 228 = .ok (.aload_n 1, 1) := by decide +kernel
theorem dL_law_229 : decode cL_law 229 = .ok (.sipush 1023, 3) := by decide +kernel
theorem dL_law_232 : decode cL_law 232 = .ok (.invokestatic 238, 3) := by decide +kernel
theorem dL_law_235 : decode cL_law 235 = .ok (.ifCond .eq 7, 3) := by decide +kernel
theorem dL_law_238 : decode cL_law 238 = .ok (.iconst 1, 1) := by decide +kernel
theorem dL_law_239 : decode cL_law 239 = .ok (.goto 4, 3) := by decide +kernel
theorem dL_law_242 : decode cL_law 242 = .ok (.iconst 0, 1) := by decide +kernel
theorem dL_law_243 : decode cL_law 243 = .ok (.ireturn, 1) := by decide +kernel
