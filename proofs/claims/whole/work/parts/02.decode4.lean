theorem d_La_law_456 : decode code 456 = .ok (.bipush 32, 2) := by decide +kernel
theorem d_La_law_458 : decode code 458 = .ok (.lshl, 1) := by decide +kernel
theorem d_La_law_459 : decode code 459 = .ok (.aload_n 0, 1) := by decide +kernel
theorem d_La_law_460 : decode code 460 = .ok (.iload_n 3, 1) := by decide +kernel
theorem d_La_law_461 : decode code 461 = .ok (.iconst 2, 1) := by decide +kernel
theorem d_La_law_462 : decode code 462 = .ok (.iadd, 1) := by decide +kernel
theorem d_La_law_463 : decode code 463 = .ok (.iaload, 1) := by decide +kernel
theorem d_La_law_464 : decode code 464 = .ok (.i2l, 1) := by decide +kernel
theorem d_La_law_465 : decode code 465 = .ok (.ldc2_w 21, 3) := by decide +kernel
theorem d_La_law_468 : decode code 468 = .ok (.land, 1) := by decide +kernel
theorem d_La_law_469 : decode code 469 = .ok (.lor, 1) := by decide +kernel
theorem d_La_law_470 : decode code 470 = .ok (.aload_n 0, 1) := by decide +kernel
theorem d_La_law_471 : decode code 471 = .ok (.iload_n 3, 1) := by decide +kernel
theorem d_La_law_472 : decode code 472 = .ok (.iconst 3, 1) := by decide +kernel
theorem d_La_law_473 : decode code 473 = .ok (.iadd, 1) := by decide +kernel
theorem d_La_law_474 : decode code 474 = .ok (.iaload, 1) := by decide +kernel
theorem d_La_law_475 : decode code 475 = .ok (.invokevirtual 83, 3) := by decide +kernel
theorem d_La_law_478 : decode code 478 = .ok (.aload_n 2, 1) := by decide +kernel
theorem d_La_law_479 : decode code 479 = .ok (.aload_n 0, 1) := by decide +kernel
theorem d_La_law_480 : decode code 480 = .ok (.iload_n 3, 1) := by decide +kernel
theorem d_La_law_481 : decode code 481 = .ok (.iconst 1, 1) := by decide +kernel
theorem d_La_law_482 : decode code 482 = .ok (.iadd, 1) := by decide +kernel
theorem d_La_law_483 : decode code 483 = .ok (.iaload, 1) := by decide +kernel
theorem d_La_law_484 : decode code 484 = .ok (.i2l, 1) := by decide +kernel
theorem d_La_law_485 : decode code 485 = .ok (.bipush 32, 2) := by decide +kernel
theorem d_La_law_487 : decode code 487 = .ok (.lshl, 1) := by decide +kernel
theorem d_La_law_488 : decode code 488 = .ok (.aload_n 0, 1) := by decide +kernel
theorem d_La_law_489 : decode code 489 = .ok (.iload_n 3, 1) := by decide +kernel
theorem d_La_law_490 : decode code 490 = .ok (.iconst 2, 1) := by decide +kernel
theorem d_La_law_491 : decode code 491 = .ok (.iadd, 1) := by decide +kernel
theorem d_La_law_492 : decode code 492 = .ok (.iaload, 1) := by decide +kernel
theorem d_La_law_493 : decode code 493 = .ok (.i2l, 1) := by decide +kernel
theorem d_La_law_494 : decode code 494 = .ok (.ldc2_w 21, 3) := by decide +kernel
theorem d_La_law_497 : decode code 497 = .ok (.land, 1) := by decide +kernel
theorem d_La_law_498 : decode code 498 = .ok (.lor, 1) := by decide +kernel
theorem d_La_law_499 : decode code 499 = .ok (.aload_n 0, 1) := by decide +kernel
theorem d_La_law_500 : decode code 500 = .ok (.iload_n 3, 1) := by decide +kernel
theorem d_La_law_501 : decode code 501 = .ok (.iconst 3, 1) := by decide +kernel
theorem d_La_law_502 : decode code 502 = .ok (.iadd, 1) := by decide +kernel
theorem d_La_law_503 : decode code 503 = .ok (.iaload, 1) := by decide +kernel
theorem d_La_law_504 : decode code 504 = .ok (.invokevirtual 87, 3) := by decide +kernel
theorem d_La_law_507 : decode code 507 = .ok (.if_icmp .eq 141, 3) := by decide +kernel
theorem d_La_law_510 : decode code 510 = .ok (.iconst 0, 1) := by decide +kernel
theorem d_La_law_511 : decode code 511 = .ok (.ireturn, 1) := by decide +kernel
theorem d_La_law_512 : decode code 512 = .ok (.aload_n 1, 1) := by decide +kernel
theorem d_La_law_513 : decode code 513 = .ok (.aload_n 0, 1) := by decide +kernel
theorem d_La_law_514 : decode code 514 = .ok (.iload_n 3, 1) := by decide +kernel
theorem d_La_law_515 : decode code 515 = .ok (.iconst 1, 1) := by decide +kernel
theorem d_La_law_516 : decode code 516 = .ok (.iadd, 1) := by decide +kernel
theorem d_La_law_517 : decode code 517 = .ok (.iaload, 1) := by decide +kernel
theorem d_La_law_518 : decode code 518 = .ok (.i2l, 1) := by decide +kernel
theorem d_La_law_519 : decode code 519 = .ok (.bipush 32, 2) := by decide +kernel
theorem d_La_law_521 : decode code 521 = .ok (.lshl, 1) := by decide +kernel
theorem d_La_law_522 : decode code 522 = .ok (.aload_n 0, 1) := by decide +kernel
theorem d_La_law_523 : decode code 523 = .ok (.iload_n 3, 1) := by decide +kernel
theorem d_La_law_524 : decode code 524 = .ok (.iconst 2, 1) := by decide +kernel
theorem d_La_law_525 : decode code 525 = .ok (.iadd, 1) := by decide +kernel
theorem d_La_law_526 : decode code 526 = .ok (.iaload, 1) := by decide +kernel
theorem d_La_law_527 : decode code 527 = .ok (.i2l, 1) := by decide +kernel
theorem d_La_law_528 : decode code 528 = .ok (.ldc2_w 21, 3) := by decide +kernel
theorem d_La_law_531 : decode code 531 = .ok (.land, 1) := by decide +kernel
theorem d_La_law_532 : decode code 532 = .ok (.lor, 1) := by decide +kernel
theorem d_La_law_533 : decode code 533 = .ok (.aload_n 0, 1) := by decide +kernel
theorem d_La_law_534 : decode code 534 = .ok (.iload_n 3, 1) := by decide +kernel
theorem d_La_law_535 : decode code 535 = .ok (.iconst 3, 1) := by decide +kernel
theorem d_La_law_536 : decode code 536 = .ok (.iadd, 1) := by decide +kernel
theorem d_La_law_537 : decode code 537 = .ok (.iaload, 1) := by decide +kernel
theorem d_La_law_538 : decode code 538 = .ok (.invokevirtual 88, 3) := by decide +kernel
theorem d_La_law_541 : decode code 541 = .ok (.aload_n 2, 1) := by decide +kernel
theorem d_La_law_542 : decode code 542 = .ok (.aload_n 0, 1) := by decide +kernel
theorem d_La_law_543 : decode code 543 = .ok (.iload_n 3, 1) := by decide +kernel
theorem d_La_law_544 : decode code 544 = .ok (.iconst 1, 1) := by decide +kernel
theorem d_La_law_545 : decode code 545 = .ok (.iadd, 1) := by decide +kernel
theorem d_La_law_546 : decode code 546 = .ok (.iaload, 1) := by decide +kernel
theorem d_La_law_547 : decode code 547 = .ok (.i2l, 1) := by decide +kernel
theorem d_La_law_548 : decode code 548 = .ok (.bipush 32, 2) := by decide +kernel
theorem d_La_law_550 : decode code 550 = .ok (.lshl, 1) := by decide +kernel
theorem d_La_law_551 : decode code 551 = .ok (.aload_n 0, 1) := by decide +kernel
theorem d_La_law_552 : decode code 552 = .ok (.iload_n 3, 1) := by decide +kernel
theorem d_La_law_553 : decode code 553 = .ok (.iconst 2, 1) := by decide +kernel
theorem d_La_law_554 : decode code 554 = .ok (.iadd, 1) := by decide +kernel
theorem d_La_law_555 : decode code 555 = .ok (.iaload, 1) := by decide +kernel
theorem d_La_law_556 : decode code 556 = .ok (.i2l, 1) := by decide +kernel
theorem d_La_law_557 : decode code 557 = .ok (.ldc2_w 21, 3) := by decide +kernel
theorem d_La_law_560 : decode code 560 = .ok (.land, 1) := by decide +kernel
theorem d_La_law_561 : decode code 561 = .ok (.lor, 1) := by decide +kernel
theorem d_La_law_562 : decode code 562 = .ok (.aload_n 0, 1) := by decide +kernel
theorem d_La_law_563 : decode code 563 = .ok (.iload_n 3, 1) := by decide +kernel
theorem d_La_law_564 : decode code 564 = .ok (.iconst 3, 1) := by decide +kernel
theorem d_La_law_565 : decode code 565 = .ok (.iadd, 1) := by decide +kernel
theorem d_La_law_566 : decode code 566 = .ok (.iaload, 1) := by decide +kernel
theorem d_La_law_567 : decode code 567 = .ok (.invokevirtual 91, 3) := by decide +kernel
theorem d_La_law_570 : decode code 570 = .ok (.if_icmp .eq 78, 3) := by decide +kernel
theorem d_La_law_573 : decode code 573 = .ok (.iconst 0, 1) := by decide +kernel
theorem d_La_law_574 : decode code 574 = .ok (.ireturn, 1) := by decide +kernel
theorem d_La_law_575 : decode code 575 = .ok (.aload_n 1, 1) := by decide +kernel
theorem d_La_law_576 : decode code 576 = .ok (.aload_n 0, 1) := by decide +kernel
theorem d_La_law_577 : decode code 577 = .ok (.iload_n 3, 1) := by decide +kernel
theorem d_La_law_578 : decode code 578 = .ok (.iconst 1, 1) := by decide +kernel
theorem d_La_law_579 : decode code 579 = .ok (.iadd, 1) := by decide +kernel
theorem d_La_law_580 : decode code 580 = .ok (.iaload, 1) := by decide +kernel
theorem d_La_law_581 : decode code 581 = .ok (.i2l, 1) := by decide +kernel
theorem d_La_law_582 : decode code 582 = .ok (.bipush 32, 2) := by decide +kernel
theorem d_La_law_584 : decode code 584 = .ok (.lshl, 1) := by decide +kernel
theorem d_La_law_585 : decode code 585 = .ok (.aload_n 0, 1) := by decide +kernel
theorem d_La_law_586 : decode code 586 = .ok (.iload_n 3, 1) := by decide +kernel
theorem d_La_law_587 : decode code 587 = .ok (.iconst 2, 1) := by decide +kernel
theorem d_La_law_588 : decode code 588 = .ok (.iadd, 1) := by decide +kernel
theorem d_La_law_589 : decode code 589 = .ok (.iaload, 1) := by decide +kernel
theorem d_La_law_590 : decode code 590 = .ok (.i2l, 1) := by decide +kernel
theorem d_La_law_591 : decode code 591 = .ok (.ldc2_w 21, 3) := by decide +kernel
theorem d_La_law_594 : decode code 594 = .ok (.land, 1) := by decide +kernel
theorem d_La_law_595 : decode code 595 = .ok (.lor, 1) := by decide +kernel
theorem d_La_law_596 : decode code 596 = .ok (.aload_n 0, 1) := by decide +kernel
theorem d_La_law_597 : decode code 597 = .ok (.iload_n 3, 1) := by decide +kernel
theorem d_La_law_598 : decode code 598 = .ok (.iconst 3, 1) := by decide +kernel
theorem d_La_law_599 : decode code 599 = .ok (.iadd, 1) := by decide +kernel
theorem d_La_law_600 : decode code 600 = .ok (.iaload, 1) := by decide +kernel
theorem d_La_law_601 : decode code 601 = .ok (.aload_n 0, 1) := by decide +kernel
theorem d_La_law_602 : decode code 602 = .ok (.iload_n 3, 1) := by decide +kernel
theorem d_La_law_603 : decode code 603 = .ok (.iconst 4, 1) := by decide +kernel
theorem d_La_law_604 : decode code 604 = .ok (.iadd, 1) := by decide +kernel
theorem d_La_law_605 : decode code 605 = .ok (.iaload, 1) := by decide +kernel
theorem d_La_law_606 : decode code 606 = .ok (.invokevirtual 92, 3) := by decide +kernel
theorem d_La_law_609 : decode code 609 = .ok (.aload_n 2, 1) := by decide +kernel
theorem d_La_law_610 : decode code 610 = .ok (.aload_n 0, 1) := by decide +kernel
theorem d_La_law_611 : decode code 611 = .ok (.iload_n 3, 1) := by decide +kernel
theorem d_La_law_612 : decode code 612 = .ok (.iconst 1, 1) := by decide +kernel
theorem d_La_law_613 : decode code 613 = .ok (.iadd, 1) := by decide +kernel
theorem d_La_law_614 : decode code 614 = .ok (.iaload, 1) := by decide +kernel
theorem d_La_law_615 : decode code 615 = .ok (.i2l, 1) := by decide +kernel
theorem d_La_law_616 : decode code 616 = .ok (.bipush 32, 2) := by decide +kernel
theorem d_La_law_618 : decode code 618 = .ok (.lshl, 1) := by decide +kernel
theorem d_La_law_619 : decode code 619 = .ok (.aload_n 0, 1) := by decide +kernel
theorem d_La_law_620 : decode code 620 = .ok (.iload_n 3, 1) := by decide +kernel
theorem d_La_law_621 : decode code 621 = .ok (.iconst 2, 1) := by decide +kernel
theorem d_La_law_622 : decode code 622 = .ok (.iadd, 1) := by decide +kernel
theorem d_La_law_623 : decode code 623 = .ok (.iaload, 1) := by decide +kernel
theorem d_La_law_624 : decode code 624 = .ok (.i2l, 1) := by decide +kernel
theorem d_La_law_625 : decode code 625 = .ok (.ldc2_w 21, 3) := by decide +kernel
theorem d_La_law_628 : decode code 628 = .ok (.land, 1) := by decide +kernel
theorem d_La_law_629 : decode code 629 = .ok (.lor, 1) := by decide +kernel
theorem d_La_law_630 : decode code 630 = .ok (.aload_n 0, 1) := by decide +kernel
theorem d_La_law_631 : decode code 631 = .ok (.iload_n 3, 1) := by decide +kernel
theorem d_La_law_632 : decode code 632 = .ok (.iconst 3, 1) := by decide +kernel
theorem d_La_law_633 : decode code 633 = .ok (.iadd, 1) := by decide +kernel
theorem d_La_law_634 : decode code 634 = .ok (.iaload, 1) := by decide +kernel
theorem d_La_law_635 : decode code 635 = .ok (.aload_n 0, 1) := by decide +kernel
theorem d_La_law_636 : decode code 636 = .ok (.iload_n 3, 1) := by decide +kernel
theorem d_La_law_637 : decode code 637 = .ok (.iconst 4, 1) := by decide +kernel
theorem d_La_law_638 : decode code 638 = .ok (.iadd, 1) := by decide +kernel
theorem d_La_law_639 : decode code 639 = .ok (.iaload, 1) := by decide +kernel
theorem d_La_law_640 : decode code 640 = .ok (.invokevirtual 96, 3) := by decide +kernel
theorem d_La_law_643 : decode code 643 = .ok (.if_icmp .eq 5, 3) := by decide +kernel
theorem d_La_law_646 : decode code 646 = .ok (.iconst 0, 1) := by decide +kernel
theorem d_La_law_647 : decode code 647 = .ok (.ireturn, 1) := by decide +kernel
theorem d_La_law_648 : decode code 648 = .ok (.iinc 3 5, 3) := by decide +kernel
theorem d_La_law_651 : decode code 651 = .ok (.goto (-623), 3) := by decide +kernel
theorem d_La_law_654 : decode code 654 = .ok (.iconst 1, 1) := by decide +kernel
theorem d_La_law_655 : decode code 655 = .ok (.ireturn, 1) := by decide +kernel
