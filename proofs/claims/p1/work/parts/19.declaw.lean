/-! the law's instructions, by program -/
theorem dL_446 : decode code 446 = .ok (.iconst 2, 1) := by decide +kernel
theorem dL_447 : decode code 447 = .ok (.iadd, 1) := by decide +kernel
theorem dL_448 : decode code 448 = .ok (.iaload, 1) := by decide +kernel
theorem dL_449 : decode code 449 = .ok (.invokevirtual 65, 3) := by decide +kernel
theorem dL_452 : decode code 452 = .ok (.aload_n 2, 1) := by decide +kernel
theorem dL_453 : decode code 453 = .ok (.aload_n 0, 1) := by decide +kernel
theorem dL_454 : decode code 454 = .ok (.iload_n 3, 1) := by decide +kernel
theorem dL_455 : decode code 455 = .ok (.iconst 1, 1) := by decide +kernel
theorem dL_456 : decode code 456 = .ok (.iadd, 1) := by decide +kernel
theorem dL_457 : decode code 457 = .ok (.iaload, 1) := by decide +kernel
theorem dL_458 : decode code 458 = .ok (.aload_n 0, 1) := by decide +kernel
theorem dL_459 : decode code 459 = .ok (.iload_n 3, 1) := by decide +kernel
theorem dL_460 : decode code 460 = .ok (.iconst 2, 1) := by decide +kernel
theorem dL_461 : decode code 461 = .ok (.iadd, 1) := by decide +kernel
theorem dL_462 : decode code 462 = .ok (.iaload, 1) := by decide +kernel
theorem dL_463 : decode code 463 = .ok (.invokevirtual 68, 3) := by decide +kernel
theorem dL_466 : decode code 466 = .ok (.if_icmp .eq 305, 3) := by decide +kernel
theorem dL_469 : decode code 469 = .ok (.iconst 0, 1) := by decide +kernel
theorem dL_470 : decode code 470 = .ok (.ireturn, 1) := by decide +kernel
theorem dL_471 : decode code 471 = .ok (.aload_n 1, 1) := by decide +kernel
theorem dL_472 : decode code 472 = .ok (.aload_n 0, 1) := by decide +kernel
theorem dL_473 : decode code 473 = .ok (.iload_n 3, 1) := by decide +kernel
theorem dL_474 : decode code 474 = .ok (.iconst 1, 1) := by decide +kernel
theorem dL_475 : decode code 475 = .ok (.iadd, 1) := by decide +kernel
theorem dL_476 : decode code 476 = .ok (.iaload, 1) := by decide +kernel
theorem dL_477 : decode code 477 = .ok (.invokevirtual 69, 3) := by decide +kernel
theorem dL_480 : decode code 480 = .ok (.aload_n 2, 1) := by decide +kernel
theorem dL_481 : decode code 481 = .ok (.aload_n 0, 1) := by decide +kernel
theorem dL_482 : decode code 482 = .ok (.iload_n 3, 1) := by decide +kernel
theorem dL_483 : decode code 483 = .ok (.iconst 1, 1) := by decide +kernel
theorem dL_484 : decode code 484 = .ok (.iadd, 1) := by decide +kernel
theorem dL_485 : decode code 485 = .ok (.iaload, 1) := by decide +kernel
theorem dL_486 : decode code 486 = .ok (.invokevirtual 72, 3) := by decide +kernel
theorem dL_489 : decode code 489 = .ok (.if_icmp .eq 282, 3) := by decide +kernel
theorem dL_492 : decode code 492 = .ok (.iconst 0, 1) := by decide +kernel
theorem dL_493 : decode code 493 = .ok (.ireturn, 1) := by decide +kernel
theorem dL_494 : decode code 494 = .ok (.aload_n 1, 1) := by decide +kernel
theorem dL_495 : decode code 495 = .ok (.aload_n 0, 1) := by decide +kernel
theorem dL_496 : decode code 496 = .ok (.iload_n 3, 1) := by decide +kernel
theorem dL_497 : decode code 497 = .ok (.iconst 1, 1) := by decide +kernel
theorem dL_498 : decode code 498 = .ok (.iadd, 1) := by decide +kernel
theorem dL_499 : decode code 499 = .ok (.iaload, 1) := by decide +kernel
theorem dL_500 : decode code 500 = .ok (.aload_n 0, 1) := by decide +kernel
theorem dL_501 : decode code 501 = .ok (.iload_n 3, 1) := by decide +kernel
theorem dL_502 : decode code 502 = .ok (.iconst 2, 1) := by decide +kernel
theorem dL_503 : decode code 503 = .ok (.iadd, 1) := by decide +kernel
theorem dL_504 : decode code 504 = .ok (.iaload, 1) := by decide +kernel
theorem dL_505 : decode code 505 = .ok (.invokevirtual 73, 3) := by decide +kernel
theorem dL_508 : decode code 508 = .ok (.aload_n 2, 1) := by decide +kernel
theorem dL_509 : decode code 509 = .ok (.aload_n 0, 1) := by decide +kernel
theorem dL_510 : decode code 510 = .ok (.iload_n 3, 1) := by decide +kernel
theorem dL_511 : decode code 511 = .ok (.iconst 1, 1) := by decide +kernel
theorem dL_512 : decode code 512 = .ok (.iadd, 1) := by decide +kernel
theorem dL_513 : decode code 513 = .ok (.iaload, 1) := by decide +kernel
theorem dL_514 : decode code 514 = .ok (.aload_n 0, 1) := by decide +kernel
theorem dL_515 : decode code 515 = .ok (.iload_n 3, 1) := by decide +kernel
theorem dL_516 : decode code 516 = .ok (.iconst 2, 1) := by decide +kernel
theorem dL_517 : decode code 517 = .ok (.iadd, 1) := by decide +kernel
theorem dL_518 : decode code 518 = .ok (.iaload, 1) := by decide +kernel
theorem dL_519 : decode code 519 = .ok (.invokevirtual 76, 3) := by decide +kernel
theorem dL_522 : decode code 522 = .ok (.if_icmp .eq 249, 3) := by decide +kernel
theorem dL_525 : decode code 525 = .ok (.iconst 0, 1) := by decide +kernel
theorem dL_526 : decode code 526 = .ok (.ireturn, 1) := by decide +kernel
theorem dL_527 : decode code 527 = .ok (.aload_n 1, 1) := by decide +kernel
theorem dL_528 : decode code 528 = .ok (.aload_n 0, 1) := by decide +kernel
theorem dL_529 : decode code 529 = .ok (.iload_n 3, 1) := by decide +kernel
theorem dL_530 : decode code 530 = .ok (.iconst 1, 1) := by decide +kernel
theorem dL_531 : decode code 531 = .ok (.iadd, 1) := by decide +kernel
theorem dL_532 : decode code 532 = .ok (.iaload, 1) := by decide +kernel
theorem dL_533 : decode code 533 = .ok (.invokevirtual 77, 3) := by decide +kernel
theorem dL_536 : decode code 536 = .ok (.aload_n 2, 1) := by decide +kernel
theorem dL_537 : decode code 537 = .ok (.aload_n 0, 1) := by decide +kernel
theorem dL_538 : decode code 538 = .ok (.iload_n 3, 1) := by decide +kernel
theorem dL_539 : decode code 539 = .ok (.iconst 1, 1) := by decide +kernel
theorem dL_540 : decode code 540 = .ok (.iadd, 1) := by decide +kernel
theorem dL_541 : decode code 541 = .ok (.iaload, 1) := by decide +kernel
theorem dL_542 : decode code 542 = .ok (.invokevirtual 80, 3) := by decide +kernel
theorem dL_545 : decode code 545 = .ok (.if_icmp .eq 226, 3) := by decide +kernel
theorem dL_548 : decode code 548 = .ok (.iconst 0, 1) := by decide +kernel
theorem dL_549 : decode code 549 = .ok (.ireturn, 1) := by decide +kernel
theorem dL_550 : decode code 550 = .ok (.aload_n 1, 1) := by decide +kernel
theorem dL_551 : decode code 551 = .ok (.aload_n 0, 1) := by decide +kernel
theorem dL_552 : decode code 552 = .ok (.iload_n 3, 1) := by decide +kernel
theorem dL_553 : decode code 553 = .ok (.iconst 1, 1) := by decide +kernel
theorem dL_554 : decode code 554 = .ok (.iadd, 1) := by decide +kernel
theorem dL_555 : decode code 555 = .ok (.iaload, 1) := by decide +kernel
theorem dL_556 : decode code 556 = .ok (.invokevirtual 81, 3) := by decide +kernel
theorem dL_559 : decode code 559 = .ok (.aload_n 2, 1) := by decide +kernel
theorem dL_560 : decode code 560 = .ok (.aload_n 0, 1) := by decide +kernel
theorem dL_561 : decode code 561 = .ok (.iload_n 3, 1) := by decide +kernel
theorem dL_562 : decode code 562 = .ok (.iconst 1, 1) := by decide +kernel
theorem dL_563 : decode code 563 = .ok (.iadd, 1) := by decide +kernel
theorem dL_564 : decode code 564 = .ok (.iaload, 1) := by decide +kernel
theorem dL_565 : decode code 565 = .ok (.invokevirtual 84, 3) := by decide +kernel
theorem dL_568 : decode code 568 = .ok (.if_icmp .eq 203, 3) := by decide +kernel
theorem dL_571 : decode code 571 = .ok (.iconst 0, 1) := by decide +kernel
theorem dL_572 : decode code 572 = .ok (.ireturn, 1) := by decide +kernel
theorem dL_573 : decode code 573 = .ok (.aload_n 1, 1) := by decide +kernel
theorem dL_574 : decode code 574 = .ok (.aload_n 0, 1) := by decide +kernel
theorem dL_575 : decode code 575 = .ok (.iload_n 3, 1) := by decide +kernel
theorem dL_576 : decode code 576 = .ok (.iconst 1, 1) := by decide +kernel
theorem dL_577 : decode code 577 = .ok (.iadd, 1) := by decide +kernel
theorem dL_578 : decode code 578 = .ok (.iaload, 1) := by decide +kernel
theorem dL_579 : decode code 579 = .ok (.invokevirtual 85, 3) := by decide +kernel
theorem dL_582 : decode code 582 = .ok (.aload_n 2, 1) := by decide +kernel
theorem dL_583 : decode code 583 = .ok (.aload_n 0, 1) := by decide +kernel
theorem dL_584 : decode code 584 = .ok (.iload_n 3, 1) := by decide +kernel
theorem dL_585 : decode code 585 = .ok (.iconst 1, 1) := by decide +kernel
theorem dL_586 : decode code 586 = .ok (.iadd, 1) := by decide +kernel
theorem dL_587 : decode code 587 = .ok (.iaload, 1) := by decide +kernel
theorem dL_588 : decode code 588 = .ok (.invokevirtual 89, 3) := by decide +kernel
theorem dL_591 : decode code 591 = .ok (.lcmp, 1) := by decide +kernel
theorem dL_592 : decode code 592 = .ok (.ifCond .eq 179, 3) := by decide +kernel
theorem dL_595 : decode code 595 = .ok (.iconst 0, 1) := by decide +kernel
theorem dL_596 : decode code 596 = .ok (.ireturn, 1) := by decide +kernel
theorem dL_597 : decode code 597 = .ok (.aload_n 1, 1) := by decide +kernel
theorem dL_598 : decode code 598 = .ok (.aload_n 0, 1) := by decide +kernel
theorem dL_599 : decode code 599 = .ok (.iload_n 3, 1) := by decide +kernel
theorem dL_600 : decode code 600 = .ok (.iconst 1, 1) := by decide +kernel
theorem dL_601 : decode code 601 = .ok (.iadd, 1) := by decide +kernel
theorem dL_602 : decode code 602 = .ok (.iaload, 1) := by decide +kernel
theorem dL_603 : decode code 603 = .ok (.invokevirtual 90, 3) := by decide +kernel
theorem dL_606 : decode code 606 = .ok (.aload_n 2, 1) := by decide +kernel
theorem dL_607 : decode code 607 = .ok (.aload_n 0, 1) := by decide +kernel
theorem dL_608 : decode code 608 = .ok (.iload_n 3, 1) := by decide +kernel
theorem dL_609 : decode code 609 = .ok (.iconst 1, 1) := by decide +kernel
theorem dL_610 : decode code 610 = .ok (.iadd, 1) := by decide +kernel
theorem dL_611 : decode code 611 = .ok (.iaload, 1) := by decide +kernel
theorem dL_612 : decode code 612 = .ok (.invokevirtual 93, 3) := by decide +kernel
theorem dL_615 : decode code 615 = .ok (.if_icmp .eq 156, 3) := by decide +kernel
theorem dL_618 : decode code 618 = .ok (.iconst 0, 1) := by decide +kernel
theorem dL_619 : decode code 619 = .ok (.ireturn, 1) := by decide +kernel
theorem dL_620 : decode code 620 = .ok (.aload_n 1, 1) := by decide +kernel
theorem dL_621 : decode code 621 = .ok (.aload_n 0, 1) := by decide +kernel
theorem dL_622 : decode code 622 = .ok (.iload_n 3, 1) := by decide +kernel
theorem dL_623 : decode code 623 = .ok (.iconst 1, 1) := by decide +kernel
theorem dL_624 : decode code 624 = .ok (.iadd, 1) := by decide +kernel
theorem dL_625 : decode code 625 = .ok (.iaload, 1) := by decide +kernel
theorem dL_626 : decode code 626 = .ok (.invokevirtual 94, 3) := by decide +kernel
theorem dL_629 : decode code 629 = .ok (.aload_n 2, 1) := by decide +kernel
theorem dL_630 : decode code 630 = .ok (.aload_n 0, 1) := by decide +kernel
theorem dL_631 : decode code 631 = .ok (.iload_n 3, 1) := by decide +kernel
theorem dL_632 : decode code 632 = .ok (.iconst 1, 1) := by decide +kernel
theorem dL_633 : decode code 633 = .ok (.iadd, 1) := by decide +kernel
theorem dL_634 : decode code 634 = .ok (.iaload, 1) := by decide +kernel
theorem dL_635 : decode code 635 = .ok (.invokevirtual 97, 3) := by decide +kernel
theorem dL_638 : decode code 638 = .ok (.if_icmp .eq 133, 3) := by decide +kernel
theorem dL_641 : decode code 641 = .ok (.iconst 0, 1) := by decide +kernel
theorem dL_642 : decode code 642 = .ok (.ireturn, 1) := by decide +kernel
theorem dL_643 : decode code 643 = .ok (.aload_n 1, 1) := by decide +kernel
theorem dL_644 : decode code 644 = .ok (.aload_n 0, 1) := by decide +kernel
theorem dL_645 : decode code 645 = .ok (.iload_n 3, 1) := by decide +kernel
theorem dL_646 : decode code 646 = .ok (.iconst 1, 1) := by decide +kernel
theorem dL_647 : decode code 647 = .ok (.iadd, 1) := by decide +kernel
theorem dL_648 : decode code 648 = .ok (.iaload, 1) := by decide +kernel
theorem dL_649 : decode code 649 = .ok (.invokevirtual 98, 3) := by decide +kernel
theorem dL_652 : decode code 652 = .ok (.aload_n 2, 1) := by decide +kernel
theorem dL_653 : decode code 653 = .ok (.aload_n 0, 1) := by decide +kernel
theorem dL_654 : decode code 654 = .ok (.iload_n 3, 1) := by decide +kernel
theorem dL_655 : decode code 655 = .ok (.iconst 1, 1) := by decide +kernel
theorem dL_656 : decode code 656 = .ok (.iadd, 1) := by decide +kernel
theorem dL_657 : decode code 657 = .ok (.iaload, 1) := by decide +kernel
theorem dL_658 : decode code 658 = .ok (.invokevirtual 101, 3) := by decide +kernel
theorem dL_661 : decode code 661 = .ok (.if_icmp .eq 110, 3) := by decide +kernel
theorem dL_664 : decode code 664 = .ok (.iconst 0, 1) := by decide +kernel
theorem dL_665 : decode code 665 = .ok (.ireturn, 1) := by decide +kernel
theorem dL_666 : decode code 666 = .ok (.aload_n 1, 1) := by decide +kernel
theorem dL_667 : decode code 667 = .ok (.invokevirtual 102, 3) := by decide +kernel
theorem dL_670 : decode code 670 = .ok (.aload_n 2, 1) := by decide +kernel
theorem dL_671 : decode code 671 = .ok (.invokevirtual 105, 3) := by decide +kernel
theorem dL_674 : decode code 674 = .ok (.if_icmp .eq 97, 3) := by decide +kernel
theorem dL_677 : decode code 677 = .ok (.iconst 0, 1) := by decide +kernel
theorem dL_678 : decode code 678 = .ok (.ireturn, 1) := by decide +kernel
theorem dL_679 : decode code 679 = .ok (.aload_n 1, 1) := by decide +kernel
theorem dL_680 : decode code 680 = .ok (.aload_n 0, 1) := by decide +kernel
theorem dL_681 : decode code 681 = .ok (.iload_n 3, 1) := by decide +kernel
theorem dL_682 : decode code 682 = .ok (.iconst 1, 1) := by decide +kernel
theorem dL_683 : decode code 683 = .ok (.iadd, 1) := by decide +kernel
theorem dL_684 : decode code 684 = .ok (.iaload, 1) := by decide +kernel
theorem dL_685 : decode code 685 = .ok (.aload_n 0, 1) := by decide +kernel
theorem dL_686 : decode code 686 = .ok (.iload_n 3, 1) := by decide +kernel
theorem dL_687 : decode code 687 = .ok (.iconst 2, 1) := by decide +kernel
theorem dL_688 : decode code 688 = .ok (.iadd, 1) := by decide +kernel
theorem dL_689 : decode code 689 = .ok (.iaload, 1) := by decide +kernel
theorem dL_690 : decode code 690 = .ok (.aload_n 0, 1) := by decide +kernel
theorem dL_691 : decode code 691 = .ok (.iload_n 3, 1) := by decide +kernel
theorem dL_692 : decode code 692 = .ok (.iconst 3, 1) := by decide +kernel
theorem dL_693 : decode code 693 = .ok (.iadd, 1) := by decide +kernel
theorem dL_694 : decode code 694 = .ok (.iaload, 1) := by decide +kernel
theorem dL_695 : decode code 695 = .ok (.invokevirtual 106, 3) := by decide +kernel
theorem dL_698 : decode code 698 = .ok (.aload_n 2, 1) := by decide +kernel
theorem dL_699 : decode code 699 = .ok (.aload_n 0, 1) := by decide +kernel
theorem dL_700 : decode code 700 = .ok (.iload_n 3, 1) := by decide +kernel
theorem dL_701 : decode code 701 = .ok (.iconst 1, 1) := by decide +kernel
theorem dL_702 : decode code 702 = .ok (.iadd, 1) := by decide +kernel
theorem dL_703 : decode code 703 = .ok (.iaload, 1) := by decide +kernel
theorem dL_704 : decode code 704 = .ok (.aload_n 0, 1) := by decide +kernel
theorem dL_705 : decode code 705 = .ok (.iload_n 3, 1) := by decide +kernel
theorem dL_706 : decode code 706 = .ok (.iconst 2, 1) := by decide +kernel
theorem dL_707 : decode code 707 = .ok (.iadd, 1) := by decide +kernel
theorem dL_708 : decode code 708 = .ok (.iaload, 1) := by decide +kernel
theorem dL_709 : decode code 709 = .ok (.aload_n 0, 1) := by decide +kernel
theorem dL_710 : decode code 710 = .ok (.iload_n 3, 1) := by decide +kernel
theorem dL_711 : decode code 711 = .ok (.iconst 3, 1) := by decide +kernel
theorem dL_712 : decode code 712 = .ok (.iadd, 1) := by decide +kernel
theorem dL_713 : decode code 713 = .ok (.iaload, 1) := by decide +kernel
theorem dL_714 : decode code 714 = .ok (.invokevirtual 109, 3) := by decide +kernel
theorem dL_717 : decode code 717 = .ok (.if_icmp .eq 54, 3) := by decide +kernel
theorem dL_720 : decode code 720 = .ok (.iconst 0, 1) := by decide +kernel
theorem dL_721 : decode code 721 = .ok (.ireturn, 1) := by decide +kernel
theorem dL_722 : decode code 722 = .ok (.aload_n 1, 1) := by decide +kernel
theorem dL_723 : decode code 723 = .ok (.invokevirtual 110, 3) := by decide +kernel
theorem dL_726 : decode code 726 = .ok (.aload_n 2, 1) := by decide +kernel
theorem dL_727 : decode code 727 = .ok (.invokevirtual 113, 3) := by decide +kernel
theorem dL_730 : decode code 730 = .ok (.if_icmp .eq 41, 3) := by decide +kernel
theorem dL_733 : decode code 733 = .ok (.iconst 0, 1) := by decide +kernel
theorem dL_734 : decode code 734 = .ok (.ireturn, 1) := by decide +kernel
theorem dL_735 : decode code 735 = .ok (.aload_n 1, 1) := by decide +kernel
theorem dL_736 : decode code 736 = .ok (.invokevirtual 114, 3) := by decide +kernel
theorem dL_739 : decode code 739 = .ok (.aload_n 2, 1) := by decide +kernel
theorem dL_740 : decode code 740 = .ok (.invokevirtual 117, 3) := by decide +kernel
theorem dL_743 : decode code 743 = .ok (.if_icmp .eq 28, 3) := by decide +kernel
theorem dL_746 : decode code 746 = .ok (.iconst 0, 1) := by decide +kernel
theorem dL_747 : decode code 747 = .ok (.ireturn, 1) := by decide +kernel
theorem dL_748 : decode code 748 = .ok (.aload_n 1, 1) := by decide +kernel
theorem dL_749 : decode code 749 = .ok (.aload_n 0, 1) := by decide +kernel
theorem dL_750 : decode code 750 = .ok (.iload_n 3, 1) := by decide +kernel
theorem dL_751 : decode code 751 = .ok (.iconst 1, 1) := by decide +kernel
theorem dL_752 : decode code 752 = .ok (.iadd, 1) := by decide +kernel
theorem dL_753 : decode code 753 = .ok (.iaload, 1) := by decide +kernel
theorem dL_754 : decode code 754 = .ok (.invokevirtual 118, 3) := by decide +kernel
theorem dL_757 : decode code 757 = .ok (.aload_n 2, 1) := by decide +kernel
theorem dL_758 : decode code 758 = .ok (.aload_n 0, 1) := by decide +kernel
theorem dL_759 : decode code 759 = .ok (.iload_n 3, 1) := by decide +kernel
theorem dL_760 : decode code 760 = .ok (.iconst 1, 1) := by decide +kernel
theorem dL_761 : decode code 761 = .ok (.iadd, 1) := by decide +kernel
theorem dL_762 : decode code 762 = .ok (.iaload, 1) := by decide +kernel
theorem dL_763 : decode code 763 = .ok (.invokevirtual 121, 3) := by decide +kernel
theorem dL_766 : decode code 766 = .ok (.if_icmp .eq 5, 3) := by decide +kernel
theorem dL_769 : decode code 769 = .ok (.iconst 0, 1) := by decide +kernel
theorem dL_770 : decode code 770 = .ok (.ireturn, 1) := by decide +kernel
theorem dL_771 : decode code 771 = .ok (.iinc 3 4, 3) := by decide +kernel
theorem dL_774 : decode code 774 = .ok (.goto (-756), 3) := by decide +kernel
theorem dL_777 : decode code 777 = .ok (.iconst 1, 1) := by decide +kernel
theorem dL_778 : decode code 778 = .ok (.ireturn, 1) := by decide +kernel
