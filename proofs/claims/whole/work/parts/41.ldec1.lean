theorem d_L_law_449 : decode code 449 = .ok (.iconst 1, 1) := by decide +kernel
theorem d_L_law_450 : decode code 450 = .ok (.iadd, 1) := by decide +kernel
theorem d_L_law_451 : decode code 451 = .ok (.iaload, 1) := by decide +kernel
theorem d_L_law_452 : decode code 452 = .ok (.invokevirtual 123, 3) := by decide +kernel
theorem d_L_law_455 : decode code 455 = .ok (.lstore 6, 2) := by decide +kernel
theorem d_L_law_457 : decode code 457 = .ok (.aload_n 2, 1) := by decide +kernel
theorem d_L_law_458 : decode code 458 = .ok (.invokevirtual 97, 3) := by decide +kernel
theorem d_L_law_461 : decode code 461 = .ok (.iload 5, 2) := by decide +kernel
theorem d_L_law_463 : decode code 463 = .ok (.if_icmp .eq 5, 3) := by decide +kernel
theorem d_L_law_468 : decode code 468 = .ok (.iload 5, 2) := by decide +kernel
theorem d_L_law_470 : decode code 470 = .ok (.ifCond .ne 14, 3) := by decide +kernel
theorem d_L_law_473 : decode code 473 = .ok (.aload_n 3, 1) := by decide +kernel
theorem d_L_law_474 : decode code 474 = .ok (.iconst 0, 1) := by decide +kernel
theorem d_L_law_475 : decode code 475 = .ok (.laload, 1) := by decide +kernel
theorem d_L_law_476 : decode code 476 = .ok (.lload 6, 2) := by decide +kernel
theorem d_L_law_478 : decode code 478 = .ok (.lcmp, 1) := by decide +kernel
theorem d_L_law_479 : decode code 479 = .ok (.ifCond .eq 5, 3) := by decide +kernel
theorem d_L_law_484 : decode code 484 = .ok (.goto 747, 3) := by decide +kernel
theorem d_L_law_487 : decode code 487 = .ok (.aload_n 1, 1) := by decide +kernel
theorem d_L_law_488 : decode code 488 = .ok (.aload_n 0, 1) := by decide +kernel
theorem d_L_law_489 : decode code 489 = .ok (.iload 4, 2) := by decide +kernel
theorem d_L_law_491 : decode code 491 = .ok (.iconst 1, 1) := by decide +kernel
theorem d_L_law_492 : decode code 492 = .ok (.iadd, 1) := by decide +kernel
theorem d_L_law_493 : decode code 493 = .ok (.iaload, 1) := by decide +kernel
theorem d_L_law_494 : decode code 494 = .ok (.aload_n 3, 1) := by decide +kernel
theorem d_L_law_495 : decode code 495 = .ok (.invokestatic 124, 3) := by decide +kernel
theorem d_L_law_498 : decode code 498 = .ok (.istore 5, 2) := by decide +kernel
theorem d_L_law_500 : decode code 500 = .ok (.aload_n 2, 1) := by decide +kernel
theorem d_L_law_501 : decode code 501 = .ok (.aload_n 0, 1) := by decide +kernel
theorem d_L_law_502 : decode code 502 = .ok (.iload 4, 2) := by decide +kernel
theorem d_L_law_504 : decode code 504 = .ok (.iconst 1, 1) := by decide +kernel
theorem d_L_law_505 : decode code 505 = .ok (.iadd, 1) := by decide +kernel
theorem d_L_law_506 : decode code 506 = .ok (.iaload, 1) := by decide +kernel
theorem d_L_law_507 : decode code 507 = .ok (.invokevirtual 126, 3) := by decide +kernel
theorem d_L_law_510 : decode code 510 = .ok (.istore 6, 2) := by decide +kernel
theorem d_L_law_512 : decode code 512 = .ok (.aload_n 2, 1) := by decide +kernel
theorem d_L_law_513 : decode code 513 = .ok (.invokevirtual 97, 3) := by decide +kernel
theorem d_L_law_516 : decode code 516 = .ok (.iload 5, 2) := by decide +kernel
theorem d_L_law_518 : decode code 518 = .ok (.if_icmp .eq 5, 3) := by decide +kernel
theorem d_L_law_523 : decode code 523 = .ok (.iload 5, 2) := by decide +kernel
theorem d_L_law_525 : decode code 525 = .ok (.ifCond .ne 15, 3) := by decide +kernel
theorem d_L_law_528 : decode code 528 = .ok (.aload_n 3, 1) := by decide +kernel
theorem d_L_law_529 : decode code 529 = .ok (.iconst 0, 1) := by decide +kernel
theorem d_L_law_530 : decode code 530 = .ok (.laload, 1) := by decide +kernel
theorem d_L_law_531 : decode code 531 = .ok (.iload 6, 2) := by decide +kernel
theorem d_L_law_533 : decode code 533 = .ok (.i2l, 1) := by decide +kernel
theorem d_L_law_534 : decode code 534 = .ok (.lcmp, 1) := by decide +kernel
theorem d_L_law_535 : decode code 535 = .ok (.ifCond .eq 5, 3) := by decide +kernel
theorem d_L_law_540 : decode code 540 = .ok (.goto 691, 3) := by decide +kernel
theorem d_L_law_543 : decode code 543 = .ok (.aload_n 1, 1) := by decide +kernel
theorem d_L_law_544 : decode code 544 = .ok (.aload_n 0, 1) := by decide +kernel
theorem d_L_law_545 : decode code 545 = .ok (.iload 4, 2) := by decide +kernel
theorem d_L_law_547 : decode code 547 = .ok (.iconst 1, 1) := by decide +kernel
theorem d_L_law_548 : decode code 548 = .ok (.iadd, 1) := by decide +kernel
theorem d_L_law_549 : decode code 549 = .ok (.iaload, 1) := by decide +kernel
theorem d_L_law_550 : decode code 550 = .ok (.aload_n 3, 1) := by decide +kernel
theorem d_L_law_551 : decode code 551 = .ok (.invokestatic 127, 3) := by decide +kernel
theorem d_L_law_554 : decode code 554 = .ok (.istore 5, 2) := by decide +kernel
theorem d_L_law_556 : decode code 556 = .ok (.aload_n 2, 1) := by decide +kernel
theorem d_L_law_557 : decode code 557 = .ok (.aload_n 0, 1) := by decide +kernel
theorem d_L_law_558 : decode code 558 = .ok (.iload 4, 2) := by decide +kernel
theorem d_L_law_560 : decode code 560 = .ok (.iconst 1, 1) := by decide +kernel
theorem d_L_law_561 : decode code 561 = .ok (.iadd, 1) := by decide +kernel
theorem d_L_law_562 : decode code 562 = .ok (.iaload, 1) := by decide +kernel
theorem d_L_law_563 : decode code 563 = .ok (.invokevirtual 129, 3) := by decide +kernel
theorem d_L_law_566 : decode code 566 = .ok (.istore 6, 2) := by decide +kernel
theorem d_L_law_568 : decode code 568 = .ok (.aload_n 2, 1) := by decide +kernel
theorem d_L_law_569 : decode code 569 = .ok (.invokevirtual 97, 3) := by decide +kernel
theorem d_L_law_572 : decode code 572 = .ok (.iload 5, 2) := by decide +kernel
theorem d_L_law_574 : decode code 574 = .ok (.if_icmp .eq 5, 3) := by decide +kernel
theorem d_L_law_579 : decode code 579 = .ok (.iload 5, 2) := by decide +kernel
theorem d_L_law_581 : decode code 581 = .ok (.ifCond .ne 15, 3) := by decide +kernel
theorem d_L_law_584 : decode code 584 = .ok (.aload_n 3, 1) := by decide +kernel
theorem d_L_law_585 : decode code 585 = .ok (.iconst 0, 1) := by decide +kernel
theorem d_L_law_586 : decode code 586 = .ok (.laload, 1) := by decide +kernel
theorem d_L_law_587 : decode code 587 = .ok (.iload 6, 2) := by decide +kernel
theorem d_L_law_589 : decode code 589 = .ok (.i2l, 1) := by decide +kernel
theorem d_L_law_590 : decode code 590 = .ok (.lcmp, 1) := by decide +kernel
theorem d_L_law_591 : decode code 591 = .ok (.ifCond .eq 5, 3) := by decide +kernel
theorem d_L_law_596 : decode code 596 = .ok (.goto 635, 3) := by decide +kernel
theorem d_L_law_599 : decode code 599 = .ok (.aload_n 1, 1) := by decide +kernel
theorem d_L_law_600 : decode code 600 = .ok (.aload_n 0, 1) := by decide +kernel
theorem d_L_law_601 : decode code 601 = .ok (.iload 4, 2) := by decide +kernel
theorem d_L_law_603 : decode code 603 = .ok (.iconst 1, 1) := by decide +kernel
theorem d_L_law_604 : decode code 604 = .ok (.iadd, 1) := by decide +kernel
theorem d_L_law_605 : decode code 605 = .ok (.iaload, 1) := by decide +kernel
theorem d_L_law_606 : decode code 606 = .ok (.i2l, 1) := by decide +kernel
theorem d_L_law_607 : decode code 607 = .ok (.bipush 32, 2) := by decide +kernel
theorem d_L_law_609 : decode code 609 = .ok (.lshl, 1) := by decide +kernel
theorem d_L_law_610 : decode code 610 = .ok (.aload_n 0, 1) := by decide +kernel
theorem d_L_law_611 : decode code 611 = .ok (.iload 4, 2) := by decide +kernel
theorem d_L_law_613 : decode code 613 = .ok (.iconst 2, 1) := by decide +kernel
theorem d_L_law_614 : decode code 614 = .ok (.iadd, 1) := by decide +kernel
theorem d_L_law_615 : decode code 615 = .ok (.iaload, 1) := by decide +kernel
theorem d_L_law_616 : decode code 616 = .ok (.i2l, 1) := by decide +kernel
theorem d_L_law_617 : decode code 617 = .ok (.ldc2_w 130, 3) := by decide +kernel
theorem d_L_law_620 : decode code 620 = .ok (.land, 1) := by decide +kernel
theorem d_L_law_621 : decode code 621 = .ok (.lor, 1) := by decide +kernel
theorem d_L_law_622 : decode code 622 = .ok (.aload_n 0, 1) := by decide +kernel
theorem d_L_law_623 : decode code 623 = .ok (.iload 4, 2) := by decide +kernel
theorem d_L_law_625 : decode code 625 = .ok (.iconst 3, 1) := by decide +kernel
theorem d_L_law_626 : decode code 626 = .ok (.iadd, 1) := by decide +kernel
theorem d_L_law_627 : decode code 627 = .ok (.iaload, 1) := by decide +kernel
theorem d_L_law_628 : decode code 628 = .ok (.aload_n 3, 1) := by decide +kernel
theorem d_L_law_629 : decode code 629 = .ok (.invokestatic 132, 3) := by decide +kernel
theorem d_L_law_632 : decode code 632 = .ok (.istore 5, 2) := by decide +kernel
theorem d_L_law_634 : decode code 634 = .ok (.aload_n 2, 1) := by decide +kernel
theorem d_L_law_635 : decode code 635 = .ok (.aload_n 0, 1) := by decide +kernel
theorem d_L_law_636 : decode code 636 = .ok (.iload 4, 2) := by decide +kernel
theorem d_L_law_638 : decode code 638 = .ok (.iconst 1, 1) := by decide +kernel
theorem d_L_law_639 : decode code 639 = .ok (.iadd, 1) := by decide +kernel
theorem d_L_law_640 : decode code 640 = .ok (.iaload, 1) := by decide +kernel
theorem d_L_law_641 : decode code 641 = .ok (.i2l, 1) := by decide +kernel
theorem d_L_law_642 : decode code 642 = .ok (.bipush 32, 2) := by decide +kernel
theorem d_L_law_644 : decode code 644 = .ok (.lshl, 1) := by decide +kernel
theorem d_L_law_645 : decode code 645 = .ok (.aload_n 0, 1) := by decide +kernel
theorem d_L_law_646 : decode code 646 = .ok (.iload 4, 2) := by decide +kernel
theorem d_L_law_648 : decode code 648 = .ok (.iconst 2, 1) := by decide +kernel
theorem d_L_law_649 : decode code 649 = .ok (.iadd, 1) := by decide +kernel
theorem d_L_law_650 : decode code 650 = .ok (.iaload, 1) := by decide +kernel
theorem d_L_law_651 : decode code 651 = .ok (.i2l, 1) := by decide +kernel
theorem d_L_law_652 : decode code 652 = .ok (.ldc2_w 130, 3) := by decide +kernel
theorem d_L_law_655 : decode code 655 = .ok (.land, 1) := by decide +kernel
theorem d_L_law_656 : decode code 656 = .ok (.lor, 1) := by decide +kernel
theorem d_L_law_657 : decode code 657 = .ok (.aload_n 0, 1) := by decide +kernel
theorem d_L_law_658 : decode code 658 = .ok (.iload 4, 2) := by decide +kernel
theorem d_L_law_660 : decode code 660 = .ok (.iconst 3, 1) := by decide +kernel
theorem d_L_law_661 : decode code 661 = .ok (.iadd, 1) := by decide +kernel
theorem d_L_law_662 : decode code 662 = .ok (.iaload, 1) := by decide +kernel
theorem d_L_law_663 : decode code 663 = .ok (.invokevirtual 135, 3) := by decide +kernel
theorem d_L_law_666 : decode code 666 = .ok (.istore 6, 2) := by decide +kernel
theorem d_L_law_668 : decode code 668 = .ok (.aload_n 2, 1) := by decide +kernel
theorem d_L_law_669 : decode code 669 = .ok (.invokevirtual 97, 3) := by decide +kernel
theorem d_L_law_672 : decode code 672 = .ok (.iload 5, 2) := by decide +kernel
theorem d_L_law_674 : decode code 674 = .ok (.if_icmp .eq 5, 3) := by decide +kernel
theorem d_L_law_679 : decode code 679 = .ok (.iload 5, 2) := by decide +kernel
theorem d_L_law_681 : decode code 681 = .ok (.ifCond .ne 15, 3) := by decide +kernel
theorem d_L_law_684 : decode code 684 = .ok (.aload_n 3, 1) := by decide +kernel
theorem d_L_law_685 : decode code 685 = .ok (.iconst 0, 1) := by decide +kernel
theorem d_L_law_686 : decode code 686 = .ok (.laload, 1) := by decide +kernel
theorem d_L_law_687 : decode code 687 = .ok (.iload 6, 2) := by decide +kernel
theorem d_L_law_689 : decode code 689 = .ok (.i2l, 1) := by decide +kernel
theorem d_L_law_690 : decode code 690 = .ok (.lcmp, 1) := by decide +kernel
theorem d_L_law_691 : decode code 691 = .ok (.ifCond .eq 5, 3) := by decide +kernel
theorem d_L_law_696 : decode code 696 = .ok (.goto 535, 3) := by decide +kernel
theorem d_L_law_699 : decode code 699 = .ok (.aload_n 1, 1) := by decide +kernel
theorem d_L_law_700 : decode code 700 = .ok (.aload_n 0, 1) := by decide +kernel
theorem d_L_law_701 : decode code 701 = .ok (.iload 4, 2) := by decide +kernel
theorem d_L_law_703 : decode code 703 = .ok (.iconst 1, 1) := by decide +kernel
theorem d_L_law_704 : decode code 704 = .ok (.iadd, 1) := by decide +kernel
theorem d_L_law_705 : decode code 705 = .ok (.iaload, 1) := by decide +kernel
theorem d_L_law_706 : decode code 706 = .ok (.aload_n 3, 1) := by decide +kernel
theorem d_L_law_707 : decode code 707 = .ok (.invokestatic 136, 3) := by decide +kernel
theorem d_L_law_710 : decode code 710 = .ok (.istore 5, 2) := by decide +kernel
theorem d_L_law_712 : decode code 712 = .ok (.aload_n 2, 1) := by decide +kernel
theorem d_L_law_713 : decode code 713 = .ok (.aload_n 0, 1) := by decide +kernel
theorem d_L_law_714 : decode code 714 = .ok (.iload 4, 2) := by decide +kernel
theorem d_L_law_716 : decode code 716 = .ok (.iconst 1, 1) := by decide +kernel
theorem d_L_law_717 : decode code 717 = .ok (.iadd, 1) := by decide +kernel
theorem d_L_law_718 : decode code 718 = .ok (.iaload, 1) := by decide +kernel
theorem d_L_law_719 : decode code 719 = .ok (.invokevirtual 138, 3) := by decide +kernel
theorem d_L_law_722 : decode code 722 = .ok (.istore 6, 2) := by decide +kernel
theorem d_L_law_724 : decode code 724 = .ok (.aload_n 2, 1) := by decide +kernel
theorem d_L_law_725 : decode code 725 = .ok (.invokevirtual 97, 3) := by decide +kernel
theorem d_L_law_728 : decode code 728 = .ok (.iload 5, 2) := by decide +kernel
theorem d_L_law_730 : decode code 730 = .ok (.if_icmp .eq 5, 3) := by decide +kernel
theorem d_L_law_735 : decode code 735 = .ok (.iload 5, 2) := by decide +kernel
theorem d_L_law_737 : decode code 737 = .ok (.ifCond .ne 22, 3) := by decide +kernel
theorem d_L_law_740 : decode code 740 = .ok (.aload_n 3, 1) := by decide +kernel
theorem d_L_law_741 : decode code 741 = .ok (.iconst 0, 1) := by decide +kernel
theorem d_L_law_742 : decode code 742 = .ok (.laload, 1) := by decide +kernel
theorem d_L_law_743 : decode code 743 = .ok (.iload 6, 2) := by decide +kernel
theorem d_L_law_745 : decode code 745 = .ok (.ifCond .eq 7, 3) := by decide +kernel
theorem d_L_law_748 : decode code 748 = .ok (.lconst 1, 1) := by decide +kernel
theorem d_L_law_749 : decode code 749 = .ok (.goto 4, 3) := by decide +kernel
theorem d_L_law_752 : decode code 752 = .ok (.lconst 0, 1) := by decide +kernel
theorem d_L_law_753 : decode code 753 = .ok (.lcmp, 1) := by decide +kernel
theorem d_L_law_754 : decode code 754 = .ok (.ifCond .eq 5, 3) := by decide +kernel
theorem d_L_law_759 : decode code 759 = .ok (.goto 472, 3) := by decide +kernel
theorem d_L_law_762 : decode code 762 = .ok (.aload_n 1, 1) := by decide +kernel
theorem d_L_law_763 : decode code 763 = .ok (.aload_n 3, 1) := by decide +kernel
theorem d_L_law_764 : decode code 764 = .ok (.invokestatic 139, 3) := by decide +kernel
theorem d_L_law_767 : decode code 767 = .ok (.istore 5, 2) := by decide +kernel
theorem d_L_law_769 : decode code 769 = .ok (.aload_n 2, 1) := by decide +kernel
theorem d_L_law_770 : decode code 770 = .ok (.invokevirtual 141, 3) := by decide +kernel
theorem d_L_law_773 : decode code 773 = .ok (.lstore 6, 2) := by decide +kernel
theorem d_L_law_775 : decode code 775 = .ok (.aload_n 2, 1) := by decide +kernel
theorem d_L_law_776 : decode code 776 = .ok (.invokevirtual 97, 3) := by decide +kernel
theorem d_L_law_779 : decode code 779 = .ok (.iload 5, 2) := by decide +kernel
theorem d_L_law_781 : decode code 781 = .ok (.if_icmp .eq 5, 3) := by decide +kernel
theorem d_L_law_786 : decode code 786 = .ok (.iload 5, 2) := by decide +kernel
theorem d_L_law_788 : decode code 788 = .ok (.ifCond .ne 14, 3) := by decide +kernel
theorem d_L_law_791 : decode code 791 = .ok (.aload_n 3, 1) := by decide +kernel
theorem d_L_law_792 : decode code 792 = .ok (.iconst 0, 1) := by decide +kernel
theorem d_L_law_793 : decode code 793 = .ok (.laload, 1) := by decide +kernel
theorem d_L_law_794 : decode code 794 = .ok (.lload 6, 2) := by decide +kernel
theorem d_L_law_796 : decode code 796 = .ok (.lcmp, 1) := by decide +kernel
theorem d_L_law_797 : decode code 797 = .ok (.ifCond .eq 5, 3) := by decide +kernel
theorem d_L_law_802 : decode code 802 = .ok (.goto 429, 3) := by decide +kernel
theorem d_L_law_805 : decode code 805 = .ok (.aload_n 1, 1) := by decide +kernel
theorem d_L_law_806 : decode code 806 = .ok (.aload_n 0, 1) := by decide +kernel
theorem d_L_law_807 : decode code 807 = .ok (.iload 4, 2) := by decide +kernel
theorem d_L_law_809 : decode code 809 = .ok (.iconst 1, 1) := by decide +kernel
theorem d_L_law_810 : decode code 810 = .ok (.iadd, 1) := by decide +kernel
theorem d_L_law_811 : decode code 811 = .ok (.iaload, 1) := by decide +kernel
theorem d_L_law_812 : decode code 812 = .ok (.aload_n 3, 1) := by decide +kernel
theorem d_L_law_813 : decode code 813 = .ok (.invokestatic 142, 3) := by decide +kernel
theorem d_L_law_816 : decode code 816 = .ok (.istore 5, 2) := by decide +kernel
theorem d_L_law_818 : decode code 818 = .ok (.aload_n 2, 1) := by decide +kernel
theorem d_L_law_819 : decode code 819 = .ok (.aload_n 0, 1) := by decide +kernel
theorem d_L_law_820 : decode code 820 = .ok (.iload 4, 2) := by decide +kernel
theorem d_L_law_822 : decode code 822 = .ok (.iconst 1, 1) := by decide +kernel
theorem d_L_law_823 : decode code 823 = .ok (.iadd, 1) := by decide +kernel
