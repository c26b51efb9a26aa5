theorem dLw_484 : decode code 484 = .ok (.iload_n 3, 1) := by decide +kernel
theorem dLw_485 : decode code 485 = .ok (.iconst 1, 1) := by decide +kernel
theorem dLw_486 : decode code 486 = .ok (.iadd, 1) := by decide +kernel
theorem dLw_487 : decode code 487 = .ok (.iaload, 1) := by decide +kernel
theorem dLw_488 : decode code 488 = .ok (.aload_n 0, 1) := by decide +kernel
theorem dLw_489 : decode code 489 = .ok (.iload_n 3, 1) := by decide +kernel
theorem dLw_490 : decode code 490 = .ok (.iconst 2, 1) := by decide +kernel
theorem dLw_491 : decode code 491 = .ok (.iadd, 1) := by decide +kernel
theorem dLw_492 : decode code 492 = .ok (.iaload, 1) := by decide +kernel
theorem dLw_493 : decode code 493 = .ok (.aload_n 0, 1) := by decide +kernel
theorem dLw_494 : decode code 494 = .ok (.iload_n 3, 1) := by decide +kernel
theorem dLw_495 : decode code 495 = .ok (.iconst 3, 1) := by decide +kernel
theorem dLw_496 : decode code 496 = .ok (.iadd, 1) := by decide +kernel
theorem dLw_497 : decode code 497 = .ok (.iaload, 1) := by decide +kernel
theorem dLw_498 : decode code 498 = .ok (.invokevirtual 49, 3) := by decide +kernel
theorem dLw_501 : decode code 501 = .ok (.if_icmp .eq 1197, 3) := by decide +kernel
theorem dLw_504 : decode code 504 = .ok (.iconst 0, 1) := by decide +kernel
theorem dLw_505 : decode code 505 = .ok (.ireturn, 1) := by decide +kernel
theorem dLw_506 : decode code 506 = .ok (.aload_n 1, 1) := by decide +kernel
theorem dLw_507 : decode code 507 = .ok (.aload_n 0, 1) := by decide +kernel
theorem dLw_508 : decode code 508 = .ok (.iload_n 3, 1) := by decide +kernel
theorem dLw_509 : decode code 509 = .ok (.iconst 1, 1) := by decide +kernel
theorem dLw_510 : decode code 510 = .ok (.iadd, 1) := by decide +kernel
theorem dLw_511 : decode code 511 = .ok (.iaload, 1) := by decide +kernel
theorem dLw_512 : decode code 512 = .ok (.aload_n 0, 1) := by decide +kernel
theorem dLw_513 : decode code 513 = .ok (.iload_n 3, 1) := by decide +kernel
theorem dLw_514 : decode code 514 = .ok (.iconst 2, 1) := by decide +kernel
theorem dLw_515 : decode code 515 = .ok (.iadd, 1) := by decide +kernel
theorem dLw_516 : decode code 516 = .ok (.iaload, 1) := by decide +kernel
theorem dLw_517 : decode code 517 = .ok (.invokevirtual 50, 3) := by decide +kernel
theorem dLw_520 : decode code 520 = .ok (.aload_n 2, 1) := by decide +kernel
theorem dLw_521 : decode code 521 = .ok (.aload_n 0, 1) := by decide +kernel
theorem dLw_522 : decode code 522 = .ok (.iload_n 3, 1) := by decide +kernel
theorem dLw_523 : decode code 523 = .ok (.iconst 1, 1) := by decide +kernel
theorem dLw_524 : decode code 524 = .ok (.iadd, 1) := by decide +kernel
theorem dLw_525 : decode code 525 = .ok (.iaload, 1) := by decide +kernel
theorem dLw_526 : decode code 526 = .ok (.aload_n 0, 1) := by decide +kernel
theorem dLw_527 : decode code 527 = .ok (.iload_n 3, 1) := by decide +kernel
theorem dLw_528 : decode code 528 = .ok (.iconst 2, 1) := by decide +kernel
theorem dLw_529 : decode code 529 = .ok (.iadd, 1) := by decide +kernel
theorem dLw_530 : decode code 530 = .ok (.iaload, 1) := by decide +kernel
theorem dLw_531 : decode code 531 = .ok (.invokevirtual 53, 3) := by decide +kernel
theorem dLw_534 : decode code 534 = .ok (.if_icmp .eq 1164, 3) := by decide +kernel
theorem dLw_537 : decode code 537 = .ok (.iconst 0, 1) := by decide +kernel
theorem dLw_538 : decode code 538 = .ok (.ireturn, 1) := by decide +kernel
theorem dLw_539 : decode code 539 = .ok (.aload_n 1, 1) := by decide +kernel
theorem dLw_540 : decode code 540 = .ok (.aload_n 0, 1) := by decide +kernel
theorem dLw_541 : decode code 541 = .ok (.iload_n 3, 1) := by decide +kernel
theorem dLw_542 : decode code 542 = .ok (.iconst 1, 1) := by decide +kernel
theorem dLw_543 : decode code 543 = .ok (.iadd, 1) := by decide +kernel
theorem dLw_544 : decode code 544 = .ok (.iaload, 1) := by decide +kernel
theorem dLw_545 : decode code 545 = .ok (.aload_n 0, 1) := by decide +kernel
theorem dLw_546 : decode code 546 = .ok (.iload_n 3, 1) := by decide +kernel
theorem dLw_547 : decode code 547 = .ok (.iconst 2, 1) := by decide +kernel
theorem dLw_548 : decode code 548 = .ok (.iadd, 1) := by decide +kernel
theorem dLw_549 : decode code 549 = .ok (.iaload, 1) := by decide +kernel
theorem dLw_550 : decode code 550 = .ok (.aload_n 0, 1) := by decide +kernel
theorem dLw_551 : decode code 551 = .ok (.iload_n 3, 1) := by decide +kernel
theorem dLw_552 : decode code 552 = .ok (.iconst 3, 1) := by decide +kernel
theorem dLw_553 : decode code 553 = .ok (.iadd, 1) := by decide +kernel
theorem dLw_554 : decode code 554 = .ok (.iaload, 1) := by decide +kernel
theorem dLw_555 : decode code 555 = .ok (.ifCond .eq 7, 3) := by decide +kernel
theorem dLw_558 : decode code 558 = .ok (.iconst 1, 1) := by decide +kernel
theorem dLw_559 : decode code 559 = .ok (.goto 4, 3) := by decide +kernel
theorem dLw_562 : decode code 562 = .ok (.iconst 0, 1) := by decide +kernel
theorem dLw_563 : decode code 563 = .ok (.invokevirtual 54, 3) := by decide +kernel
theorem dLw_566 : decode code 566 = .ok (.aload_n 2, 1) := by decide +kernel
theorem dLw_567 : decode code 567 = .ok (.aload_n 0, 1) := by decide +kernel
theorem dLw_568 : decode code 568 = .ok (.iload_n 3, 1) := by decide +kernel
theorem dLw_569 : decode code 569 = .ok (.iconst 1, 1) := by decide +kernel
theorem dLw_570 : decode code 570 = .ok (.iadd, 1) := by decide +kernel
theorem dLw_571 : decode code 571 = .ok (.iaload, 1) := by decide +kernel
theorem dLw_572 : decode code 572 = .ok (.aload_n 0, 1) := by decide +kernel
theorem dLw_573 : decode code 573 = .ok (.iload_n 3, 1) := by decide +kernel
theorem dLw_574 : decode code 574 = .ok (.iconst 2, 1) := by decide +kernel
theorem dLw_575 : decode code 575 = .ok (.iadd, 1) := by decide +kernel
theorem dLw_576 : decode code 576 = .ok (.iaload, 1) := by decide +kernel
theorem dLw_577 : decode code 577 = .ok (.aload_n 0, 1) := by decide +kernel
theorem dLw_578 : decode code 578 = .ok (.iload_n 3, 1) := by decide +kernel
theorem dLw_579 : decode code 579 = .ok (.iconst 3, 1) := by decide +kernel
theorem dLw_580 : decode code 580 = .ok (.iadd, 1) := by decide +kernel
theorem dLw_581 : decode code 581 = .ok (.iaload, 1) := by decide +kernel
theorem dLw_582 : decode code 582 = .ok (.ifCond .eq 7, 3) := by decide +kernel
theorem dLw_585 : decode code 585 = .ok (.iconst 1, 1) := by decide +kernel
theorem dLw_586 : decode code 586 = .ok (.goto 4, 3) := by decide +kernel
theorem dLw_589 : decode code 589 = .ok (.iconst 0, 1) := by decide +kernel
theorem dLw_590 : decode code 590 = .ok (.invokevirtual 58, 3) := by decide +kernel
theorem dLw_593 : decode code 593 = .ok (.if_icmp .eq 1105, 3) := by decide +kernel
theorem dLw_596 : decode code 596 = .ok (.iconst 0, 1) := by decide +kernel
theorem dLw_597 : decode code 597 = .ok (.ireturn, 1) := by decide +kernel
theorem dLw_598 : decode code 598 = .ok (.aload_n 1, 1) := by decide +kernel
theorem dLw_599 : decode code 599 = .ok (.aload_n 0, 1) := by decide +kernel
theorem dLw_600 : decode code 600 = .ok (.iload_n 3, 1) := by decide +kernel
theorem dLw_601 : decode code 601 = .ok (.iconst 1, 1) := by decide +kernel
theorem dLw_602 : decode code 602 = .ok (.iadd, 1) := by decide +kernel
theorem dLw_603 : decode code 603 = .ok (.iaload, 1) := by decide +kernel
theorem dLw_604 : decode code 604 = .ok (.invokevirtual 59, 3) := by decide +kernel
theorem dLw_607 : decode code 607 = .ok (.aload_n 2, 1) := by decide +kernel
theorem dLw_608 : decode code 608 = .ok (.aload_n 0, 1) := by decide +kernel
theorem dLw_609 : decode code 609 = .ok (.iload_n 3, 1) := by decide +kernel
theorem dLw_610 : decode code 610 = .ok (.iconst 1, 1) := by decide +kernel
theorem dLw_611 : decode code 611 = .ok (.iadd, 1) := by decide +kernel
theorem dLw_612 : decode code 612 = .ok (.iaload, 1) := by decide +kernel
theorem dLw_613 : decode code 613 = .ok (.invokevirtual 62, 3) := by decide +kernel
theorem dLw_616 : decode code 616 = .ok (.if_icmp .eq 1082, 3) := by decide +kernel
theorem dLw_619 : decode code 619 = .ok (.iconst 0, 1) := by decide +kernel
theorem dLw_620 : decode code 620 = .ok (.ireturn, 1) := by decide +kernel
theorem dLw_621 : decode code 621 = .ok (.aload_n 1, 1) := by decide +kernel
theorem dLw_622 : decode code 622 = .ok (.aload_n 0, 1) := by decide +kernel
theorem dLw_623 : decode code 623 = .ok (.iload_n 3, 1) := by decide +kernel
theorem dLw_624 : decode code 624 = .ok (.iconst 1, 1) := by decide +kernel
theorem dLw_625 : decode code 625 = .ok (.iadd, 1) := by decide +kernel
theorem dLw_626 : decode code 626 = .ok (.iaload, 1) := by decide +kernel
theorem dLw_627 : decode code 627 = .ok (.aload_n 0, 1) := by decide +kernel
theorem dLw_628 : decode code 628 = .ok (.iload_n 3, 1) := by decide +kernel
theorem dLw_629 : decode code 629 = .ok (.iconst 2, 1) := by decide +kernel
theorem dLw_630 : decode code 630 = .ok (.iadd, 1) := by decide +kernel
theorem dLw_631 : decode code 631 = .ok (.iaload, 1) := by decide +kernel
theorem dLw_632 : decode code 632 = .ok (.ifCond .eq 7, 3) := by decide +kernel
theorem dLw_635 : decode code 635 = .ok (.iconst 1, 1) := by decide +kernel
theorem dLw_636 : decode code 636 = .ok (.goto 4, 3) := by decide +kernel
theorem dLw_639 : decode code 639 = .ok (.iconst 0, 1) := by decide +kernel
theorem dLw_640 : decode code 640 = .ok (.invokevirtual 63, 3) := by decide +kernel
theorem dLw_643 : decode code 643 = .ok (.aload_n 2, 1) := by decide +kernel
theorem dLw_644 : decode code 644 = .ok (.aload_n 0, 1) := by decide +kernel
theorem dLw_645 : decode code 645 = .ok (.iload_n 3, 1) := by decide +kernel
theorem dLw_646 : decode code 646 = .ok (.iconst 1, 1) := by decide +kernel
theorem dLw_647 : decode code 647 = .ok (.iadd, 1) := by decide +kernel
theorem dLw_648 : decode code 648 = .ok (.iaload, 1) := by decide +kernel
theorem dLw_649 : decode code 649 = .ok (.aload_n 0, 1) := by decide +kernel
theorem dLw_650 : decode code 650 = .ok (.iload_n 3, 1) := by decide +kernel
theorem dLw_651 : decode code 651 = .ok (.iconst 2, 1) := by decide +kernel
theorem dLw_652 : decode code 652 = .ok (.iadd, 1) := by decide +kernel
theorem dLw_653 : decode code 653 = .ok (.iaload, 1) := by decide +kernel
theorem dLw_654 : decode code 654 = .ok (.ifCond .eq 7, 3) := by decide +kernel
theorem dLw_657 : decode code 657 = .ok (.iconst 1, 1) := by decide +kernel
theorem dLw_658 : decode code 658 = .ok (.goto 4, 3) := by decide +kernel
theorem dLw_661 : decode code 661 = .ok (.iconst 0, 1) := by decide +kernel
theorem dLw_662 : decode code 662 = .ok (.invokevirtual 67, 3) := by decide +kernel
theorem dLw_665 : decode code 665 = .ok (.if_icmp .eq 1033, 3) := by decide +kernel
theorem dLw_668 : decode code 668 = .ok (.iconst 0, 1) := by decide +kernel
theorem dLw_669 : decode code 669 = .ok (.ireturn, 1) := by decide +kernel
theorem dLw_670 : decode code 670 = .ok (.aload_n 1, 1) := by decide +kernel
theorem dLw_671 : decode code 671 = .ok (.aload_n 0, 1) := by decide +kernel
theorem dLw_672 : decode code 672 = .ok (.iload_n 3, 1) := by decide +kernel
theorem dLw_673 : decode code 673 = .ok (.iconst 1, 1) := by decide +kernel
theorem dLw_674 : decode code 674 = .ok (.iadd, 1) := by decide +kernel
theorem dLw_675 : decode code 675 = .ok (.iaload, 1) := by decide +kernel
theorem dLw_676 : decode code 676 = .ok (.aload_n 0, 1) := by decide +kernel
theorem dLw_677 : decode code 677 = .ok (.iload_n 3, 1) := by decide +kernel
theorem dLw_678 : decode code 678 = .ok (.iconst 2, 1) := by decide +kernel
theorem dLw_679 : decode code 679 = .ok (.iadd, 1) := by decide +kernel
theorem dLw_680 : decode code 680 = .ok (.iaload, 1) := by decide +kernel
theorem dLw_681 : decode code 681 = .ok (.invokevirtual 68, 3) := by decide +kernel
theorem dLw_684 : decode code 684 = .ok (.aload_n 2, 1) := by decide +kernel
theorem dLw_685 : decode code 685 = .ok (.aload_n 0, 1) := by decide +kernel
theorem dLw_686 : decode code 686 = .ok (.iload_n 3, 1) := by decide +kernel
theorem dLw_687 : decode code 687 = .ok (.iconst 1, 1) := by decide +kernel
theorem dLw_688 : decode code 688 = .ok (.iadd, 1) := by decide +kernel
theorem dLw_689 : decode code 689 = .ok (.iaload, 1) := by decide +kernel
theorem dLw_690 : decode code 690 = .ok (.aload_n 0, 1) := by decide +kernel
theorem dLw_691 : decode code 691 = .ok (.iload_n 3, 1) := by decide +kernel
theorem dLw_692 : decode code 692 = .ok (.iconst 2, 1) := by decide +kernel
theorem dLw_693 : decode code 693 = .ok (.iadd, 1) := by decide +kernel
theorem dLw_694 : decode code 694 = .ok (.iaload, 1) := by decide +kernel
theorem dLw_695 : decode code 695 = .ok (.invokevirtual 71, 3) := by decide +kernel
theorem dLw_698 : decode code 698 = .ok (.if_icmp .eq 1000, 3) := by decide +kernel
theorem dLw_701 : decode code 701 = .ok (.iconst 0, 1) := by decide +kernel
theorem dLw_702 : decode code 702 = .ok (.ireturn, 1) := by decide +kernel
theorem dLw_703 : decode code 703 = .ok (.aload_n 1, 1) := by decide +kernel
theorem dLw_704 : decode code 704 = .ok (.aload_n 0, 1) := by decide +kernel
theorem dLw_705 : decode code 705 = .ok (.iload_n 3, 1) := by decide +kernel
theorem dLw_706 : decode code 706 = .ok (.iconst 1, 1) := by decide +kernel
theorem dLw_707 : decode code 707 = .ok (.iadd, 1) := by decide +kernel
theorem dLw_708 : decode code 708 = .ok (.iaload, 1) := by decide +kernel
theorem dLw_709 : decode code 709 = .ok (.invokevirtual 72, 3) := by decide +kernel
theorem dLw_712 : decode code 712 = .ok (.aload_n 2, 1) := by decide +kernel
theorem dLw_713 : decode code 713 = .ok (.aload_n 0, 1) := by decide +kernel
theorem dLw_714 : decode code 714 = .ok (.iload_n 3, 1) := by decide +kernel
theorem dLw_715 : decode code 715 = .ok (.iconst 1, 1) := by decide +kernel
theorem dLw_716 : decode code 716 = .ok (.iadd, 1) := by decide +kernel
theorem dLw_717 : decode code 717 = .ok (.iaload, 1) := by decide +kernel
theorem dLw_718 : decode code 718 = .ok (.invokevirtual 75, 3) := by decide +kernel
theorem dLw_721 : decode code 721 = .ok (.if_icmp .eq 977, 3) := by decide +kernel
theorem dLw_724 : decode code 724 = .ok (.iconst 0, 1) := by decide +kernel
theorem dLw_725 : decode code 725 = .ok (.ireturn, 1) := by decide +kernel
theorem dLw_726 : decode code 726 = .ok (.aload_n 1, 1) := by decide +kernel
theorem dLw_727 : decode code 727 = .ok (.aload_n 0, 1) := by decide +kernel
theorem dLw_728 : decode code 728 = .ok (.iload_n 3, 1) := by decide +kernel
theorem dLw_729 : decode code 729 = .ok (.iconst 1, 1) := by decide +kernel
theorem dLw_730 : decode code 730 = .ok (.iadd, 1) := by decide +kernel
theorem dLw_731 : decode code 731 = .ok (.iaload, 1) := by decide +kernel
theorem dLw_732 : decode code 732 = .ok (.aload_n 0, 1) := by decide +kernel
theorem dLw_733 : decode code 733 = .ok (.iload_n 3, 1) := by decide +kernel
theorem dLw_734 : decode code 734 = .ok (.iconst 2, 1) := by decide +kernel
theorem dLw_735 : decode code 735 = .ok (.iadd, 1) := by decide +kernel
theorem dLw_736 : decode code 736 = .ok (.iaload, 1) := by decide +kernel
theorem dLw_737 : decode code 737 = .ok (.invokevirtual 76, 3) := by decide +kernel
theorem dLw_740 : decode code 740 = .ok (.aload_n 2, 1) := by decide +kernel
theorem dLw_741 : decode code 741 = .ok (.aload_n 0, 1) := by decide +kernel
theorem dLw_742 : decode code 742 = .ok (.iload_n 3, 1) := by decide +kernel
theorem dLw_743 : decode code 743 = .ok (.iconst 1, 1) := by decide +kernel
theorem dLw_744 : decode code 744 = .ok (.iadd, 1) := by decide +kernel
theorem dLw_745 : decode code 745 = .ok (.iaload, 1) := by decide +kernel
theorem dLw_746 : decode code 746 = .ok (.aload_n 0, 1) := by decide +kernel
theorem dLw_747 : decode code 747 = .ok (.iload_n 3, 1) := by decide +kernel
theorem dLw_748 : decode code 748 = .ok (.iconst 2, 1) := by decide +kernel
theorem dLw_749 : decode code 749 = .ok (.iadd, 1) := by decide +kernel
theorem dLw_750 : decode code 750 = .ok (.iaload, 1) := by decide +kernel
theorem dLw_751 : decode code 751 = .ok (.invokevirtual 79, 3) := by decide +kernel
theorem dLw_754 : decode code 754 = .ok (.if_icmp .eq 944, 3) := by decide +kernel
theorem dLw_757 : decode code 757 = .ok (.iconst 0, 1) := by decide +kernel
theorem dLw_758 : decode code 758 = .ok (.ireturn, 1) := by decide +kernel
theorem dLw_759 : decode code 759 = .ok (.aload_n 1, 1) := by decide +kernel
theorem dLw_760 : decode code 760 = .ok (.aload_n 0, 1) := by decide +kernel
theorem dLw_761 : decode code 761 = .ok (.iload_n 3, 1) := by decide +kernel
theorem dLw_762 : decode code 762 = .ok (.iconst 1, 1) := by decide +kernel
theorem dLw_763 : decode code 763 = .ok (.iadd, 1) := by decide +kernel
theorem dLw_764 : decode code 764 = .ok (.iaload, 1) := by decide +kernel
theorem dLw_765 : decode code 765 = .ok (.aload_n 0, 1) := by decide +kernel
theorem dLw_766 : decode code 766 = .ok (.iload_n 3, 1) := by decide +kernel
theorem dLw_767 : decode code 767 = .ok (.iconst 2, 1) := by decide +kernel
theorem dLw_768 : decode code 768 = .ok (.iadd, 1) := by decide +kernel
theorem dLw_769 : decode code 769 = .ok (.iaload, 1) := by decide +kernel
theorem dLw_770 : decode code 770 = .ok (.invokevirtual 80, 3) := by decide +kernel
theorem dLw_773 : decode code 773 = .ok (.aload_n 2, 1) := by decide +kernel
theorem dLw_774 : decode code 774 = .ok (.aload_n 0, 1) := by decide +kernel
theorem dLw_775 : decode code 775 = .ok (.iload_n 3, 1) := by decide +kernel
theorem dLw_776 : decode code 776 = .ok (.iconst 1, 1) := by decide +kernel
theorem dLw_777 : decode code 777 = .ok (.iadd, 1) := by decide +kernel
theorem dLw_778 : decode code 778 = .ok (.iaload, 1) := by decide +kernel
theorem dLw_779 : decode code 779 = .ok (.aload_n 0, 1) := by decide +kernel
theorem dLw_780 : decode code 780 = .ok (.iload_n 3, 1) := by decide +kernel
theorem dLw_781 : decode code 781 = .ok (.iconst 2, 1) := by decide +kernel
theorem dLw_782 : decode code 782 = .ok (.iadd, 1) := by decide +kernel
theorem dLw_783 : decode code 783 = .ok (.iaload, 1) := by decide +kernel
theorem dLw_784 : decode code 784 = .ok (.invokevirtual 83, 3) := by decide +kernel
theorem dLw_787 : decode code 787 = .ok (.if_icmp .eq 911, 3) := by decide +kernel
theorem dLw_790 : decode code 790 = .ok (.iconst 0, 1) := by decide +kernel
theorem dLw_791 : decode code 791 = .ok (.ireturn, 1) := by decide +kernel
theorem dLw_792 : decode code 792 = .ok (.aload_n 1, 1) := by decide +kernel
theorem dLw_793 : decode code 793 = .ok (.aload_n 0, 1) := by decide +kernel
theorem dLw_794 : decode code 794 = .ok (.iload_n 3, 1) := by decide +kernel
theorem dLw_795 : decode code 795 = .ok (.iconst 1, 1) := by decide +kernel
theorem dLw_796 : decode code 796 = .ok (.iadd, 1) := by decide +kernel
theorem dLw_797 : decode code 797 = .ok (.iaload, 1) := by decide +kernel
theorem dLw_798 : decode code 798 = .ok (.aload_n 0, 1) := by decide +kernel
theorem dLw_799 : decode code 799 = .ok (.iload_n 3, 1) := by decide +kernel
theorem dLw_800 : decode code 800 = .ok (.iconst 2, 1) := by decide +kernel
theorem dLw_801 : decode code 801 = .ok (.iadd, 1) := by decide +kernel
