theorem d_law_522 : decode code 522 = .ok (.aload_n 1, 1) := by decide +kernel
theorem d_law_523 : decode code 523 = .ok (.aload_n 0, 1) := by decide +kernel
theorem d_law_524 : decode code 524 = .ok (.iload_n 3, 1) := by decide +kernel
theorem d_law_525 : decode code 525 = .ok (.iconst 1, 1) := by decide +kernel
theorem d_law_526 : decode code 526 = .ok (.iadd, 1) := by decide +kernel
theorem d_law_527 : decode code 527 = .ok (.iaload, 1) := by decide +kernel
theorem d_law_528 : decode code 528 = .ok (.invokevirtual 69, 3) := by decide +kernel
theorem d_law_531 : decode code 531 = .ok (.aload_n 2, 1) := by decide +kernel
theorem d_law_532 : decode code 532 = .ok (.aload_n 0, 1) := by decide +kernel
theorem d_law_533 : decode code 533 = .ok (.iload_n 3, 1) := by decide +kernel
theorem d_law_534 : decode code 534 = .ok (.iconst 1, 1) := by decide +kernel
theorem d_law_535 : decode code 535 = .ok (.iadd, 1) := by decide +kernel
theorem d_law_536 : decode code 536 = .ok (.iaload, 1) := by decide +kernel
theorem d_law_537 : decode code 537 = .ok (.invokevirtual 72, 3) := by decide +kernel
theorem d_law_540 : decode code 540 = .ok (.if_icmp .eq 222, 3) := by decide +kernel
theorem d_law_543 : decode code 543 = .ok (.iconst 0, 1) := by decide +kernel
theorem d_law_544 : decode code 544 = .ok (.ireturn, 1) := by decide +kernel
theorem d_law_545 : decode code 545 = .ok (.aload_n 1, 1) := by decide +kernel
theorem d_law_546 : decode code 546 = .ok (.aload_n 0, 1) := by decide +kernel
theorem d_law_547 : decode code 547 = .ok (.iload_n 3, 1) := by decide +kernel
theorem d_law_548 : decode code 548 = .ok (.iconst 1, 1) := by decide +kernel
theorem d_law_549 : decode code 549 = .ok (.iadd, 1) := by decide +kernel
theorem d_law_550 : decode code 550 = .ok (.iaload, 1) := by decide +kernel
theorem d_law_551 : decode code 551 = .ok (.invokevirtual 73, 3) := by decide +kernel
theorem d_law_554 : decode code 554 = .ok (.aload_n 2, 1) := by decide +kernel
theorem d_law_555 : decode code 555 = .ok (.aload_n 0, 1) := by decide +kernel
theorem d_law_556 : decode code 556 = .ok (.iload_n 3, 1) := by decide +kernel
theorem d_law_557 : decode code 557 = .ok (.iconst 1, 1) := by decide +kernel
theorem d_law_558 : decode code 558 = .ok (.iadd, 1) := by decide +kernel
theorem d_law_559 : decode code 559 = .ok (.iaload, 1) := by decide +kernel
theorem d_law_560 : decode code 560 = .ok (.invokevirtual 76, 3) := by decide +kernel
theorem d_law_563 : decode code 563 = .ok (.if_icmp .eq 199, 3) := by decide +kernel
theorem d_law_566 : decode code 566 = .ok (.iconst 0, 1) := by decide +kernel
theorem d_law_567 : decode code 567 = .ok (.ireturn, 1) := by decide +kernel
theorem d_law_568 : decode code 568 = .ok (.aload_n 1, 1) := by decide +kernel
theorem d_law_569 : decode code 569 = .ok (.aload_n 0, 1) := by decide +kernel
theorem d_law_570 : decode code 570 = .ok (.iload_n 3, 1) := by decide +kernel
theorem d_law_571 : decode code 571 = .ok (.iconst 1, 1) := by decide +kernel
theorem d_law_572 : decode code 572 = .ok (.iadd, 1) := by decide +kernel
theorem d_law_573 : decode code 573 = .ok (.iaload, 1) := by decide +kernel
theorem d_law_574 : decode code 574 = .ok (.invokevirtual 77, 3) := by decide +kernel
theorem d_law_577 : decode code 577 = .ok (.aload_n 2, 1) := by decide +kernel
theorem d_law_578 : decode code 578 = .ok (.aload_n 0, 1) := by decide +kernel
theorem d_law_579 : decode code 579 = .ok (.iload_n 3, 1) := by decide +kernel
theorem d_law_580 : decode code 580 = .ok (.iconst 1, 1) := by decide +kernel
theorem d_law_581 : decode code 581 = .ok (.iadd, 1) := by decide +kernel
theorem d_law_582 : decode code 582 = .ok (.iaload, 1) := by decide +kernel
theorem d_law_583 : decode code 583 = .ok (.invokevirtual 80, 3) := by decide +kernel
theorem d_law_586 : decode code 586 = .ok (.if_icmp .eq 176, 3) := by decide +kernel
theorem d_law_589 : decode code 589 = .ok (.iconst 0, 1) := by decide +kernel
theorem d_law_590 : decode code 590 = .ok (.ireturn, 1) := by decide +kernel
theorem d_law_591 : decode code 591 = .ok (.aload_n 1, 1) := by decide +kernel
theorem d_law_592 : decode code 592 = .ok (.aload_n 0, 1) := by decide +kernel
theorem d_law_593 : decode code 593 = .ok (.iload_n 3, 1) := by decide +kernel
theorem d_law_594 : decode code 594 = .ok (.iconst 1, 1) := by decide +kernel
theorem d_law_595 : decode code 595 = .ok (.iadd, 1) := by decide +kernel
theorem d_law_596 : decode code 596 = .ok (.iaload, 1) := by decide +kernel
theorem d_law_597 : decode code 597 = .ok (.aload_n 0, 1) := by decide +kernel
theorem d_law_598 : decode code 598 = .ok (.iload_n 3, 1) := by decide +kernel
theorem d_law_599 : decode code 599 = .ok (.iconst 2, 1) := by decide +kernel
theorem d_law_600 : decode code 600 = .ok (.iadd, 1) := by decide +kernel
theorem d_law_601 : decode code 601 = .ok (.iaload, 1) := by decide +kernel
theorem d_law_602 : decode code 602 = .ok (.invokevirtual 81, 3) := by decide +kernel
theorem d_law_605 : decode code 605 = .ok (.aload_n 2, 1) := by decide +kernel
theorem d_law_606 : decode code 606 = .ok (.aload_n 0, 1) := by decide +kernel
theorem d_law_607 : decode code 607 = .ok (.iload_n 3, 1) := by decide +kernel
theorem d_law_608 : decode code 608 = .ok (.iconst 1, 1) := by decide +kernel
theorem d_law_609 : decode code 609 = .ok (.iadd, 1) := by decide +kernel
theorem d_law_610 : decode code 610 = .ok (.iaload, 1) := by decide +kernel
theorem d_law_611 : decode code 611 = .ok (.aload_n 0, 1) := by decide +kernel
theorem d_law_612 : decode code 612 = .ok (.iload_n 3, 1) := by decide +kernel
theorem d_law_613 : decode code 613 = .ok (.iconst 2, 1) := by decide +kernel
theorem d_law_614 : decode code 614 = .ok (.iadd, 1) := by decide +kernel
theorem d_law_615 : decode code 615 = .ok (.iaload, 1) := by decide +kernel
theorem d_law_616 : decode code 616 = .ok (.invokevirtual 84, 3) := by decide +kernel
theorem d_law_619 : decode code 619 = .ok (.if_icmp .eq 143, 3) := by decide +kernel
theorem d_law_622 : decode code 622 = .ok (.iconst 0, 1) := by decide +kernel
theorem d_law_623 : decode code 623 = .ok (.ireturn, 1) := by decide +kernel
theorem d_law_624 : decode code 624 = .ok (.aload_n 1, 1) := by decide +kernel
theorem d_law_625 : decode code 625 = .ok (.aload_n 0, 1) := by decide +kernel
theorem d_law_626 : decode code 626 = .ok (.iload_n 3, 1) := by decide +kernel
theorem d_law_627 : decode code 627 = .ok (.iconst 1, 1) := by decide +kernel
theorem d_law_628 : decode code 628 = .ok (.iadd, 1) := by decide +kernel
theorem d_law_629 : decode code 629 = .ok (.iaload, 1) := by decide +kernel
theorem d_law_630 : decode code 630 = .ok (.aload_n 0, 1) := by decide +kernel
theorem d_law_631 : decode code 631 = .ok (.iload_n 3, 1) := by decide +kernel
theorem d_law_632 : decode code 632 = .ok (.iconst 2, 1) := by decide +kernel
theorem d_law_633 : decode code 633 = .ok (.iadd, 1) := by decide +kernel
theorem d_law_634 : decode code 634 = .ok (.iaload, 1) := by decide +kernel
theorem d_law_635 : decode code 635 = .ok (.invokevirtual 85, 3) := by decide +kernel
theorem d_law_638 : decode code 638 = .ok (.aload_n 2, 1) := by decide +kernel
theorem d_law_639 : decode code 639 = .ok (.aload_n 0, 1) := by decide +kernel
theorem d_law_640 : decode code 640 = .ok (.iload_n 3, 1) := by decide +kernel
theorem d_law_641 : decode code 641 = .ok (.iconst 1, 1) := by decide +kernel
theorem d_law_642 : decode code 642 = .ok (.iadd, 1) := by decide +kernel
theorem d_law_643 : decode code 643 = .ok (.iaload, 1) := by decide +kernel
theorem d_law_644 : decode code 644 = .ok (.aload_n 0, 1) := by decide +kernel
theorem d_law_645 : decode code 645 = .ok (.iload_n 3, 1) := by decide +kernel
theorem d_law_646 : decode code 646 = .ok (.iconst 2, 1) := by decide +kernel
theorem d_law_647 : decode code 647 = .ok (.iadd, 1) := by decide +kernel
theorem d_law_648 : decode code 648 = .ok (.iaload, 1) := by decide +kernel
theorem d_law_649 : decode code 649 = .ok (.invokevirtual 88, 3) := by decide +kernel
theorem d_law_652 : decode code 652 = .ok (.if_icmp .eq 110, 3) := by decide +kernel
theorem d_law_655 : decode code 655 = .ok (.iconst 0, 1) := by decide +kernel
theorem d_law_656 : decode code 656 = .ok (.ireturn, 1) := by decide +kernel
theorem d_law_657 : decode code 657 = .ok (.aload_n 1, 1) := by decide +kernel
theorem d_law_658 : decode code 658 = .ok (.aload_n 0, 1) := by decide +kernel
theorem d_law_659 : decode code 659 = .ok (.iload_n 3, 1) := by decide +kernel
theorem d_law_660 : decode code 660 = .ok (.iconst 1, 1) := by decide +kernel
theorem d_law_661 : decode code 661 = .ok (.iadd, 1) := by decide +kernel
theorem d_law_662 : decode code 662 = .ok (.iaload, 1) := by decide +kernel
theorem d_law_663 : decode code 663 = .ok (.invokevirtual 89, 3) := by decide +kernel
theorem d_law_666 : decode code 666 = .ok (.aload_n 2, 1) := by decide +kernel
theorem d_law_667 : decode code 667 = .ok (.aload_n 0, 1) := by decide +kernel
theorem d_law_668 : decode code 668 = .ok (.iload_n 3, 1) := by decide +kernel
theorem d_law_669 : decode code 669 = .ok (.iconst 1, 1) := by decide +kernel
theorem d_law_670 : decode code 670 = .ok (.iadd, 1) := by decide +kernel
theorem d_law_671 : decode code 671 = .ok (.iaload, 1) := by decide +kernel
theorem d_law_672 : decode code 672 = .ok (.invokevirtual 92, 3) := by decide +kernel
theorem d_law_675 : decode code 675 = .ok (.if_icmp .eq 87, 3) := by decide +kernel
theorem d_law_678 : decode code 678 = .ok (.iconst 0, 1) := by decide +kernel
theorem d_law_679 : decode code 679 = .ok (.ireturn, 1) := by decide +kernel
theorem d_law_680 : decode code 680 = .ok (.aload_n 1, 1) := by decide +kernel
theorem d_law_681 : decode code 681 = .ok (.aload_n 0, 1) := by decide +kernel
theorem d_law_682 : decode code 682 = .ok (.iload_n 3, 1) := by decide +kernel
theorem d_law_683 : decode code 683 = .ok (.iconst 1, 1) := by decide +kernel
theorem d_law_684 : decode code 684 = .ok (.iadd, 1) := by decide +kernel
theorem d_law_685 : decode code 685 = .ok (.iaload, 1) := by decide +kernel
theorem d_law_686 : decode code 686 = .ok (.invokevirtual 93, 3) := by decide +kernel
theorem d_law_689 : decode code 689 = .ok (.aload_n 2, 1) := by decide +kernel
theorem d_law_690 : decode code 690 = .ok (.aload_n 0, 1) := by decide +kernel
theorem d_law_691 : decode code 691 = .ok (.iload_n 3, 1) := by decide +kernel
theorem d_law_692 : decode code 692 = .ok (.iconst 1, 1) := by decide +kernel
theorem d_law_693 : decode code 693 = .ok (.iadd, 1) := by decide +kernel
theorem d_law_694 : decode code 694 = .ok (.iaload, 1) := by decide +kernel
theorem d_law_695 : decode code 695 = .ok (.invokevirtual 96, 3) := by decide +kernel
theorem d_law_698 : decode code 698 = .ok (.if_icmp .eq 64, 3) := by decide +kernel
theorem d_law_701 : decode code 701 = .ok (.iconst 0, 1) := by decide +kernel
theorem d_law_702 : decode code 702 = .ok (.ireturn, 1) := by decide +kernel
theorem d_law_703 : decode code 703 = .ok (.aload_n 1, 1) := by decide +kernel
theorem d_law_704 : decode code 704 = .ok (.invokevirtual 97, 3) := by decide +kernel
theorem d_law_707 : decode code 707 = .ok (.aload_n 2, 1) := by decide +kernel
theorem d_law_708 : decode code 708 = .ok (.invokevirtual 100, 3) := by decide +kernel
theorem d_law_711 : decode code 711 = .ok (.if_icmp .eq 51, 3) := by decide +kernel
theorem d_law_714 : decode code 714 = .ok (.iconst 0, 1) := by decide +kernel
theorem d_law_715 : decode code 715 = .ok (.ireturn, 1) := by decide +kernel
theorem d_law_716 : decode code 716 = .ok (.aload_n 1, 1) := by decide +kernel
theorem d_law_717 : decode code 717 = .ok (.aload_n 0, 1) := by decide +kernel
theorem d_law_718 : decode code 718 = .ok (.iload_n 3, 1) := by decide +kernel
theorem d_law_719 : decode code 719 = .ok (.iconst 1, 1) := by decide +kernel
theorem d_law_720 : decode code 720 = .ok (.iadd, 1) := by decide +kernel
theorem d_law_721 : decode code 721 = .ok (.iaload, 1) := by decide +kernel
theorem d_law_722 : decode code 722 = .ok (.invokevirtual 101, 3) := by decide +kernel
theorem d_law_725 : decode code 725 = .ok (.aload_n 2, 1) := by decide +kernel
theorem d_law_726 : decode code 726 = .ok (.aload_n 0, 1) := by decide +kernel
theorem d_law_727 : decode code 727 = .ok (.iload_n 3, 1) := by decide +kernel
theorem d_law_728 : decode code 728 = .ok (.iconst 1, 1) := by decide +kernel
theorem d_law_729 : decode code 729 = .ok (.iadd, 1) := by decide +kernel
theorem d_law_730 : decode code 730 = .ok (.iaload, 1) := by decide +kernel
theorem d_law_731 : decode code 731 = .ok (.invokevirtual 104, 3) := by decide +kernel
theorem d_law_734 : decode code 734 = .ok (.if_icmp .eq 28, 3) := by decide +kernel
theorem d_law_737 : decode code 737 = .ok (.iconst 0, 1) := by decide +kernel
theorem d_law_738 : decode code 738 = .ok (.ireturn, 1) := by decide +kernel
theorem d_law_739 : decode code 739 = .ok (.aload_n 1, 1) := by decide +kernel
theorem d_law_740 : decode code 740 = .ok (.aload_n 0, 1) := by decide +kernel
theorem d_law_741 : decode code 741 = .ok (.iload_n 3, 1) := by decide +kernel
theorem d_law_742 : decode code 742 = .ok (.iconst 1, 1) := by decide +kernel
theorem d_law_743 : decode code 743 = .ok (.iadd, 1) := by decide +kernel
theorem d_law_744 : decode code 744 = .ok (.iaload, 1) := by decide +kernel
theorem d_law_745 : decode code 745 = .ok (.invokevirtual 105, 3) := by decide +kernel
theorem d_law_748 : decode code 748 = .ok (.aload_n 2, 1) := by decide +kernel
theorem d_law_749 : decode code 749 = .ok (.aload_n 0, 1) := by decide +kernel
theorem d_law_750 : decode code 750 = .ok (.iload_n 3, 1) := by decide +kernel
theorem d_law_751 : decode code 751 = .ok (.iconst 1, 1) := by decide +kernel
theorem d_law_752 : decode code 752 = .ok (.iadd, 1) := by decide +kernel
theorem d_law_753 : decode code 753 = .ok (.iaload, 1) := by decide +kernel
theorem d_law_754 : decode code 754 = .ok (.invokevirtual 108, 3) := by decide +kernel
theorem d_law_757 : decode code 757 = .ok (.if_icmp .eq 5, 3) := by decide +kernel
theorem d_law_760 : decode code 760 = .ok (.iconst 0, 1) := by decide +kernel
theorem d_law_761 : decode code 761 = .ok (.ireturn, 1) := by decide +kernel
theorem d_law_762 : decode code 762 = .ok (.iinc 3 5, 3) := by decide +kernel
theorem d_law_765 : decode code 765 = .ok (.goto (-747), 3) := by decide +kernel
theorem d_law_768 : decode code 768 = .ok (.iconst 1, 1) := by decide +kernel
theorem d_law_769 : decode code 769 = .ok (.ireturn, 1) := by decide +kernel
