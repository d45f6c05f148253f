/-! decode rows of the law (printed) -/
theorem d_Lw_law_530 : decode code 530 = .ok (.aload_n 1, 1) := by decide +kernel
theorem d_Lw_law_531 : decode code 531 = .ok (.invokevirtual 73, 3) := by decide +kernel
theorem d_Lw_law_534 : decode code 534 = .ok (.aload_n 2, 1) := by decide +kernel
theorem d_Lw_law_535 : decode code 535 = .ok (.invokevirtual 76, 3) := by decide +kernel
theorem d_Lw_law_538 : decode code 538 = .ok (.if_icmp .eq 647, 3) := by decide +kernel
theorem d_Lw_law_541 : decode code 541 = .ok (.iconst 0, 1) := by decide +kernel
theorem d_Lw_law_542 : decode code 542 = .ok (.ireturn, 1) := by decide +kernel
theorem d_Lw_law_543 : decode code 543 = .ok (.aload_n 1, 1) := by decide +kernel
theorem d_Lw_law_544 : decode code 544 = .ok (.invokevirtual 77, 3) := by decide +kernel
theorem d_Lw_law_547 : decode code 547 = .ok (.aload_n 2, 1) := by decide +kernel
theorem d_Lw_law_548 : decode code 548 = .ok (.invokevirtual 80, 3) := by decide +kernel
theorem d_Lw_law_551 : decode code 551 = .ok (.if_icmp .eq 634, 3) := by decide +kernel
theorem d_Lw_law_554 : decode code 554 = .ok (.iconst 0, 1) := by decide +kernel
theorem d_Lw_law_555 : decode code 555 = .ok (.ireturn, 1) := by decide +kernel
theorem d_Lw_law_556 : decode code 556 = .ok (.aload_n 1, 1) := by decide +kernel
theorem d_Lw_law_557 : decode code 557 = .ok (.aload_n 0, 1) := by decide +kernel
theorem d_Lw_law_558 : decode code 558 = .ok (.iload_n 3, 1) := by decide +kernel
theorem d_Lw_law_559 : decode code 559 = .ok (.iconst 1, 1) := by decide +kernel
theorem d_Lw_law_560 : decode code 560 = .ok (.iadd, 1) := by decide +kernel
theorem d_Lw_law_561 : decode code 561 = .ok (.iaload, 1) := by decide +kernel
theorem d_Lw_law_562 : decode code 562 = .ok (.aload_n 0, 1) := by decide +kernel
theorem d_Lw_law_563 : decode code 563 = .ok (.iload_n 3, 1) := by decide +kernel
theorem d_Lw_law_564 : decode code 564 = .ok (.iconst 2, 1) := by decide +kernel
theorem d_Lw_law_565 : decode code 565 = .ok (.iadd, 1) := by decide +kernel
theorem d_Lw_law_566 : decode code 566 = .ok (.iaload, 1) := by decide +kernel
theorem d_Lw_law_567 : decode code 567 = .ok (.invokevirtual 81, 3) := by decide +kernel
theorem d_Lw_law_570 : decode code 570 = .ok (.aload_n 2, 1) := by decide +kernel
theorem d_Lw_law_571 : decode code 571 = .ok (.aload_n 0, 1) := by decide +kernel
theorem d_Lw_law_572 : decode code 572 = .ok (.iload_n 3, 1) := by decide +kernel
theorem d_Lw_law_573 : decode code 573 = .ok (.iconst 1, 1) := by decide +kernel
theorem d_Lw_law_574 : decode code 574 = .ok (.iadd, 1) := by decide +kernel
theorem d_Lw_law_575 : decode code 575 = .ok (.iaload, 1) := by decide +kernel
theorem d_Lw_law_576 : decode code 576 = .ok (.aload_n 0, 1) := by decide +kernel
theorem d_Lw_law_577 : decode code 577 = .ok (.iload_n 3, 1) := by decide +kernel
theorem d_Lw_law_578 : decode code 578 = .ok (.iconst 2, 1) := by decide +kernel
theorem d_Lw_law_579 : decode code 579 = .ok (.iadd, 1) := by decide +kernel
theorem d_Lw_law_580 : decode code 580 = .ok (.iaload, 1) := by decide +kernel
theorem d_Lw_law_581 : decode code 581 = .ok (.invokevirtual 84, 3) := by decide +kernel
theorem d_Lw_law_584 : decode code 584 = .ok (.if_icmp .eq 601, 3) := by decide +kernel
theorem d_Lw_law_587 : decode code 587 = .ok (.iconst 0, 1) := by decide +kernel
theorem d_Lw_law_588 : decode code 588 = .ok (.ireturn, 1) := by decide +kernel
theorem d_Lw_law_589 : decode code 589 = .ok (.aload_n 1, 1) := by decide +kernel
theorem d_Lw_law_590 : decode code 590 = .ok (.aload_n 0, 1) := by decide +kernel
theorem d_Lw_law_591 : decode code 591 = .ok (.iload_n 3, 1) := by decide +kernel
theorem d_Lw_law_592 : decode code 592 = .ok (.iconst 1, 1) := by decide +kernel
theorem d_Lw_law_593 : decode code 593 = .ok (.iadd, 1) := by decide +kernel
theorem d_Lw_law_594 : decode code 594 = .ok (.iaload, 1) := by decide +kernel
theorem d_Lw_law_595 : decode code 595 = .ok (.aload_n 0, 1) := by decide +kernel
theorem d_Lw_law_596 : decode code 596 = .ok (.iload_n 3, 1) := by decide +kernel
theorem d_Lw_law_597 : decode code 597 = .ok (.iconst 2, 1) := by decide +kernel
theorem d_Lw_law_598 : decode code 598 = .ok (.iadd, 1) := by decide +kernel
theorem d_Lw_law_599 : decode code 599 = .ok (.iaload, 1) := by decide +kernel
theorem d_Lw_law_600 : decode code 600 = .ok (.invokevirtual 85, 3) := by decide +kernel
theorem d_Lw_law_603 : decode code 603 = .ok (.aload_n 2, 1) := by decide +kernel
theorem d_Lw_law_604 : decode code 604 = .ok (.aload_n 0, 1) := by decide +kernel
theorem d_Lw_law_605 : decode code 605 = .ok (.iload_n 3, 1) := by decide +kernel
theorem d_Lw_law_606 : decode code 606 = .ok (.iconst 1, 1) := by decide +kernel
theorem d_Lw_law_607 : decode code 607 = .ok (.iadd, 1) := by decide +kernel
theorem d_Lw_law_608 : decode code 608 = .ok (.iaload, 1) := by decide +kernel
theorem d_Lw_law_609 : decode code 609 = .ok (.aload_n 0, 1) := by decide +kernel
theorem d_Lw_law_610 : decode code 610 = .ok (.iload_n 3, 1) := by decide +kernel
theorem d_Lw_law_611 : decode code 611 = .ok (.iconst 2, 1) := by decide +kernel
theorem d_Lw_law_612 : decode code 612 = .ok (.iadd, 1) := by decide +kernel
theorem d_Lw_law_613 : decode code 613 = .ok (.iaload, 1) := by decide +kernel
theorem d_Lw_law_614 : decode code 614 = .ok (.invokevirtual 88, 3) := by decide +kernel
theorem d_Lw_law_617 : decode code 617 = .ok (.if_icmp .eq 568, 3) := by decide +kernel
theorem d_Lw_law_620 : decode code 620 = .ok (.iconst 0, 1) := by decide +kernel
theorem d_Lw_law_621 : decode code 621 = .ok (.ireturn, 1) := by decide +kernel
theorem d_Lw_law_622 : decode code 622 = .ok (.aload_n 1, 1) := by decide +kernel
theorem d_Lw_law_623 : decode code 623 = .ok (.aload_n 0, 1) := by decide +kernel
theorem d_Lw_law_624 : decode code 624 = .ok (.iload_n 3, 1) := by decide +kernel
theorem d_Lw_law_625 : decode code 625 = .ok (.iconst 1, 1) := by decide +kernel
theorem d_Lw_law_626 : decode code 626 = .ok (.iadd, 1) := by decide +kernel
theorem d_Lw_law_627 : decode code 627 = .ok (.iaload, 1) := by decide +kernel
theorem d_Lw_law_628 : decode code 628 = .ok (.aload_n 0, 1) := by decide +kernel
theorem d_Lw_law_629 : decode code 629 = .ok (.iload_n 3, 1) := by decide +kernel
theorem d_Lw_law_630 : decode code 630 = .ok (.iconst 2, 1) := by decide +kernel
theorem d_Lw_law_631 : decode code 631 = .ok (.iadd, 1) := by decide +kernel
theorem d_Lw_law_632 : decode code 632 = .ok (.iaload, 1) := by decide +kernel
theorem d_Lw_law_633 : decode code 633 = .ok (.invokevirtual 89, 3) := by decide +kernel
theorem d_Lw_law_636 : decode code 636 = .ok (.aload_n 2, 1) := by decide +kernel
theorem d_Lw_law_637 : decode code 637 = .ok (.aload_n 0, 1) := by decide +kernel
theorem d_Lw_law_638 : decode code 638 = .ok (.iload_n 3, 1) := by decide +kernel
theorem d_Lw_law_639 : decode code 639 = .ok (.iconst 1, 1) := by decide +kernel
theorem d_Lw_law_640 : decode code 640 = .ok (.iadd, 1) := by decide +kernel
theorem d_Lw_law_641 : decode code 641 = .ok (.iaload, 1) := by decide +kernel
theorem d_Lw_law_642 : decode code 642 = .ok (.aload_n 0, 1) := by decide +kernel
theorem d_Lw_law_643 : decode code 643 = .ok (.iload_n 3, 1) := by decide +kernel
theorem d_Lw_law_644 : decode code 644 = .ok (.iconst 2, 1) := by decide +kernel
theorem d_Lw_law_645 : decode code 645 = .ok (.iadd, 1) := by decide +kernel
theorem d_Lw_law_646 : decode code 646 = .ok (.iaload, 1) := by decide +kernel
theorem d_Lw_law_647 : decode code 647 = .ok (.invokevirtual 92, 3) := by decide +kernel
theorem d_Lw_law_650 : decode code 650 = .ok (.if_icmp .eq 535, 3) := by decide +kernel
theorem d_Lw_law_653 : decode code 653 = .ok (.iconst 0, 1) := by decide +kernel
theorem d_Lw_law_654 : decode code 654 = .ok (.ireturn, 1) := by decide +kernel
theorem d_Lw_law_655 : decode code 655 = .ok (.aload_n 1, 1) := by decide +kernel
theorem d_Lw_law_656 : decode code 656 = .ok (.aload_n 0, 1) := by decide +kernel
theorem d_Lw_law_657 : decode code 657 = .ok (.iload_n 3, 1) := by decide +kernel
theorem d_Lw_law_658 : decode code 658 = .ok (.iconst 1, 1) := by decide +kernel
theorem d_Lw_law_659 : decode code 659 = .ok (.iadd, 1) := by decide +kernel
theorem d_Lw_law_660 : decode code 660 = .ok (.iaload, 1) := by decide +kernel
theorem d_Lw_law_661 : decode code 661 = .ok (.invokevirtual 93, 3) := by decide +kernel
theorem d_Lw_law_664 : decode code 664 = .ok (.aload_n 2, 1) := by decide +kernel
theorem d_Lw_law_665 : decode code 665 = .ok (.aload_n 0, 1) := by decide +kernel
theorem d_Lw_law_666 : decode code 666 = .ok (.iload_n 3, 1) := by decide +kernel
theorem d_Lw_law_667 : decode code 667 = .ok (.iconst 1, 1) := by decide +kernel
theorem d_Lw_law_668 : decode code 668 = .ok (.iadd, 1) := by decide +kernel
theorem d_Lw_law_669 : decode code 669 = .ok (.iaload, 1) := by decide +kernel
theorem d_Lw_law_670 : decode code 670 = .ok (.invokevirtual 96, 3) := by decide +kernel
theorem d_Lw_law_673 : decode code 673 = .ok (.if_icmp .eq 512, 3) := by decide +kernel
theorem d_Lw_law_676 : decode code 676 = .ok (.iconst 0, 1) := by decide +kernel
theorem d_Lw_law_677 : decode code 677 = .ok (.ireturn, 1) := by decide +kernel
theorem d_Lw_law_678 : decode code 678 = .ok (.aload_n 1, 1) := by decide +kernel
theorem d_Lw_law_679 : decode code 679 = .ok (.aload_n 0, 1) := by decide +kernel
theorem d_Lw_law_680 : decode code 680 = .ok (.iload_n 3, 1) := by decide +kernel
theorem d_Lw_law_681 : decode code 681 = .ok (.iconst 1, 1) := by decide +kernel
theorem d_Lw_law_682 : decode code 682 = .ok (.iadd, 1) := by decide +kernel
theorem d_Lw_law_683 : decode code 683 = .ok (.iaload, 1) := by decide +kernel
theorem d_Lw_law_684 : decode code 684 = .ok (.aload_n 0, 1) := by decide +kernel
theorem d_Lw_law_685 : decode code 685 = .ok (.iload_n 3, 1) := by decide +kernel
theorem d_Lw_law_686 : decode code 686 = .ok (.iconst 2, 1) := by decide +kernel
theorem d_Lw_law_687 : decode code 687 = .ok (.iadd, 1) := by decide +kernel
theorem d_Lw_law_688 : decode code 688 = .ok (.iaload, 1) := by decide +kernel
theorem d_Lw_law_689 : decode code 689 = .ok (.aload_n 0, 1) := by decide +kernel
theorem d_Lw_law_690 : decode code 690 = .ok (.iload_n 3, 1) := by decide +kernel
theorem d_Lw_law_691 : decode code 691 = .ok (.iconst 3, 1) := by decide +kernel
theorem d_Lw_law_692 : decode code 692 = .ok (.iadd, 1) := by decide +kernel
theorem d_Lw_law_693 : decode code 693 = .ok (.iaload, 1) := by decide +kernel
theorem d_Lw_law_694 : decode code 694 = .ok (.invokevirtual 97, 3) := by decide +kernel
theorem d_Lw_law_697 : decode code 697 = .ok (.aload_n 2, 1) := by decide +kernel
theorem d_Lw_law_698 : decode code 698 = .ok (.aload_n 0, 1) := by decide +kernel
theorem d_Lw_law_699 : decode code 699 = .ok (.iload_n 3, 1) := by decide +kernel
theorem d_Lw_law_700 : decode code 700 = .ok (.iconst 1, 1) := by decide +kernel
theorem d_Lw_law_701 : decode code 701 = .ok (.iadd, 1) := by decide +kernel
theorem d_Lw_law_702 : decode code 702 = .ok (.iaload, 1) := by decide +kernel
theorem d_Lw_law_703 : decode code 703 = .ok (.aload_n 0, 1) := by decide +kernel
theorem d_Lw_law_704 : decode code 704 = .ok (.iload_n 3, 1) := by decide +kernel
theorem d_Lw_law_705 : decode code 705 = .ok (.iconst 2, 1) := by decide +kernel
theorem d_Lw_law_706 : decode code 706 = .ok (.iadd, 1) := by decide +kernel
theorem d_Lw_law_707 : decode code 707 = .ok (.iaload, 1) := by decide +kernel
theorem d_Lw_law_708 : decode code 708 = .ok (.aload_n 0, 1) := by decide +kernel
theorem d_Lw_law_709 : decode code 709 = .ok (.iload_n 3, 1) := by decide +kernel
theorem d_Lw_law_710 : decode code 710 = .ok (.iconst 3, 1) := by decide +kernel
theorem d_Lw_law_711 : decode code 711 = .ok (.iadd, 1) := by decide +kernel
theorem d_Lw_law_712 : decode code 712 = .ok (.iaload, 1) := by decide +kernel
theorem d_Lw_law_713 : decode code 713 = .ok (.invokevirtual 100, 3) := by decide +kernel
theorem d_Lw_law_716 : decode code 716 = .ok (.if_icmp .eq 469, 3) := by decide +kernel
theorem d_Lw_law_719 : decode code 719 = .ok (.iconst 0, 1) := by decide +kernel
theorem d_Lw_law_720 : decode code 720 = .ok (.ireturn, 1) := by decide +kernel
theorem d_Lw_law_721 : decode code 721 = .ok (.aload_n 1, 1) := by decide +kernel
theorem d_Lw_law_722 : decode code 722 = .ok (.invokevirtual 101, 3) := by decide +kernel
theorem d_Lw_law_725 : decode code 725 = .ok (.aload_n 2, 1) := by decide +kernel
theorem d_Lw_law_726 : decode code 726 = .ok (.invokevirtual 104, 3) := by decide +kernel
theorem d_Lw_law_729 : decode code 729 = .ok (.if_icmp .eq 456, 3) := by decide +kernel
theorem d_Lw_law_732 : decode code 732 = .ok (.iconst 0, 1) := by decide +kernel
theorem d_Lw_law_733 : decode code 733 = .ok (.ireturn, 1) := by decide +kernel
theorem d_Lw_law_734 : decode code 734 = .ok (.aload_n 1, 1) := by decide +kernel
theorem d_Lw_law_735 : decode code 735 = .ok (.invokevirtual 105, 3) := by decide +kernel
theorem d_Lw_law_738 : decode code 738 = .ok (.aload_n 2, 1) := by decide +kernel
theorem d_Lw_law_739 : decode code 739 = .ok (.invokevirtual 108, 3) := by decide +kernel
theorem d_Lw_law_742 : decode code 742 = .ok (.if_icmp .eq 443, 3) := by decide +kernel
theorem d_Lw_law_745 : decode code 745 = .ok (.iconst 0, 1) := by decide +kernel
theorem d_Lw_law_746 : decode code 746 = .ok (.ireturn, 1) := by decide +kernel
theorem d_Lw_law_747 : decode code 747 = .ok (.aload_n 1, 1) := by decide +kernel
theorem d_Lw_law_748 : decode code 748 = .ok (.aload_n 0, 1) := by decide +kernel
theorem d_Lw_law_749 : decode code 749 = .ok (.iload_n 3, 1) := by decide +kernel
theorem d_Lw_law_750 : decode code 750 = .ok (.iconst 1, 1) := by decide +kernel
theorem d_Lw_law_751 : decode code 751 = .ok (.iadd, 1) := by decide +kernel
theorem d_Lw_law_752 : decode code 752 = .ok (.iaload, 1) := by decide +kernel
theorem d_Lw_law_753 : decode code 753 = .ok (.aload_n 0, 1) := by decide +kernel
theorem d_Lw_law_754 : decode code 754 = .ok (.iload_n 3, 1) := by decide +kernel
theorem d_Lw_law_755 : decode code 755 = .ok (.iconst 2, 1) := by decide +kernel
theorem d_Lw_law_756 : decode code 756 = .ok (.iadd, 1) := by decide +kernel
theorem d_Lw_law_757 : decode code 757 = .ok (.iaload, 1) := by decide +kernel
theorem d_Lw_law_758 : decode code 758 = .ok (.invokevirtual 109, 3) := by decide +kernel
theorem d_Lw_law_761 : decode code 761 = .ok (.aload_n 2, 1) := by decide +kernel
theorem d_Lw_law_762 : decode code 762 = .ok (.aload_n 0, 1) := by decide +kernel
theorem d_Lw_law_763 : decode code 763 = .ok (.iload_n 3, 1) := by decide +kernel
theorem d_Lw_law_764 : decode code 764 = .ok (.iconst 1, 1) := by decide +kernel
theorem d_Lw_law_765 : decode code 765 = .ok (.iadd, 1) := by decide +kernel
theorem d_Lw_law_766 : decode code 766 = .ok (.iaload, 1) := by decide +kernel
theorem d_Lw_law_767 : decode code 767 = .ok (.aload_n 0, 1) := by decide +kernel
theorem d_Lw_law_768 : decode code 768 = .ok (.iload_n 3, 1) := by decide +kernel
theorem d_Lw_law_769 : decode code 769 = .ok (.iconst 2, 1) := by decide +kernel
theorem d_Lw_law_770 : decode code 770 = .ok (.iadd, 1) := by decide +kernel
theorem d_Lw_law_771 : decode code 771 = .ok (.iaload, 1) := by decide +kernel
theorem d_Lw_law_772 : decode code 772 = .ok (.invokevirtual 112, 3) := by decide +kernel
theorem d_Lw_law_775 : decode code 775 = .ok (.if_icmp .eq 410, 3) := by decide +kernel
theorem d_Lw_law_778 : decode code 778 = .ok (.iconst 0, 1) := by decide +kernel
theorem d_Lw_law_779 : decode code 779 = .ok (.ireturn, 1) := by decide +kernel
theorem d_Lw_law_780 : decode code 780 = .ok (.aload_n 1, 1) := by decide +kernel
theorem d_Lw_law_781 : decode code 781 = .ok (.aload_n 0, 1) := by decide +kernel
theorem d_Lw_law_782 : decode code 782 = .ok (.iload_n 3, 1) := by decide +kernel
theorem d_Lw_law_783 : decode code 783 = .ok (.iconst 1, 1) := by decide +kernel
theorem d_Lw_law_784 : decode code 784 = .ok (.iadd, 1) := by decide +kernel
theorem d_Lw_law_785 : decode code 785 = .ok (.iaload, 1) := by decide +kernel
theorem d_Lw_law_786 : decode code 786 = .ok (.invokevirtual 113, 3) := by decide +kernel
theorem d_Lw_law_789 : decode code 789 = .ok (.aload_n 2, 1) := by decide +kernel
theorem d_Lw_law_790 : decode code 790 = .ok (.aload_n 0, 1) := by decide +kernel
theorem d_Lw_law_791 : decode code 791 = .ok (.iload_n 3, 1) := by decide +kernel
theorem d_Lw_law_792 : decode code 792 = .ok (.iconst 1, 1) := by decide +kernel
theorem d_Lw_law_793 : decode code 793 = .ok (.iadd, 1) := by decide +kernel
theorem d_Lw_law_794 : decode code 794 = .ok (.iaload, 1) := by decide +kernel
theorem d_Lw_law_795 : decode code 795 = .ok (.invokevirtual 116, 3) := by decide +kernel
theorem d_Lw_law_798 : decode code 798 = .ok (.if_icmp .eq 387, 3) := by decide +kernel
theorem d_Lw_law_801 : decode code 801 = .ok (.iconst 0, 1) := by decide +kernel
theorem d_Lw_law_802 : decode code 802 = .ok (.ireturn, 1) := by decide +kernel
theorem d_Lw_law_803 : decode code 803 = .ok (.aload_n 1, 1) := by decide +kernel
theorem d_Lw_law_804 : decode code 804 = .ok (.aload_n 0, 1) := by decide +kernel
theorem d_Lw_law_805 : decode code 805 = .ok (.iload_n 3, 1) := by decide +kernel
theorem d_Lw_law_806 : decode code 806 = .ok (.iconst 1, 1) := by decide +kernel
theorem d_Lw_law_807 : decode code 807 = .ok (.iadd, 1) := by decide +kernel
theorem d_Lw_law_808 : decode code 808 = .ok (.iaload, 1) := by decide +kernel
theorem d_Lw_law_809 : decode code 809 = .ok (.aload_n 0, 1) := by decide +kernel
theorem d_Lw_law_810 : decode code 810 = .ok (.iload_n 3, 1) := by decide +kernel
theorem d_Lw_law_811 : decode code 811 = .ok (.iconst 2, 1) := by decide +kernel
theorem d_Lw_law_812 : decode code 812 = .ok (.iadd, 1) := by decide +kernel
theorem d_Lw_law_813 : decode code 813 = .ok (.iaload, 1) := by decide +kernel
theorem d_Lw_law_814 : decode code 814 = .ok (.aload_n 0, 1) := by decide +kernel
theorem d_Lw_law_815 : decode code 815 = .ok (.iload_n 3, 1) := by decide +kernel
theorem d_Lw_law_816 : decode code 816 = .ok (.iconst 3, 1) := by decide +kernel
theorem d_Lw_law_817 : decode code 817 = .ok (.iadd, 1) := by decide +kernel
theorem d_Lw_law_818 : decode code 818 = .ok (.iaload, 1) := by decide +kernel
theorem d_Lw_law_819 : decode code 819 = .ok (.invokevirtual 117, 3) := by decide +kernel
theorem d_Lw_law_822 : decode code 822 = .ok (.aload_n 2, 1) := by decide +kernel
theorem d_Lw_law_823 : decode code 823 = .ok (.aload_n 0, 1) := by decide +kernel
theorem d_Lw_law_824 : decode code 824 = .ok (.iload_n 3, 1) := by decide +kernel
theorem d_Lw_law_825 : decode code 825 = .ok (.iconst 1, 1) := by decide +kernel
theorem d_Lw_law_826 : decode code 826 = .ok (.iadd, 1) := by decide +kernel
theorem d_Lw_law_827 : decode code 827 = .ok (.iaload, 1) := by decide +kernel
theorem d_Lw_law_828 : decode code 828 = .ok (.aload_n 0, 1) := by decide +kernel
theorem d_Lw_law_829 : decode code 829 = .ok (.iload_n 3, 1) := by decide +kernel
theorem d_Lw_law_830 : decode code 830 = .ok (.iconst 2, 1) := by decide +kernel
theorem d_Lw_law_831 : decode code 831 = .ok (.iadd, 1) := by decide +kernel
theorem d_Lw_law_832 : decode code 832 = .ok (.iaload, 1) := by decide +kernel
theorem d_Lw_law_833 : decode code 833 = .ok (.aload_n 0, 1) := by decide +kernel
theorem d_Lw_law_834 : decode code 834 = .ok (.iload_n 3, 1) := by decide +kernel
theorem d_Lw_law_835 : decode code 835 = .ok (.iconst 3, 1) := by decide +kernel
theorem d_Lw_law_836 : decode code 836 = .ok (.iadd, 1) := by decide +kernel
theorem d_Lw_law_837 : decode code 837 = .ok (.iaload, 1) := by decide +kernel
theorem d_Lw_law_838 : decode code 838 = .ok (.invokevirtual 121, 3) := by decide +kernel
theorem d_Lw_law_841 : decode code 841 = .ok (.lcmp, 1) := by decide +kernel
theorem d_Lw_law_842 : decode code 842 = .ok (.ifCond .eq 343, 3) := by decide +kernel
theorem d_Lw_law_845 : decode code 845 = .ok (.iconst 0, 1) := by decide +kernel
theorem d_Lw_law_846 : decode code 846 = .ok (.ireturn, 1) := by decide +kernel
theorem d_Lw_law_847 : decode code 847 = .ok (.aload_n 1, 1) := by decide +kernel
theorem d_Lw_law_848 : decode code 848 = .ok (.aload_n 0, 1) := by decide +kernel
theorem d_Lw_law_849 : decode code 849 = .ok (.iload_n 3, 1) := by decide +kernel
theorem d_Lw_law_850 : decode code 850 = .ok (.iconst 1, 1) := by decide +kernel
theorem d_Lw_law_851 : decode code 851 = .ok (.iadd, 1) := by decide +kernel
theorem d_Lw_law_852 : decode code 852 = .ok (.iaload, 1) := by decide +kernel
theorem d_Lw_law_853 : decode code 853 = .ok (.aload_n 0, 1) := by decide +kernel
theorem d_Lw_law_854 : decode code 854 = .ok (.iload_n 3, 1) := by decide +kernel
theorem d_Lw_law_855 : decode code 855 = .ok (.iconst 2, 1) := by decide +kernel
theorem d_Lw_law_856 : decode code 856 = .ok (.iadd, 1) := by decide +kernel
theorem d_Lw_law_857 : decode code 857 = .ok (.iaload, 1) := by decide +kernel
theorem d_Lw_law_858 : decode code 858 = .ok (.aload_n 0, 1) := by decide +kernel
theorem d_Lw_law_859 : decode code 859 = .ok (.iload_n 3, 1) := by decide +kernel
theorem d_Lw_law_860 : decode code 860 = .ok (.iconst 3, 1) := by decide +kernel
theorem d_Lw_law_861 : decode code 861 = .ok (.iadd, 1) := by decide +kernel
theorem d_Lw_law_862 : decode code 862 = .ok (.iaload, 1) := by decide +kernel
theorem d_Lw_law_863 : decode code 863 = .ok (.invokevirtual 122, 3) := by decide +kernel
theorem d_Lw_law_866 : decode code 866 = .ok (.aload_n 2, 1) := by decide +kernel
theorem d_Lw_law_867 : decode code 867 = .ok (.aload_n 0, 1) := by decide +kernel
theorem d_Lw_law_868 : decode code 868 = .ok (.iload_n 3, 1) := by decide +kernel
theorem d_Lw_law_869 : decode code 869 = .ok (.iconst 1, 1) := by decide +kernel
theorem d_Lw_law_870 : decode code 870 = .ok (.iadd, 1) := by decide +kernel
theorem d_Lw_law_871 : decode code 871 = .ok (.iaload, 1) := by decide +kernel
theorem d_Lw_law_872 : decode code 872 = .ok (.aload_n 0, 1) := by decide +kernel
theorem d_Lw_law_873 : decode code 873 = .ok (.iload_n 3, 1) := by decide +kernel
theorem d_Lw_law_874 : decode code 874 = .ok (.iconst 2, 1) := by decide +kernel
theorem d_Lw_law_875 : decode code 875 = .ok (.iadd, 1) := by decide +kernel
theorem d_Lw_law_876 : decode code 876 = .ok (.iaload, 1) := by decide +kernel
theorem d_Lw_law_877 : decode code 877 = .ok (.aload_n 0, 1) := by decide +kernel
theorem d_Lw_law_878 : decode code 878 = .ok (.iload_n 3, 1) := by decide +kernel
theorem d_Lw_law_879 : decode code 879 = .ok (.iconst 3, 1) := by decide +kernel
theorem d_Lw_law_880 : decode code 880 = .ok (.iadd, 1) := by decide +kernel
theorem d_Lw_law_881 : decode code 881 = .ok (.iaload, 1) := by decide +kernel
theorem d_Lw_law_882 : decode code 882 = .ok (.invokevirtual 125, 3) := by decide +kernel
theorem d_Lw_law_885 : decode code 885 = .ok (.if_icmp .eq 300, 3) := by decide +kernel
