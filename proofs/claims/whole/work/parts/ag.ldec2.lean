/-! ===== decode rows of the law, on ===== -/
theorem dL_544 : decode code 544 = .ok (.aload_n 0, 1) := by decide +kernel
theorem dL_545 : decode code 545 = .ok (.iload_n 3, 1) := by decide +kernel
theorem dL_546 : decode code 546 = .ok (.iconst 1, 1) := by decide +kernel
theorem dL_547 : decode code 547 = .ok (.iadd, 1) := by decide +kernel
theorem dL_548 : decode code 548 = .ok (.iaload, 1) := by decide +kernel
theorem dL_549 : decode code 549 = .ok (.invokevirtual 78, 3) := by decide +kernel
theorem dL_552 : decode code 552 = .ok (.aload_n 2, 1) := by decide +kernel
theorem dL_553 : decode code 553 = .ok (.aload_n 0, 1) := by decide +kernel
theorem dL_554 : decode code 554 = .ok (.iload_n 3, 1) := by decide +kernel
theorem dL_555 : decode code 555 = .ok (.iconst 1, 1) := by decide +kernel
theorem dL_556 : decode code 556 = .ok (.iadd, 1) := by decide +kernel
theorem dL_557 : decode code 557 = .ok (.iaload, 1) := by decide +kernel
theorem dL_558 : decode code 558 = .ok (.invokevirtual 81, 3) := by decide +kernel
theorem dL_561 : decode code 561 = .ok (.if_icmp .eq 377, 3) := by decide +kernel
theorem dL_564 : decode code 564 = .ok (.iconst 0, 1) := by decide +kernel
theorem dL_565 : decode code 565 = .ok (.ireturn, 1) := by decide +kernel
theorem dL_566 : decode code 566 = .ok (.aload_n 1, 1) := by decide +kernel
theorem dL_567 : decode code 567 = .ok (.invokevirtual 82, 3) := by decide +kernel
theorem dL_570 : decode code 570 = .ok (.aload_n 2, 1) := by decide +kernel
theorem dL_571 : decode code 571 = .ok (.invokevirtual 85, 3) := by decide +kernel
theorem dL_574 : decode code 574 = .ok (.if_icmp .eq 364, 3) := by decide +kernel
theorem dL_577 : decode code 577 = .ok (.iconst 0, 1) := by decide +kernel
theorem dL_578 : decode code 578 = .ok (.ireturn, 1) := by decide +kernel
theorem dL_579 : decode code 579 = .ok (.aload_n 1, 1) := by decide +kernel
theorem dL_580 : decode code 580 = .ok (.aload_n 0, 1) := by decide +kernel
theorem dL_581 : decode code 581 = .ok (.iload_n 3, 1) := by decide +kernel
theorem dL_582 : decode code 582 = .ok (.iconst 1, 1) := by decide +kernel
theorem dL_583 : decode code 583 = .ok (.iadd, 1) := by decide +kernel
theorem dL_584 : decode code 584 = .ok (.iaload, 1) := by decide +kernel
theorem dL_585 : decode code 585 = .ok (.invokevirtual 86, 3) := by decide +kernel
theorem dL_588 : decode code 588 = .ok (.aload_n 2, 1) := by decide +kernel
theorem dL_589 : decode code 589 = .ok (.aload_n 0, 1) := by decide +kernel
theorem dL_590 : decode code 590 = .ok (.iload_n 3, 1) := by decide +kernel
theorem dL_591 : decode code 591 = .ok (.iconst 1, 1) := by decide +kernel
theorem dL_592 : decode code 592 = .ok (.iadd, 1) := by decide +kernel
theorem dL_593 : decode code 593 = .ok (.iaload, 1) := by decide +kernel
theorem dL_594 : decode code 594 = .ok (.invokevirtual 89, 3) := by decide +kernel
theorem dL_597 : decode code 597 = .ok (.if_icmp .eq 341, 3) := by decide +kernel
theorem dL_600 : decode code 600 = .ok (.iconst 0, 1) := by decide +kernel
theorem dL_601 : decode code 601 = .ok (.ireturn, 1) := by decide +kernel
theorem dL_602 : decode code 602 = .ok (.aload_n 1, 1) := by decide +kernel
theorem dL_603 : decode code 603 = .ok (.aload_n 0, 1) := by decide +kernel
theorem dL_604 : decode code 604 = .ok (.iload_n 3, 1) := by decide +kernel
theorem dL_605 : decode code 605 = .ok (.iconst 1, 1) := by decide +kernel
theorem dL_606 : decode code 606 = .ok (.iadd, 1) := by decide +kernel
theorem dL_607 : decode code 607 = .ok (.iaload, 1) := by decide +kernel
theorem dL_608 : decode code 608 = .ok (.invokevirtual 90, 3) := by decide +kernel
theorem dL_611 : decode code 611 = .ok (.aload_n 2, 1) := by decide +kernel
theorem dL_612 : decode code 612 = .ok (.aload_n 0, 1) := by decide +kernel
theorem dL_613 : decode code 613 = .ok (.iload_n 3, 1) := by decide +kernel
theorem dL_614 : decode code 614 = .ok (.iconst 1, 1) := by decide +kernel
theorem dL_615 : decode code 615 = .ok (.iadd, 1) := by decide +kernel
theorem dL_616 : decode code 616 = .ok (.iaload, 1) := by decide +kernel
theorem dL_617 : decode code 617 = .ok (.invokevirtual 93, 3) := by decide +kernel
theorem dL_620 : decode code 620 = .ok (.if_icmp .eq 318, 3) := by decide +kernel
theorem dL_623 : decode code 623 = .ok (.iconst 0, 1) := by decide +kernel
theorem dL_624 : decode code 624 = .ok (.ireturn, 1) := by decide +kernel
theorem dL_625 : decode code 625 = .ok (.aload_n 1, 1) := by decide +kernel
theorem dL_626 : decode code 626 = .ok (.aload_n 0, 1) := by decide +kernel
theorem dL_627 : decode code 627 = .ok (.iload_n 3, 1) := by decide +kernel
theorem dL_628 : decode code 628 = .ok (.iconst 1, 1) := by decide +kernel
theorem dL_629 : decode code 629 = .ok (.iadd, 1) := by decide +kernel
theorem dL_630 : decode code 630 = .ok (.iaload, 1) := by decide +kernel
theorem dL_631 : decode code 631 = .ok (.aload_n 0, 1) := by decide +kernel
theorem dL_632 : decode code 632 = .ok (.iload_n 3, 1) := by decide +kernel
theorem dL_633 : decode code 633 = .ok (.iconst 2, 1) := by decide +kernel
theorem dL_634 : decode code 634 = .ok (.iadd, 1) := by decide +kernel
theorem dL_635 : decode code 635 = .ok (.iaload, 1) := by decide +kernel
theorem dL_636 : decode code 636 = .ok (.invokevirtual 94, 3) := by decide +kernel
theorem dL_639 : decode code 639 = .ok (.aload_n 2, 1) := by decide +kernel
theorem dL_640 : decode code 640 = .ok (.aload_n 0, 1) := by decide +kernel
theorem dL_641 : decode code 641 = .ok (.iload_n 3, 1) := by decide +kernel
theorem dL_642 : decode code 642 = .ok (.iconst 1, 1) := by decide +kernel
theorem dL_643 : decode code 643 = .ok (.iadd, 1) := by decide +kernel
theorem dL_644 : decode code 644 = .ok (.iaload, 1) := by decide +kernel
theorem dL_645 : decode code 645 = .ok (.aload_n 0, 1) := by decide +kernel
theorem dL_646 : decode code 646 = .ok (.iload_n 3, 1) := by decide +kernel
theorem dL_647 : decode code 647 = .ok (.iconst 2, 1) := by decide +kernel
theorem dL_648 : decode code 648 = .ok (.iadd, 1) := by decide +kernel
theorem dL_649 : decode code 649 = .ok (.iaload, 1) := by decide +kernel
theorem dL_650 : decode code 650 = .ok (.invokevirtual 97, 3) := by decide +kernel
theorem dL_653 : decode code 653 = .ok (.if_icmp .eq 285, 3) := by decide +kernel
theorem dL_656 : decode code 656 = .ok (.iconst 0, 1) := by decide +kernel
theorem dL_657 : decode code 657 = .ok (.ireturn, 1) := by decide +kernel
theorem dL_658 : decode code 658 = .ok (.aload_n 1, 1) := by decide +kernel
theorem dL_659 : decode code 659 = .ok (.aload_n 0, 1) := by decide +kernel
theorem dL_660 : decode code 660 = .ok (.iload_n 3, 1) := by decide +kernel
theorem dL_661 : decode code 661 = .ok (.iconst 1, 1) := by decide +kernel
theorem dL_662 : decode code 662 = .ok (.iadd, 1) := by decide +kernel
theorem dL_663 : decode code 663 = .ok (.iaload, 1) := by decide +kernel
theorem dL_664 : decode code 664 = .ok (.aload_n 0, 1) := by decide +kernel
theorem dL_665 : decode code 665 = .ok (.iload_n 3, 1) := by decide +kernel
theorem dL_666 : decode code 666 = .ok (.iconst 2, 1) := by decide +kernel
theorem dL_667 : decode code 667 = .ok (.iadd, 1) := by decide +kernel
theorem dL_668 : decode code 668 = .ok (.iaload, 1) := by decide +kernel
theorem dL_669 : decode code 669 = .ok (.invokevirtual 98, 3) := by decide +kernel
theorem dL_672 : decode code 672 = .ok (.aload_n 2, 1) := by decide +kernel
theorem dL_673 : decode code 673 = .ok (.aload_n 0, 1) := by decide +kernel
theorem dL_674 : decode code 674 = .ok (.iload_n 3, 1) := by decide +kernel
theorem dL_675 : decode code 675 = .ok (.iconst 1, 1) := by decide +kernel
theorem dL_676 : decode code 676 = .ok (.iadd, 1) := by decide +kernel
theorem dL_677 : decode code 677 = .ok (.iaload, 1) := by decide +kernel
theorem dL_678 : decode code 678 = .ok (.aload_n 0, 1) := by decide +kernel
theorem dL_679 : decode code 679 = .ok (.iload_n 3, 1) := by decide +kernel
theorem dL_680 : decode code 680 = .ok (.iconst 2, 1) := by decide +kernel
theorem dL_681 : decode code 681 = .ok (.iadd, 1) := by decide +kernel
theorem dL_682 : decode code 682 = .ok (.iaload, 1) := by decide +kernel
theorem dL_683 : decode code 683 = .ok (.invokevirtual 101, 3) := by decide +kernel
theorem dL_686 : decode code 686 = .ok (.if_icmp .eq 252, 3) := by decide +kernel
theorem dL_689 : decode code 689 = .ok (.iconst 0, 1) := by decide +kernel
theorem dL_690 : decode code 690 = .ok (.ireturn, 1) := by decide +kernel
theorem dL_691 : decode code 691 = .ok (.aload_n 1, 1) := by decide +kernel
theorem dL_692 : decode code 692 = .ok (.aload_n 0, 1) := by decide +kernel
theorem dL_693 : decode code 693 = .ok (.iload_n 3, 1) := by decide +kernel
theorem dL_694 : decode code 694 = .ok (.iconst 1, 1) := by decide +kernel
theorem dL_695 : decode code 695 = .ok (.iadd, 1) := by decide +kernel
theorem dL_696 : decode code 696 = .ok (.iaload, 1) := by decide +kernel
theorem dL_697 : decode code 697 = .ok (.aload_n 0, 1) := by decide +kernel
theorem dL_698 : decode code 698 = .ok (.iload_n 3, 1) := by decide +kernel
theorem dL_699 : decode code 699 = .ok (.iconst 2, 1) := by decide +kernel
theorem dL_700 : decode code 700 = .ok (.iadd, 1) := by decide +kernel
theorem dL_701 : decode code 701 = .ok (.iaload, 1) := by decide +kernel
theorem dL_702 : decode code 702 = .ok (.aload_n 0, 1) := by decide +kernel
theorem dL_703 : decode code 703 = .ok (.iload_n 3, 1) := by decide +kernel
theorem dL_704 : decode code 704 = .ok (.iconst 3, 1) := by decide +kernel
theorem dL_705 : decode code 705 = .ok (.iadd, 1) := by decide +kernel
theorem dL_706 : decode code 706 = .ok (.iaload, 1) := by decide +kernel
theorem dL_707 : decode code 707 = .ok (.invokevirtual 102, 3) := by decide +kernel
theorem dL_710 : decode code 710 = .ok (.aload_n 2, 1) := by decide +kernel
theorem dL_711 : decode code 711 = .ok (.aload_n 0, 1) := by decide +kernel
theorem dL_712 : decode code 712 = .ok (.iload_n 3, 1) := by decide +kernel
theorem dL_713 : decode code 713 = .ok (.iconst 1, 1) := by decide +kernel
theorem dL_714 : decode code 714 = .ok (.iadd, 1) := by decide +kernel
theorem dL_715 : decode code 715 = .ok (.iaload, 1) := by decide +kernel
theorem dL_716 : decode code 716 = .ok (.aload_n 0, 1) := by decide +kernel
theorem dL_717 : decode code 717 = .ok (.iload_n 3, 1) := by decide +kernel
theorem dL_718 : decode code 718 = .ok (.iconst 2, 1) := by decide +kernel
theorem dL_719 : decode code 719 = .ok (.iadd, 1) := by decide +kernel
theorem dL_720 : decode code 720 = .ok (.iaload, 1) := by decide +kernel
theorem dL_721 : decode code 721 = .ok (.aload_n 0, 1) := by decide +kernel
theorem dL_722 : decode code 722 = .ok (.iload_n 3, 1) := by decide +kernel
theorem dL_723 : decode code 723 = .ok (.iconst 3, 1) := by decide +kernel
theorem dL_724 : decode code 724 = .ok (.iadd, 1) := by decide +kernel
theorem dL_725 : decode code 725 = .ok (.iaload, 1) := by decide +kernel
theorem dL_726 : decode code 726 = .ok (.invokevirtual 106, 3) := by decide +kernel
theorem dL_729 : decode code 729 = .ok (.if_icmp .eq 209, 3) := by decide +kernel
theorem dL_732 : decode code 732 = .ok (.iconst 0, 1) := by decide +kernel
theorem dL_733 : decode code 733 = .ok (.ireturn, 1) := by decide +kernel
theorem dL_734 : decode code 734 = .ok (.aload_n 1, 1) := by decide +kernel
theorem dL_735 : decode code 735 = .ok (.aload_n 0, 1) := by decide +kernel
theorem dL_736 : decode code 736 = .ok (.iload_n 3, 1) := by decide +kernel
theorem dL_737 : decode code 737 = .ok (.iconst 1, 1) := by decide +kernel
theorem dL_738 : decode code 738 = .ok (.iadd, 1) := by decide +kernel
theorem dL_739 : decode code 739 = .ok (.iaload, 1) := by decide +kernel
theorem dL_740 : decode code 740 = .ok (.aload_n 0, 1) := by decide +kernel
theorem dL_741 : decode code 741 = .ok (.iload_n 3, 1) := by decide +kernel
theorem dL_742 : decode code 742 = .ok (.iconst 2, 1) := by decide +kernel
theorem dL_743 : decode code 743 = .ok (.iadd, 1) := by decide +kernel
theorem dL_744 : decode code 744 = .ok (.iaload, 1) := by decide +kernel
theorem dL_745 : decode code 745 = .ok (.invokevirtual 107, 3) := by decide +kernel
theorem dL_748 : decode code 748 = .ok (.aload_n 2, 1) := by decide +kernel
theorem dL_749 : decode code 749 = .ok (.aload_n 0, 1) := by decide +kernel
theorem dL_750 : decode code 750 = .ok (.iload_n 3, 1) := by decide +kernel
theorem dL_751 : decode code 751 = .ok (.iconst 1, 1) := by decide +kernel
theorem dL_752 : decode code 752 = .ok (.iadd, 1) := by decide +kernel
theorem dL_753 : decode code 753 = .ok (.iaload, 1) := by decide +kernel
theorem dL_754 : decode code 754 = .ok (.aload_n 0, 1) := by decide +kernel
theorem dL_755 : decode code 755 = .ok (.iload_n 3, 1) := by decide +kernel
theorem dL_756 : decode code 756 = .ok (.iconst 2, 1) := by decide +kernel
theorem dL_757 : decode code 757 = .ok (.iadd, 1) := by decide +kernel
theorem dL_758 : decode code 758 = .ok (.iaload, 1) := by decide +kernel
theorem dL_759 : decode code 759 = .ok (.invokevirtual 110, 3) := by decide +kernel
theorem dL_762 : decode code 762 = .ok (.if_icmp .eq 176, 3) := by decide +kernel
theorem dL_765 : decode code 765 = .ok (.iconst 0, 1) := by decide +kernel
theorem dL_766 : decode code 766 = .ok (.ireturn, 1) := by decide +kernel
theorem dL_767 : decode code 767 = .ok (.aload_n 1, 1) := by decide +kernel
theorem dL_768 : decode code 768 = .ok (.aload_n 0, 1) := by decide +kernel
theorem dL_769 : decode code 769 = .ok (.iload_n 3, 1) := by decide +kernel
theorem dL_770 : decode code 770 = .ok (.iconst 1, 1) := by decide +kernel
theorem dL_771 : decode code 771 = .ok (.iadd, 1) := by decide +kernel
theorem dL_772 : decode code 772 = .ok (.iaload, 1) := by decide +kernel
theorem dL_773 : decode code 773 = .ok (.invokevirtual 111, 3) := by decide +kernel
theorem dL_776 : decode code 776 = .ok (.aload_n 2, 1) := by decide +kernel
theorem dL_777 : decode code 777 = .ok (.aload_n 0, 1) := by decide +kernel
theorem dL_778 : decode code 778 = .ok (.iload_n 3, 1) := by decide +kernel
theorem dL_779 : decode code 779 = .ok (.iconst 1, 1) := by decide +kernel
theorem dL_780 : decode code 780 = .ok (.iadd, 1) := by decide +kernel
theorem dL_781 : decode code 781 = .ok (.iaload, 1) := by decide +kernel
theorem dL_782 : decode code 782 = .ok (.invokevirtual 115, 3) := by decide +kernel
theorem dL_785 : decode code 785 = .ok (.if_icmp .eq 153, 3) := by decide +kernel
theorem dL_788 : decode code 788 = .ok (.iconst 0, 1) := by decide +kernel
theorem dL_789 : decode code 789 = .ok (.ireturn, 1) := by decide +kernel
theorem dL_790 : decode code 790 = .ok (.aload_n 1, 1) := by decide +kernel
theorem dL_791 : decode code 791 = .ok (.aload_n 0, 1) := by decide +kernel
theorem dL_792 : decode code 792 = .ok (.iload_n 3, 1) := by decide +kernel
theorem dL_793 : decode code 793 = .ok (.iconst 1, 1) := by decide +kernel
theorem dL_794 : decode code 794 = .ok (.iadd, 1) := by decide +kernel
theorem dL_795 : decode code 795 = .ok (.iaload, 1) := by decide +kernel
theorem dL_796 : decode code 796 = .ok (.invokevirtual 116, 3) := by decide +kernel
theorem dL_799 : decode code 799 = .ok (.aload_n 2, 1) := by decide +kernel
theorem dL_800 : decode code 800 = .ok (.aload_n 0, 1) := by decide +kernel
theorem dL_801 : decode code 801 = .ok (.iload_n 3, 1) := by decide +kernel
theorem dL_802 : decode code 802 = .ok (.iconst 1, 1) := by decide +kernel
theorem dL_803 : decode code 803 = .ok (.iadd, 1) := by decide +kernel
theorem dL_804 : decode code 804 = .ok (.iaload, 1) := by decide +kernel
theorem dL_805 : decode code 805 = .ok (.invokevirtual 119, 3) := by decide +kernel
theorem dL_808 : decode code 808 = .ok (.if_icmp .eq 130, 3) := by decide +kernel
theorem dL_811 : decode code 811 = .ok (.iconst 0, 1) := by decide +kernel
theorem dL_812 : decode code 812 = .ok (.ireturn, 1) := by decide +kernel
theorem dL_813 : decode code 813 = .ok (.aload_n 1, 1) := by decide +kernel
theorem dL_814 : decode code 814 = .ok (.aload_n 0, 1) := by decide +kernel
theorem dL_815 : decode code 815 = .ok (.iload_n 3, 1) := by decide +kernel
theorem dL_816 : decode code 816 = .ok (.iconst 1, 1) := by decide +kernel
theorem dL_817 : decode code 817 = .ok (.iadd, 1) := by decide +kernel
theorem dL_818 : decode code 818 = .ok (.iaload, 1) := by decide +kernel
theorem dL_819 : decode code 819 = .ok (.invokevirtual 120, 3) := by decide +kernel
theorem dL_822 : decode code 822 = .ok (.aload_n 2, 1) := by decide +kernel
theorem dL_823 : decode code 823 = .ok (.aload_n 0, 1) := by decide +kernel
theorem dL_824 : decode code 824 = .ok (.iload_n 3, 1) := by decide +kernel
theorem dL_825 : decode code 825 = .ok (.iconst 1, 1) := by decide +kernel
theorem dL_826 : decode code 826 = .ok (.iadd, 1) := by decide +kernel
theorem dL_827 : decode code 827 = .ok (.iaload, 1) := by decide +kernel
theorem dL_828 : decode code 828 = .ok (.invokevirtual 123, 3) := by decide +kernel
theorem dL_831 : decode code 831 = .ok (.if_icmp .eq 107, 3) := by decide +kernel
theorem dL_834 : decode code 834 = .ok (.iconst 0, 1) := by decide +kernel
theorem dL_835 : decode code 835 = .ok (.ireturn, 1) := by decide +kernel
theorem dL_836 : decode code 836 = .ok (.aload_n 1, 1) := by decide +kernel
theorem dL_837 : decode code 837 = .ok (.aload_n 0, 1) := by decide +kernel
theorem dL_838 : decode code 838 = .ok (.iload_n 3, 1) := by decide +kernel
theorem dL_839 : decode code 839 = .ok (.iconst 1, 1) := by decide +kernel
theorem dL_840 : decode code 840 = .ok (.iadd, 1) := by decide +kernel
theorem dL_841 : decode code 841 = .ok (.iaload, 1) := by decide +kernel
theorem dL_842 : decode code 842 = .ok (.aload_n 0, 1) := by decide +kernel
theorem dL_843 : decode code 843 = .ok (.iload_n 3, 1) := by decide +kernel
theorem dL_844 : decode code 844 = .ok (.iconst 2, 1) := by decide +kernel
theorem dL_845 : decode code 845 = .ok (.iadd, 1) := by decide +kernel
theorem dL_846 : decode code 846 = .ok (.iaload, 1) := by decide +kernel
theorem dL_847 : decode code 847 = .ok (.invokevirtual 124, 3) := by decide +kernel
theorem dL_850 : decode code 850 = .ok (.aload_n 2, 1) := by decide +kernel
theorem dL_851 : decode code 851 = .ok (.aload_n 0, 1) := by decide +kernel
theorem dL_852 : decode code 852 = .ok (.iload_n 3, 1) := by decide +kernel
theorem dL_853 : decode code 853 = .ok (.iconst 1, 1) := by decide +kernel
theorem dL_854 : decode code 854 = .ok (.iadd, 1) := by decide +kernel
theorem dL_855 : decode code 855 = .ok (.iaload, 1) := by decide +kernel
theorem dL_856 : decode code 856 = .ok (.aload_n 0, 1) := by decide +kernel
theorem dL_857 : decode code 857 = .ok (.iload_n 3, 1) := by decide +kernel
theorem dL_858 : decode code 858 = .ok (.iconst 2, 1) := by decide +kernel
theorem dL_859 : decode code 859 = .ok (.iadd, 1) := by decide +kernel
theorem dL_860 : decode code 860 = .ok (.iaload, 1) := by decide +kernel
theorem dL_861 : decode code 861 = .ok (.invokevirtual 127, 3) := by decide +kernel
theorem dL_864 : decode code 864 = .ok (.if_icmp .eq 74, 3) := by decide +kernel
theorem dL_867 : decode code 867 = .ok (.iconst 0, 1) := by decide +kernel
theorem dL_868 : decode code 868 = .ok (.ireturn, 1) := by decide +kernel
theorem dL_869 : decode code 869 = .ok (.aload_n 1, 1) := by decide +kernel
theorem dL_870 : decode code 870 = .ok (.aload_n 0, 1) := by decide +kernel
theorem dL_871 : decode code 871 = .ok (.iload_n 3, 1) := by decide +kernel
theorem dL_872 : decode code 872 = .ok (.iconst 1, 1) := by decide +kernel
theorem dL_873 : decode code 873 = .ok (.iadd, 1) := by decide +kernel
theorem dL_874 : decode code 874 = .ok (.iaload, 1) := by decide +kernel
theorem dL_875 : decode code 875 = .ok (.invokevirtual 128, 3) := by decide +kernel
theorem dL_878 : decode code 878 = .ok (.aload_n 2, 1) := by decide +kernel
theorem dL_879 : decode code 879 = .ok (.aload_n 0, 1) := by decide +kernel
theorem dL_880 : decode code 880 = .ok (.iload_n 3, 1) := by decide +kernel
theorem dL_881 : decode code 881 = .ok (.iconst 1, 1) := by decide +kernel
theorem dL_882 : decode code 882 = .ok (.iadd, 1) := by decide +kernel
theorem dL_883 : decode code 883 = .ok (.iaload, 1) := by decide +kernel
theorem dL_884 : decode code 884 = .ok (.invokevirtual 131, 3) := by decide +kernel
theorem dL_887 : decode code 887 = .ok (.if_icmp .eq 51, 3) := by decide +kernel
theorem dL_890 : decode code 890 = .ok (.iconst 0, 1) := by decide +kernel
theorem dL_891 : decode code 891 = .ok (.ireturn, 1) := by decide +kernel
theorem dL_892 : decode code 892 = .ok (.aload_n 1, 1) := by decide +kernel
theorem dL_893 : decode code 893 = .ok (.aload_n 0, 1) := by decide +kernel
theorem dL_894 : decode code 894 = .ok (.iload_n 3, 1) := by decide +kernel
theorem dL_895 : decode code 895 = .ok (.iconst 1, 1) := by decide +kernel
theorem dL_896 : decode code 896 = .ok (.iadd, 1) := by decide +kernel
theorem dL_897 : decode code 897 = .ok (.iaload, 1) := by decide +kernel
theorem dL_898 : decode code 898 = .ok (.invokevirtual 132, 3) := by decide +kernel
theorem dL_901 : decode code 901 = .ok (.aload_n 2, 1) := by decide +kernel
theorem dL_902 : decode code 902 = .ok (.aload_n 0, 1) := by decide +kernel
theorem dL_903 : decode code 903 = .ok (.iload_n 3, 1) := by decide +kernel
theorem dL_904 : decode code 904 = .ok (.iconst 1, 1) := by decide +kernel
theorem dL_905 : decode code 905 = .ok (.iadd, 1) := by decide +kernel
theorem dL_906 : decode code 906 = .ok (.iaload, 1) := by decide +kernel
theorem dL_907 : decode code 907 = .ok (.invokevirtual 135, 3) := by decide +kernel
theorem dL_910 : decode code 910 = .ok (.if_icmp .eq 28, 3) := by decide +kernel
theorem dL_913 : decode code 913 = .ok (.iconst 0, 1) := by decide +kernel
theorem dL_914 : decode code 914 = .ok (.ireturn, 1) := by decide +kernel
theorem dL_915 : decode code 915 = .ok (.aload_n 1, 1) := by decide +kernel
theorem dL_916 : decode code 916 = .ok (.aload_n 0, 1) := by decide +kernel
theorem dL_917 : decode code 917 = .ok (.iload_n 3, 1) := by decide +kernel
theorem dL_918 : decode code 918 = .ok (.iconst 1, 1) := by decide +kernel
theorem dL_919 : decode code 919 = .ok (.iadd, 1) := by decide +kernel
theorem dL_920 : decode code 920 = .ok (.iaload, 1) := by decide +kernel
theorem dL_921 : decode code 921 = .ok (.invokevirtual 136, 3) := by decide +kernel
theorem dL_924 : decode code 924 = .ok (.aload_n 2, 1) := by decide +kernel
theorem dL_925 : decode code 925 = .ok (.aload_n 0, 1) := by decide +kernel
theorem dL_926 : decode code 926 = .ok (.iload_n 3, 1) := by decide +kernel
theorem dL_927 : decode code 927 = .ok (.iconst 1, 1) := by decide +kernel
theorem dL_928 : decode code 928 = .ok (.iadd, 1) := by decide +kernel
theorem dL_929 : decode code 929 = .ok (.iaload, 1) := by decide +kernel
theorem dL_930 : decode code 930 = .ok (.invokevirtual 139, 3) := by decide +kernel
theorem dL_933 : decode code 933 = .ok (.if_icmp .eq 5, 3) := by decide +kernel
theorem dL_936 : decode code 936 = .ok (.iconst 0, 1) := by decide +kernel
theorem dL_937 : decode code 937 = .ok (.ireturn, 1) := by decide +kernel
theorem dL_938 : decode code 938 = .ok (.iinc 3 6, 3) := by decide +kernel
theorem dL_941 : decode code 941 = .ok (.goto (-923), 3) := by decide +kernel
theorem dL_944 : decode code 944 = .ok (.iconst 1, 1) := by decide +kernel
theorem dL_945 : decode code 945 = .ok (.ireturn, 1) := by decide +kernel
