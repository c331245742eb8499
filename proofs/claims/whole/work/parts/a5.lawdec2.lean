theorem d_L_law_561 : decode code 561 = .ok (.iconst 1, 1) := by decide +kernel
theorem d_L_law_562 : decode code 562 = .ok (.iadd, 1) := by decide +kernel
theorem d_L_law_563 : decode code 563 = .ok (.iaload, 1) := by decide +kernel
theorem d_L_law_564 : decode code 564 = .ok (.i2l, 1) := by decide +kernel
theorem d_L_law_565 : decode code 565 = .ok (.bipush 32, 2) := by decide +kernel
theorem d_L_law_567 : decode code 567 = .ok (.lshl, 1) := by decide +kernel
theorem d_L_law_568 : decode code 568 = .ok (.aload_n 0, 1) := by decide +kernel
theorem d_L_law_569 : decode code 569 = .ok (.iload 4, 2) := by decide +kernel
theorem d_L_law_571 : decode code 571 = .ok (.iconst 2, 1) := by decide +kernel
theorem d_L_law_572 : decode code 572 = .ok (.iadd, 1) := by decide +kernel
theorem d_L_law_573 : decode code 573 = .ok (.iaload, 1) := by decide +kernel
theorem d_L_law_574 : decode code 574 = .ok (.i2l, 1) := by decide +kernel
theorem d_L_law_575 : decode code 575 = .ok (.ldc2_w 45, 3) := by decide +kernel
theorem d_L_law_578 : decode code 578 = .ok (.land, 1) := by decide +kernel
theorem d_L_law_579 : decode code 579 = .ok (.lor, 1) := by decide +kernel
theorem d_L_law_580 : decode code 580 = .ok (.aload_n 0, 1) := by decide +kernel
theorem d_L_law_581 : decode code 581 = .ok (.iload 4, 2) := by decide +kernel
theorem d_L_law_583 : decode code 583 = .ok (.iconst 3, 1) := by decide +kernel
theorem d_L_law_584 : decode code 584 = .ok (.iadd, 1) := by decide +kernel
theorem d_L_law_585 : decode code 585 = .ok (.iaload, 1) := by decide +kernel
theorem d_L_law_586 : decode code 586 = .ok (.aload_n 3, 1) := by decide +kernel
theorem d_L_law_587 : decode code 587 = .ok (.invokestatic 74, 3) := by decide +kernel
theorem d_L_law_590 : decode code 590 = .ok (.istore 5, 2) := by decide +kernel
theorem d_L_law_592 : decode code 592 = .ok (.aload_n 2, 1) := by decide +kernel
theorem d_L_law_593 : decode code 593 = .ok (.aload_n 0, 1) := by decide +kernel
theorem d_L_law_594 : decode code 594 = .ok (.iload 4, 2) := by decide +kernel
theorem d_L_law_596 : decode code 596 = .ok (.iconst 1, 1) := by decide +kernel
theorem d_L_law_597 : decode code 597 = .ok (.iadd, 1) := by decide +kernel
theorem d_L_law_598 : decode code 598 = .ok (.iaload, 1) := by decide +kernel
theorem d_L_law_599 : decode code 599 = .ok (.i2l, 1) := by decide +kernel
theorem d_L_law_600 : decode code 600 = .ok (.bipush 32, 2) := by decide +kernel
theorem d_L_law_602 : decode code 602 = .ok (.lshl, 1) := by decide +kernel
theorem d_L_law_603 : decode code 603 = .ok (.aload_n 0, 1) := by decide +kernel
theorem d_L_law_604 : decode code 604 = .ok (.iload 4, 2) := by decide +kernel
theorem d_L_law_606 : decode code 606 = .ok (.iconst 2, 1) := by decide +kernel
theorem d_L_law_607 : decode code 607 = .ok (.iadd, 1) := by decide +kernel
theorem d_L_law_608 : decode code 608 = .ok (.iaload, 1) := by decide +kernel
theorem d_L_law_609 : decode code 609 = .ok (.i2l, 1) := by decide +kernel
theorem d_L_law_610 : decode code 610 = .ok (.ldc2_w 45, 3) := by decide +kernel
theorem d_L_law_613 : decode code 613 = .ok (.land, 1) := by decide +kernel
theorem d_L_law_614 : decode code 614 = .ok (.lor, 1) := by decide +kernel
theorem d_L_law_615 : decode code 615 = .ok (.aload_n 0, 1) := by decide +kernel
theorem d_L_law_616 : decode code 616 = .ok (.iload 4, 2) := by decide +kernel
theorem d_L_law_618 : decode code 618 = .ok (.iconst 3, 1) := by decide +kernel
theorem d_L_law_619 : decode code 619 = .ok (.iadd, 1) := by decide +kernel
theorem d_L_law_620 : decode code 620 = .ok (.iaload, 1) := by decide +kernel
theorem d_L_law_621 : decode code 621 = .ok (.invokevirtual 76, 3) := by decide +kernel
theorem d_L_law_624 : decode code 624 = .ok (.lstore 6, 2) := by decide +kernel
theorem d_L_law_626 : decode code 626 = .ok (.aload_n 2, 1) := by decide +kernel
theorem d_L_law_627 : decode code 627 = .ok (.invokevirtual 53, 3) := by decide +kernel
theorem d_L_law_630 : decode code 630 = .ok (.iload 5, 2) := by decide +kernel
theorem d_L_law_632 : decode code 632 = .ok (.if_icmp .eq 5, 3) := by decide +kernel
theorem d_L_law_635 : decode code 635 = .ok (.iconst 0, 1) := by decide +kernel
theorem d_L_law_636 : decode code 636 = .ok (.ireturn, 1) := by decide +kernel
theorem d_L_law_637 : decode code 637 = .ok (.iload 5, 2) := by decide +kernel
theorem d_L_law_639 : decode code 639 = .ok (.ifCond .ne 14, 3) := by decide +kernel
theorem d_L_law_642 : decode code 642 = .ok (.aload_n 3, 1) := by decide +kernel
theorem d_L_law_643 : decode code 643 = .ok (.iconst 0, 1) := by decide +kernel
theorem d_L_law_644 : decode code 644 = .ok (.laload, 1) := by decide +kernel
theorem d_L_law_645 : decode code 645 = .ok (.lload 6, 2) := by decide +kernel
theorem d_L_law_647 : decode code 647 = .ok (.lcmp, 1) := by decide +kernel
theorem d_L_law_648 : decode code 648 = .ok (.ifCond .eq 5, 3) := by decide +kernel
theorem d_L_law_651 : decode code 651 = .ok (.iconst 0, 1) := by decide +kernel
theorem d_L_law_652 : decode code 652 = .ok (.ireturn, 1) := by decide +kernel
theorem d_L_law_653 : decode code 653 = .ok (.goto 386, 3) := by decide +kernel
theorem d_L_law_656 : decode code 656 = .ok (.aload_n 1, 1) := by decide +kernel
theorem d_L_law_657 : decode code 657 = .ok (.aload_n 0, 1) := by decide +kernel
theorem d_L_law_658 : decode code 658 = .ok (.iload 4, 2) := by decide +kernel
theorem d_L_law_660 : decode code 660 = .ok (.iconst 1, 1) := by decide +kernel
theorem d_L_law_661 : decode code 661 = .ok (.iadd, 1) := by decide +kernel
theorem d_L_law_662 : decode code 662 = .ok (.iaload, 1) := by decide +kernel
theorem d_L_law_663 : decode code 663 = .ok (.i2l, 1) := by decide +kernel
theorem d_L_law_664 : decode code 664 = .ok (.bipush 32, 2) := by decide +kernel
theorem d_L_law_666 : decode code 666 = .ok (.lshl, 1) := by decide +kernel
theorem d_L_law_667 : decode code 667 = .ok (.aload_n 0, 1) := by decide +kernel
theorem d_L_law_668 : decode code 668 = .ok (.iload 4, 2) := by decide +kernel
theorem d_L_law_670 : decode code 670 = .ok (.iconst 2, 1) := by decide +kernel
theorem d_L_law_671 : decode code 671 = .ok (.iadd, 1) := by decide +kernel
theorem d_L_law_672 : decode code 672 = .ok (.iaload, 1) := by decide +kernel
theorem d_L_law_673 : decode code 673 = .ok (.i2l, 1) := by decide +kernel
theorem d_L_law_674 : decode code 674 = .ok (.ldc2_w 45, 3) := by decide +kernel
theorem d_L_law_677 : decode code 677 = .ok (.land, 1) := by decide +kernel
theorem d_L_law_678 : decode code 678 = .ok (.lor, 1) := by decide +kernel
theorem d_L_law_679 : decode code 679 = .ok (.invokevirtual 77, 3) := by decide +kernel
theorem d_L_law_682 : decode code 682 = .ok (.aload_n 2, 1) := by decide +kernel
theorem d_L_law_683 : decode code 683 = .ok (.aload_n 0, 1) := by decide +kernel
theorem d_L_law_684 : decode code 684 = .ok (.iload 4, 2) := by decide +kernel
theorem d_L_law_686 : decode code 686 = .ok (.iconst 1, 1) := by decide +kernel
theorem d_L_law_687 : decode code 687 = .ok (.iadd, 1) := by decide +kernel
theorem d_L_law_688 : decode code 688 = .ok (.iaload, 1) := by decide +kernel
theorem d_L_law_689 : decode code 689 = .ok (.i2l, 1) := by decide +kernel
theorem d_L_law_690 : decode code 690 = .ok (.bipush 32, 2) := by decide +kernel
theorem d_L_law_692 : decode code 692 = .ok (.lshl, 1) := by decide +kernel
theorem d_L_law_693 : decode code 693 = .ok (.aload_n 0, 1) := by decide +kernel
theorem d_L_law_694 : decode code 694 = .ok (.iload 4, 2) := by decide +kernel
theorem d_L_law_696 : decode code 696 = .ok (.iconst 2, 1) := by decide +kernel
theorem d_L_law_697 : decode code 697 = .ok (.iadd, 1) := by decide +kernel
theorem d_L_law_698 : decode code 698 = .ok (.iaload, 1) := by decide +kernel
theorem d_L_law_699 : decode code 699 = .ok (.i2l, 1) := by decide +kernel
theorem d_L_law_700 : decode code 700 = .ok (.ldc2_w 45, 3) := by decide +kernel
theorem d_L_law_703 : decode code 703 = .ok (.land, 1) := by decide +kernel
theorem d_L_law_704 : decode code 704 = .ok (.lor, 1) := by decide +kernel
theorem d_L_law_705 : decode code 705 = .ok (.invokevirtual 81, 3) := by decide +kernel
theorem d_L_law_708 : decode code 708 = .ok (.lcmp, 1) := by decide +kernel
theorem d_L_law_709 : decode code 709 = .ok (.ifCond .eq 330, 3) := by decide +kernel
theorem d_L_law_712 : decode code 712 = .ok (.iconst 0, 1) := by decide +kernel
theorem d_L_law_713 : decode code 713 = .ok (.ireturn, 1) := by decide +kernel
theorem d_L_law_714 : decode code 714 = .ok (.aload_n 1, 1) := by decide +kernel
theorem d_L_law_715 : decode code 715 = .ok (.aload_n 0, 1) := by decide +kernel
theorem d_L_law_716 : decode code 716 = .ok (.iload 4, 2) := by decide +kernel
theorem d_L_law_718 : decode code 718 = .ok (.iconst 1, 1) := by decide +kernel
theorem d_L_law_719 : decode code 719 = .ok (.iadd, 1) := by decide +kernel
theorem d_L_law_720 : decode code 720 = .ok (.iaload, 1) := by decide +kernel
theorem d_L_law_721 : decode code 721 = .ok (.i2l, 1) := by decide +kernel
theorem d_L_law_722 : decode code 722 = .ok (.bipush 32, 2) := by decide +kernel
theorem d_L_law_724 : decode code 724 = .ok (.lshl, 1) := by decide +kernel
theorem d_L_law_725 : decode code 725 = .ok (.aload_n 0, 1) := by decide +kernel
theorem d_L_law_726 : decode code 726 = .ok (.iload 4, 2) := by decide +kernel
theorem d_L_law_728 : decode code 728 = .ok (.iconst 2, 1) := by decide +kernel
theorem d_L_law_729 : decode code 729 = .ok (.iadd, 1) := by decide +kernel
theorem d_L_law_730 : decode code 730 = .ok (.iaload, 1) := by decide +kernel
theorem d_L_law_731 : decode code 731 = .ok (.i2l, 1) := by decide +kernel
theorem d_L_law_732 : decode code 732 = .ok (.ldc2_w 45, 3) := by decide +kernel
theorem d_L_law_735 : decode code 735 = .ok (.land, 1) := by decide +kernel
theorem d_L_law_736 : decode code 736 = .ok (.lor, 1) := by decide +kernel
theorem d_L_law_737 : decode code 737 = .ok (.invokevirtual 82, 3) := by decide +kernel
theorem d_L_law_740 : decode code 740 = .ok (.aload_n 2, 1) := by decide +kernel
theorem d_L_law_741 : decode code 741 = .ok (.aload_n 0, 1) := by decide +kernel
theorem d_L_law_742 : decode code 742 = .ok (.iload 4, 2) := by decide +kernel
theorem d_L_law_744 : decode code 744 = .ok (.iconst 1, 1) := by decide +kernel
theorem d_L_law_745 : decode code 745 = .ok (.iadd, 1) := by decide +kernel
theorem d_L_law_746 : decode code 746 = .ok (.iaload, 1) := by decide +kernel
theorem d_L_law_747 : decode code 747 = .ok (.i2l, 1) := by decide +kernel
theorem d_L_law_748 : decode code 748 = .ok (.bipush 32, 2) := by decide +kernel
theorem d_L_law_750 : decode code 750 = .ok (.lshl, 1) := by decide +kernel
theorem d_L_law_751 : decode code 751 = .ok (.aload_n 0, 1) := by decide +kernel
theorem d_L_law_752 : decode code 752 = .ok (.iload 4, 2) := by decide +kernel
theorem d_L_law_754 : decode code 754 = .ok (.iconst 2, 1) := by decide +kernel
theorem d_L_law_755 : decode code 755 = .ok (.iadd, 1) := by decide +kernel
theorem d_L_law_756 : decode code 756 = .ok (.iaload, 1) := by decide +kernel
theorem d_L_law_757 : decode code 757 = .ok (.i2l, 1) := by decide +kernel
theorem d_L_law_758 : decode code 758 = .ok (.ldc2_w 45, 3) := by decide +kernel
theorem d_L_law_761 : decode code 761 = .ok (.land, 1) := by decide +kernel
theorem d_L_law_762 : decode code 762 = .ok (.lor, 1) := by decide +kernel
theorem d_L_law_763 : decode code 763 = .ok (.invokevirtual 86, 3) := by decide +kernel
theorem d_L_law_766 : decode code 766 = .ok (.if_icmp .eq 273, 3) := by decide +kernel
theorem d_L_law_769 : decode code 769 = .ok (.iconst 0, 1) := by decide +kernel
theorem d_L_law_770 : decode code 770 = .ok (.ireturn, 1) := by decide +kernel
theorem d_L_law_771 : decode code 771 = .ok (.aload_n 1, 1) := by decide +kernel
theorem d_L_law_772 : decode code 772 = .ok (.aload_n 0, 1) := by decide +kernel
theorem d_L_law_773 : decode code 773 = .ok (.iload 4, 2) := by decide +kernel
theorem d_L_law_775 : decode code 775 = .ok (.iconst 1, 1) := by decide +kernel
theorem d_L_law_776 : decode code 776 = .ok (.iadd, 1) := by decide +kernel
theorem d_L_law_777 : decode code 777 = .ok (.iaload, 1) := by decide +kernel
theorem d_L_law_778 : decode code 778 = .ok (.i2l, 1) := by decide +kernel
theorem d_L_law_779 : decode code 779 = .ok (.bipush 32, 2) := by decide +kernel
theorem d_L_law_781 : decode code 781 = .ok (.lshl, 1) := by decide +kernel
theorem d_L_law_782 : decode code 782 = .ok (.aload_n 0, 1) := by decide +kernel
theorem d_L_law_783 : decode code 783 = .ok (.iload 4, 2) := by decide +kernel
theorem d_L_law_785 : decode code 785 = .ok (.iconst 2, 1) := by decide +kernel
theorem d_L_law_786 : decode code 786 = .ok (.iadd, 1) := by decide +kernel
theorem d_L_law_787 : decode code 787 = .ok (.iaload, 1) := by decide +kernel
theorem d_L_law_788 : decode code 788 = .ok (.i2l, 1) := by decide +kernel
theorem d_L_law_789 : decode code 789 = .ok (.ldc2_w 45, 3) := by decide +kernel
theorem d_L_law_792 : decode code 792 = .ok (.land, 1) := by decide +kernel
theorem d_L_law_793 : decode code 793 = .ok (.lor, 1) := by decide +kernel
theorem d_L_law_794 : decode code 794 = .ok (.aload_n 0, 1) := by decide +kernel
theorem d_L_law_795 : decode code 795 = .ok (.iload 4, 2) := by decide +kernel
theorem d_L_law_797 : decode code 797 = .ok (.iconst 3, 1) := by decide +kernel
theorem d_L_law_798 : decode code 798 = .ok (.iadd, 1) := by decide +kernel
theorem d_L_law_799 : decode code 799 = .ok (.iaload, 1) := by decide +kernel
theorem d_L_law_800 : decode code 800 = .ok (.aload_n 3, 1) := by decide +kernel
theorem d_L_law_801 : decode code 801 = .ok (.invokestatic 87, 3) := by decide +kernel
theorem d_L_law_804 : decode code 804 = .ok (.istore 5, 2) := by decide +kernel
theorem d_L_law_806 : decode code 806 = .ok (.aload_n 2, 1) := by decide +kernel
theorem d_L_law_807 : decode code 807 = .ok (.aload_n 0, 1) := by decide +kernel
theorem d_L_law_808 : decode code 808 = .ok (.iload 4, 2) := by decide +kernel
theorem d_L_law_810 : decode code 810 = .ok (.iconst 1, 1) := by decide +kernel
theorem d_L_law_811 : decode code 811 = .ok (.iadd, 1) := by decide +kernel
theorem d_L_law_812 : decode code 812 = .ok (.iaload, 1) := by decide +kernel
theorem d_L_law_813 : decode code 813 = .ok (.i2l, 1) := by decide +kernel
theorem d_L_law_814 : decode code 814 = .ok (.bipush 32, 2) := by decide +kernel
theorem d_L_law_816 : decode code 816 = .ok (.lshl, 1) := by decide +kernel
theorem d_L_law_817 : decode code 817 = .ok (.aload_n 0, 1) := by decide +kernel
theorem d_L_law_818 : decode code 818 = .ok (.iload 4, 2) := by decide +kernel
theorem d_L_law_820 : decode code 820 = .ok (.iconst 2, 1) := by decide +kernel
theorem d_L_law_821 : decode code 821 = .ok (.iadd, 1) := by decide +kernel
theorem d_L_law_822 : decode code 822 = .ok (.iaload, 1) := by decide +kernel
theorem d_L_law_823 : decode code 823 = .ok (.i2l, 1) := by decide +kernel
theorem d_L_law_824 : decode code 824 = .ok (.ldc2_w 45, 3) := by decide +kernel
theorem d_L_law_827 : decode code 827 = .ok (.land, 1) := by decide +kernel
theorem d_L_law_828 : decode code 828 = .ok (.lor, 1) := by decide +kernel
theorem d_L_law_829 : decode code 829 = .ok (.aload_n 0, 1) := by decide +kernel
theorem d_L_law_830 : decode code 830 = .ok (.iload 4, 2) := by decide +kernel
theorem d_L_law_832 : decode code 832 = .ok (.iconst 3, 1) := by decide +kernel
theorem d_L_law_833 : decode code 833 = .ok (.iadd, 1) := by decide +kernel
theorem d_L_law_834 : decode code 834 = .ok (.iaload, 1) := by decide +kernel
theorem d_L_law_835 : decode code 835 = .ok (.invokevirtual 89, 3) := by decide +kernel
theorem d_L_law_838 : decode code 838 = .ok (.istore 6, 2) := by decide +kernel
theorem d_L_law_840 : decode code 840 = .ok (.aload_n 2, 1) := by decide +kernel
theorem d_L_law_841 : decode code 841 = .ok (.invokevirtual 53, 3) := by decide +kernel
theorem d_L_law_844 : decode code 844 = .ok (.iload 5, 2) := by decide +kernel
theorem d_L_law_846 : decode code 846 = .ok (.if_icmp .eq 5, 3) := by decide +kernel
theorem d_L_law_849 : decode code 849 = .ok (.iconst 0, 1) := by decide +kernel
theorem d_L_law_850 : decode code 850 = .ok (.ireturn, 1) := by decide +kernel
theorem d_L_law_851 : decode code 851 = .ok (.iload 5, 2) := by decide +kernel
theorem d_L_law_853 : decode code 853 = .ok (.ifCond .ne 15, 3) := by decide +kernel
theorem d_L_law_856 : decode code 856 = .ok (.aload_n 3, 1) := by decide +kernel
theorem d_L_law_857 : decode code 857 = .ok (.iconst 0, 1) := by decide +kernel
theorem d_L_law_858 : decode code 858 = .ok (.laload, 1) := by decide +kernel
theorem d_L_law_859 : decode code 859 = .ok (.iload 6, 2) := by decide +kernel
theorem d_L_law_861 : decode code 861 = .ok (.i2l, 1) := by decide +kernel
theorem d_L_law_862 : decode code 862 = .ok (.lcmp, 1) := by decide +kernel
theorem d_L_law_863 : decode code 863 = .ok (.ifCond .eq 5, 3) := by decide +kernel
theorem d_L_law_866 : decode code 866 = .ok (.iconst 0, 1) := by decide +kernel
theorem d_L_law_867 : decode code 867 = .ok (.ireturn, 1) := by decide +kernel
theorem d_L_law_868 : decode code 868 = .ok (.goto 171, 3) := by decide +kernel
theorem d_L_law_871 : decode code 871 = .ok (.aload_n 1, 1) := by decide +kernel
theorem d_L_law_872 : decode code 872 = .ok (.aload_n 0, 1) := by decide +kernel
theorem d_L_law_873 : decode code 873 = .ok (.iload 4, 2) := by decide +kernel
theorem d_L_law_875 : decode code 875 = .ok (.iconst 1, 1) := by decide +kernel
theorem d_L_law_876 : decode code 876 = .ok (.iadd, 1) := by decide +kernel
theorem d_L_law_877 : decode code 877 = .ok (.iaload, 1) := by decide +kernel
theorem d_L_law_878 : decode code 878 = .ok (.i2l, 1) := by decide +kernel
theorem d_L_law_879 : decode code 879 = .ok (.bipush 32, 2) := by decide +kernel
theorem d_L_law_881 : decode code 881 = .ok (.lshl, 1) := by decide +kernel
theorem d_L_law_882 : decode code 882 = .ok (.aload_n 0, 1) := by decide +kernel
theorem d_L_law_883 : decode code 883 = .ok (.iload 4, 2) := by decide +kernel
theorem d_L_law_885 : decode code 885 = .ok (.iconst 2, 1) := by decide +kernel
theorem d_L_law_886 : decode code 886 = .ok (.iadd, 1) := by decide +kernel
theorem d_L_law_887 : decode code 887 = .ok (.iaload, 1) := by decide +kernel
theorem d_L_law_888 : decode code 888 = .ok (.i2l, 1) := by decide +kernel
theorem d_L_law_889 : decode code 889 = .ok (.ldc2_w 45, 3) := by decide +kernel
theorem d_L_law_892 : decode code 892 = .ok (.land, 1) := by decide +kernel
theorem d_L_law_893 : decode code 893 = .ok (.lor, 1) := by decide +kernel
theorem d_L_law_894 : decode code 894 = .ok (.aload_n 0, 1) := by decide +kernel
theorem d_L_law_895 : decode code 895 = .ok (.iload 4, 2) := by decide +kernel
theorem d_L_law_897 : decode code 897 = .ok (.iconst 3, 1) := by decide +kernel
theorem d_L_law_898 : decode code 898 = .ok (.iadd, 1) := by decide +kernel
theorem d_L_law_899 : decode code 899 = .ok (.iaload, 1) := by decide +kernel
theorem d_L_law_900 : decode code 900 = .ok (.aload_n 0, 1) := by decide +kernel
theorem d_L_law_901 : decode code 901 = .ok (.iload 4, 2) := by decide +kernel
theorem d_L_law_903 : decode code 903 = .ok (.iconst 4, 1) := by decide +kernel
theorem d_L_law_904 : decode code 904 = .ok (.iadd, 1) := by decide +kernel
theorem d_L_law_905 : decode code 905 = .ok (.iaload, 1) := by decide +kernel
theorem d_L_law_906 : decode code 906 = .ok (.aload_n 3, 1) := by decide +kernel
theorem d_L_law_907 : decode code 907 = .ok (.invokestatic 90, 3) := by decide +kernel
theorem d_L_law_910 : decode code 910 = .ok (.istore 5, 2) := by decide +kernel
theorem d_L_law_912 : decode code 912 = .ok (.aload_n 2, 1) := by decide +kernel
theorem d_L_law_913 : decode code 913 = .ok (.aload_n 0, 1) := by decide +kernel
theorem d_L_law_914 : decode code 914 = .ok (.iload 4, 2) := by decide +kernel
theorem d_L_law_916 : decode code 916 = .ok (.iconst 1, 1) := by decide +kernel
theorem d_L_law_917 : decode code 917 = .ok (.iadd, 1) := by decide +kernel
theorem d_L_law_918 : decode code 918 = .ok (.iaload, 1) := by decide +kernel
theorem d_L_law_919 : decode code 919 = .ok (.i2l, 1) := by decide +kernel
theorem d_L_law_920 : decode code 920 = .ok (.bipush 32, 2) := by decide +kernel
theorem d_L_law_922 : decode code 922 = .ok (.lshl, 1) := by decide +kernel
theorem d_L_law_923 : decode code 923 = .ok (.aload_n 0, 1) := by decide +kernel
theorem d_L_law_924 : decode code 924 = .ok (.iload 4, 2) := by decide +kernel
theorem d_L_law_926 : decode code 926 = .ok (.iconst 2, 1) := by decide +kernel
theorem d_L_law_927 : decode code 927 = .ok (.iadd, 1) := by decide +kernel
theorem d_L_law_928 : decode code 928 = .ok (.iaload, 1) := by decide +kernel
theorem d_L_law_929 : decode code 929 = .ok (.i2l, 1) := by decide +kernel
theorem d_L_law_930 : decode code 930 = .ok (.ldc2_w 45, 3) := by decide +kernel
theorem d_L_law_933 : decode code 933 = .ok (.land, 1) := by decide +kernel
theorem d_L_law_934 : decode code 934 = .ok (.lor, 1) := by decide +kernel
theorem d_L_law_935 : decode code 935 = .ok (.aload_n 0, 1) := by decide +kernel
theorem d_L_law_936 : decode code 936 = .ok (.iload 4, 2) := by decide +kernel
theorem d_L_law_938 : decode code 938 = .ok (.iconst 3, 1) := by decide +kernel
theorem d_L_law_939 : decode code 939 = .ok (.iadd, 1) := by decide +kernel
theorem d_L_law_940 : decode code 940 = .ok (.iaload, 1) := by decide +kernel
theorem d_L_law_941 : decode code 941 = .ok (.aload_n 0, 1) := by decide +kernel
theorem d_L_law_942 : decode code 942 = .ok (.iload 4, 2) := by decide +kernel
theorem d_L_law_944 : decode code 944 = .ok (.iconst 4, 1) := by decide +kernel
theorem d_L_law_945 : decode code 945 = .ok (.iadd, 1) := by decide +kernel
theorem d_L_law_946 : decode code 946 = .ok (.iaload, 1) := by decide +kernel
theorem d_L_law_947 : decode code 947 = .ok (.invokevirtual 93, 3) := by decide +kernel
theorem d_L_law_950 : decode code 950 = .ok (.istore 6, 2) := by decide +kernel
theorem d_L_law_952 : decode code 952 = .ok (.aload_n 2, 1) := by decide +kernel
theorem d_L_law_953 : decode code 953 = .ok (.invokevirtual 53, 3) := by decide +kernel
theorem d_L_law_956 : decode code 956 = .ok (.iload 5, 2) := by decide +kernel
theorem d_L_law_958 : decode code 958 = .ok (.if_icmp .eq 5, 3) := by decide +kernel
theorem d_L_law_961 : decode code 961 = .ok (.iconst 0, 1) := by decide +kernel
theorem d_L_law_962 : decode code 962 = .ok (.ireturn, 1) := by decide +kernel
theorem d_L_law_963 : decode code 963 = .ok (.iload 5, 2) := by decide +kernel
theorem d_L_law_965 : decode code 965 = .ok (.ifCond .ne 15, 3) := by decide +kernel
theorem d_L_law_968 : decode code 968 = .ok (.aload_n 3, 1) := by decide +kernel
theorem d_L_law_969 : decode code 969 = .ok (.iconst 0, 1) := by decide +kernel
theorem d_L_law_970 : decode code 970 = .ok (.laload, 1) := by decide +kernel
theorem d_L_law_971 : decode code 971 = .ok (.iload 6, 2) := by decide +kernel
theorem d_L_law_973 : decode code 973 = .ok (.i2l, 1) := by decide +kernel
theorem d_L_law_974 : decode code 974 = .ok (.lcmp, 1) := by decide +kernel
theorem d_L_law_975 : decode code 975 = .ok (.ifCond .eq 5, 3) := by decide +kernel
theorem d_L_law_978 : decode code 978 = .ok (.iconst 0, 1) := by decide +kernel
theorem d_L_law_979 : decode code 979 = .ok (.ireturn, 1) := by decide +kernel
theorem d_L_law_980 : decode code 980 = .ok (.goto 59, 3) := by decide +kernel
theorem d_L_law_983 : decode code 983 = .ok (.aload_n 1, 1) := by decide +kernel
theorem d_L_law_984 : decode code 984 = .ok (.aload_n 0, 1) := by decide +kernel
theorem d_L_law_985 : decode code 985 = .ok (.iload 4, 2) := by decide +kernel
theorem d_L_law_987 : decode code 987 = .ok (.iconst 1, 1) := by decide +kernel
theorem d_L_law_988 : decode code 988 = .ok (.iadd, 1) := by decide +kernel
theorem d_L_law_989 : decode code 989 = .ok (.iaload, 1) := by decide +kernel
theorem d_L_law_990 : decode code 990 = .ok (.aload_n 3, 1) := by decide +kernel
theorem d_L_law_991 : decode code 991 = .ok (.invokestatic 94, 3) := by decide +kernel
theorem d_L_law_994 : decode code 994 = .ok (.istore 5, 2) := by decide +kernel
theorem d_L_law_996 : decode code 996 = .ok (.aload_n 2, 1) := by decide +kernel
theorem d_L_law_997 : decode code 997 = .ok (.aload_n 0, 1) := by decide +kernel
theorem d_L_law_998 : decode code 998 = .ok (.iload 4, 2) := by decide +kernel
theorem d_L_law_1000 : decode code 1000 = .ok (.iconst 1, 1) := by decide +kernel
theorem d_L_law_1001 : decode code 1001 = .ok (.iadd, 1) := by decide +kernel
theorem d_L_law_1002 : decode code 1002 = .ok (.iaload, 1) := by decide +kernel
theorem d_L_law_1003 : decode code 1003 = .ok (.invokevirtual 97, 3) := by decide +kernel
theorem d_L_law_1006 : decode code 1006 = .ok (.istore 6, 2) := by decide +kernel
theorem d_L_law_1008 : decode code 1008 = .ok (.aload_n 2, 1) := by decide +kernel
theorem d_L_law_1009 : decode code 1009 = .ok (.invokevirtual 53, 3) := by decide +kernel
theorem d_L_law_1012 : decode code 1012 = .ok (.iload 5, 2) := by decide +kernel
theorem d_L_law_1014 : decode code 1014 = .ok (.if_icmp .eq 5, 3) := by decide +kernel
theorem d_L_law_1017 : decode code 1017 = .ok (.iconst 0, 1) := by decide +kernel
theorem d_L_law_1018 : decode code 1018 = .ok (.ireturn, 1) := by decide +kernel
theorem d_L_law_1019 : decode code 1019 = .ok (.iload 5, 2) := by decide +kernel
theorem d_L_law_1021 : decode code 1021 = .ok (.ifCond .ne 15, 3) := by decide +kernel
theorem d_L_law_1024 : decode code 1024 = .ok (.aload_n 3, 1) := by decide +kernel
theorem d_L_law_1025 : decode code 1025 = .ok (.iconst 0, 1) := by decide +kernel
theorem d_L_law_1026 : decode code 1026 = .ok (.laload, 1) := by decide +kernel
theorem d_L_law_1027 : decode code 1027 = .ok (.iload 6, 2) := by decide +kernel
theorem d_L_law_1029 : decode code 1029 = .ok (.i2l, 1) := by decide +kernel
theorem d_L_law_1030 : decode code 1030 = .ok (.lcmp, 1) := by decide +kernel
theorem d_L_law_1031 : decode code 1031 = .ok (.ifCond .eq 5, 3) := by decide +kernel
theorem d_L_law_1034 : decode code 1034 = .ok (.iconst 0, 1) := by decide +kernel
theorem d_L_law_1035 : decode code 1035 = .ok (.ireturn, 1) := by decide +kernel
theorem d_L_law_1036 : decode code 1036 = .ok (.goto 3, 3) := by decide +kernel
theorem d_L_law_1039 : decode code 1039 = .ok (.iinc 4 6, 3) := by decide +kernel
theorem d_L_law_1042 : decode code 1042 = .ok (.goto (-1019), 3) := by decide +kernel
theorem d_L_law_1045 : decode code 1045 = .ok (.iconst 1, 1) := by decide +kernel
theorem d_L_law_1046 : decode code 1046 = .ok (.ireturn, 1) := by decide +kernel
