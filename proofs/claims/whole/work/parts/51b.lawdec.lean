theorem dL_law_632 : decode cL_law 632 = .ok (.iload_n 3, 1) := by decide +kernel
theorem dL_law_633 : decode cL_law 633 = .ok (.iconst 2, 1) := by decide +kernel
theorem dL_law_634 : decode cL_law 634 = .ok (.iadd, 1) := by decide +kernel
theorem dL_law_635 : decode cL_law 635 = .ok (.iaload, 1) := by decide +kernel
theorem dL_law_636 : decode cL_law 636 = .ok (.invokevirtual 90, 3) := by decide +kernel
theorem dL_law_639 : decode cL_law 639 = .ok (.if_icmp .eq 476, 3) := by decide +kernel
theorem dL_law_642 : decode cL_law 642 = .ok (.iconst 0, 1) := by decide +kernel
theorem dL_law_643 : decode cL_law 643 = .ok (.ireturn, 1) := by decide +kernel
theorem dL_law_644 : decode cL_law 644 = .ok (.aload_n 1, 1) := by decide +kernel
theorem dL_law_645 : decode cL_law 645 = .ok (.invokevirtual 91, 3) := by decide +kernel
theorem dL_law_648 : decode cL_law 648 = .ok (.aload_n 2, 1) := by decide +kernel
theorem dL_law_649 : decode cL_law 649 = .ok (.invokevirtual 94, 3) := by decide +kernel
theorem dL_law_652 : decode cL_law 652 = .ok (.if_icmp .eq 463, 3) := by decide +kernel
theorem dL_law_655 : decode cL_law 655 = .ok (.iconst 0, 1) := by decide +kernel
theorem dL_law_656 : decode cL_law 656 = .ok (.ireturn, 1) := by decide +kernel
theorem dL_law_657 : decode cL_law 657 = .ok (.aload_n 1, 1) := by decide +kernel
theorem dL_law_658 : decode cL_law 658 = .ok (.aload_n 0, 1) := by decide +kernel
theorem dL_law_659 : decode cL_law 659 = .ok (.iload_n 3, 1) := by decide +kernel
theorem dL_law_660 : decode cL_law 660 = .ok (.iconst 1, 1) := by decide +kernel
theorem dL_law_661 : decode cL_law 661 = .ok (.iadd, 1) := by decide +kernel
theorem dL_law_662 : decode cL_law 662 = .ok (.iaload, 1) := by decide +kernel
theorem dL_law_663 : decode cL_law 663 = .ok (.invokevirtual 95, 3) := by decide +kernel
theorem dL_law_666 : decode cL_law 666 = .ok (.aload_n 2, 1) := by decide +kernel
theorem dL_law_667 : decode cL_law 667 = .ok (.aload_n 0, 1) := by decide +kernel
theorem dL_law_668 : decode cL_law 668 = .ok (.iload_n 3, 1) := by decide +kernel
theorem dL_law_669 : decode cL_law 669 = .ok (.iconst 1, 1) := by decide +kernel
theorem dL_law_670 : decode cL_law 670 = .ok (.iadd, 1) := by decide +kernel
theorem dL_law_671 : decode cL_law 671 = .ok (.iaload, 1) := by decide +kernel
theorem dL_law_672 : decode cL_law 672 = .ok (.invokevirtual 98, 3) := by decide +kernel
theorem dL_law_675 : decode cL_law 675 = .ok (.if_icmp .eq 440, 3) := by decide +kernel
theorem dL_law_678 : decode cL_law 678 = .ok (.iconst 0, 1) := by decide +kernel
theorem dL_law_679 : decode cL_law 679 = .ok (.ireturn, 1) := by decide +kernel
theorem dL_law_680 : decode cL_law 680 = .ok (.aload_n 1, 1) := by decide +kernel
theorem dL_law_681 : decode cL_law 681 = .ok (.invokevirtual 99, 3) := by decide +kernel
theorem dL_law_684 : decode cL_law 684 = .ok (.aload_n 2, 1) := by decide +kernel
theorem dL_law_685 : decode cL_law 685 = .ok (.invokevirtual 102, 3) := by decide +kernel
theorem dL_law_688 : decode cL_law 688 = .ok (.if_icmp .eq 427, 3) := by decide +kernel
theorem dL_law_691 : decode cL_law 691 = .ok (.iconst 0, 1) := by decide +kernel
theorem dL_law_692 : decode cL_law 692 = .ok (.ireturn, 1) := by decide +kernel
theorem dL_law_693 : decode cL_law 693 = .ok (.aload_n 1, 1) := by decide +kernel
theorem dL_law_694 : decode cL_law 694 = .ok (.aload_n 0, 1) := by decide +kernel
theorem dL_law_695 : decode cL_law 695 = .ok (.iload_n 3, 1) := by decide +kernel
theorem dL_law_696 : decode cL_law 696 = .ok (.iconst 1, 1) := by decide +kernel
theorem dL_law_697 : decode cL_law 697 = .ok (.iadd, 1) := by decide +kernel
theorem dL_law_698 : decode cL_law 698 = .ok (.iaload, 1) := by decide +kernel
theorem dL_law_699 : decode cL_law 699 = .ok (.invokevirtual 103, 3) := by decide +kernel
theorem dL_law_702 : decode cL_law 702 = .ok (.aload_n 2, 1) := by decide +kernel
theorem dL_law_703 : decode cL_law 703 = .ok (.aload_n 0, 1) := by decide +kernel
theorem dL_law_704 : decode cL_law 704 = .ok (.iload_n 3, 1) := by decide +kernel
theorem dL_law_705 : decode cL_law 705 = .ok (.iconst 1, 1) := by decide +kernel
theorem dL_law_706 : decode cL_law 706 = .ok (.iadd, 1) := by decide +kernel
theorem dL_law_707 : decode cL_law 707 = .ok (.iaload, 1) := by decide +kernel
theorem dL_law_708 : decode cL_law 708 = .ok (.invokevirtual 106, 3) := by decide +kernel
theorem dL_law_711 : decode cL_law 711 = .ok (.if_icmp .eq 404, 3) := by decide +kernel
theorem dL_law_714 : decode cL_law 714 = .ok (.iconst 0, 1) := by decide +kernel
theorem dL_law_715 : decode cL_law 715 = .ok (.ireturn, 1) := by decide +kernel
theorem dL_law_716 : decode cL_law 716 = .ok (.aload_n 1, 1) := by decide +kernel
theorem dL_law_717 : decode cL_law 717 = .ok (.aload_n 0, 1) := by decide +kernel
theorem dL_law_718 : decode cL_law 718 = .ok (.iload_n 3, 1) := by decide +kernel
theorem dL_law_719 : decode cL_law 719 = .ok (.iconst 1, 1) := by decide +kernel
theorem dL_law_720 : decode cL_law 720 = .ok (.iadd, 1) := by decide +kernel
theorem dL_law_721 : decode cL_law 721 = .ok (.iaload, 1) := by decide +kernel
theorem dL_law_722 : decode cL_law 722 = .ok (.invokevirtual 107, 3) := by decide +kernel
theorem dL_law_725 : decode cL_law 725 = .ok (.aload_n 2, 1) := by decide +kernel
theorem dL_law_726 : decode cL_law 726 = .ok (.aload_n 0, 1) := by decide +kernel
theorem dL_law_727 : decode cL_law 727 = .ok (.iload_n 3, 1) := by decide +kernel
theorem dL_law_728 : decode cL_law 728 = .ok (.iconst 1, 1) := by decide +kernel
theorem dL_law_729 : decode cL_law 729 = .ok (.iadd, 1) := by decide +kernel
theorem dL_law_730 : decode cL_law 730 = .ok (.iaload, 1) := by decide +kernel
theorem dL_law_731 : decode cL_law 731 = .ok (.invokevirtual 110, 3) := by decide +kernel
theorem dL_law_734 : decode cL_law 734 = .ok (.if_icmp .eq 381, 3) := by decide +kernel
theorem dL_law_737 : decode cL_law 737 = .ok (.iconst 0, 1) := by decide +kernel
theorem dL_law_738 : decode cL_law 738 = .ok (.ireturn, 1) := by decide +kernel
theorem dL_law_739 : decode cL_law 739 = .ok (.aload_n 1, 1) := by decide +kernel
theorem dL_law_740 : decode cL_law 740 = .ok (.aload_n 0, 1) := by decide +kernel
theorem dL_law_741 : decode cL_law 741 = .ok (.iload_n 3, 1) := by decide +kernel
theorem dL_law_742 : decode cL_law 742 = .ok (.iconst 1, 1) := by decide +kernel
theorem dL_law_743 : decode cL_law 743 = .ok (.iadd, 1) := by decide +kernel
theorem dL_law_744 : decode cL_law 744 = .ok (.iaload, 1) := by decide +kernel
theorem dL_law_745 : decode cL_law 745 = .ok (.aload_n 0, 1) := by decide +kernel
theorem dL_law_746 : decode cL_law 746 = .ok (.iload_n 3, 1) := by decide +kernel
theorem dL_law_747 : decode cL_law 747 = .ok (.iconst 2, 1) := by decide +kernel
theorem dL_law_748 : decode cL_law 748 = .ok (.iadd, 1) := by decide +kernel
theorem dL_law_749 : decode cL_law 749 = .ok (.iaload, 1) := by decide +kernel
theorem dL_law_750 : decode cL_law 750 = .ok (.i2l, 1) := by decide +kernel
theorem dL_law_751 : decode cL_law 751 = .ok (.bipush 32, 2) := by decide +kernel
theorem dL_law_753 : decode cL_law 753 = .ok (.lshl, 1) := by decide +kernel
theorem dL_law_754 : decode cL_law 754 = .ok (.aload_n 0, 1) := by decide +kernel
theorem dL_law_755 : decode cL_law 755 = .ok (.iload_n 3, 1) := by decide +kernel
theorem dL_law_756 : decode cL_law 756 = .ok (.iconst 3, 1) := by decide +kernel
theorem dL_law_757 : decode cL_law 757 = .ok (.iadd, 1) := by decide +kernel
theorem dL_law_758 : decode cL_law 758 = .ok (.iaload, 1) := by decide +kernel
theorem dL_law_759 : decode cL_law 759 = .ok (.i2l, 1) := by decide +kernel
theorem dL_law_760 : decode cL_law 760 = .ok (.ldc2_w 111, 3) := by decide +kernel
theorem dL_law_763 : decode cL_law 763 = .ok (.land, 1) := by decide +kernel
theorem dL_law_764 : decode cL_law 764 = .ok (.lor, 1) := by decide +kernel
theorem dL_law_765 : decode cL_law 765 = .ok (.invokevirtual 113, 3) := by decide +kernel
theorem dL_law_768 : decode cL_law 768 = .ok (.aload_n 2, 1) := by decide +kernel
theorem dL_law_769 : decode cL_law 769 = .ok (.aload_n 0, 1) := by decide +kernel
theorem dL_law_770 : decode cL_law 770 = .ok (.iload_n 3, 1) := by decide +kernel
theorem dL_law_771 : decode cL_law 771 = .ok (.iconst 1, 1) := by decide +kernel
theorem dL_law_772 : decode cL_law 772 = .ok (.iadd, 1) := by decide +kernel
theorem dL_law_773 : decode cL_law 773 = .ok (.iaload, 1) := by decide +kernel
theorem dL_law_774 : decode cL_law 774 = .ok (.aload_n 0, 1) := by decide +kernel
theorem dL_law_775 : decode cL_law 775 = .ok (.iload_n 3, 1) := by decide +kernel
theorem dL_law_776 : decode cL_law 776 = .ok (.iconst 2, 1) := by decide +kernel
theorem dL_law_777 : decode cL_law 777 = .ok (.iadd, 1) := by decide +kernel
theorem dL_law_778 : decode cL_law 778 = .ok (.iaload, 1) := by decide +kernel
theorem dL_law_779 : decode cL_law 779 = .ok (.i2l, 1) := by decide +kernel
theorem dL_law_780 : decode cL_law 780 = .ok (.bipush 32, 2) := by decide +kernel
theorem dL_law_782 : decode cL_law 782 = .ok (.lshl, 1) := by decide +kernel
theorem dL_law_783 : decode cL_law 783 = .ok (.aload_n 0, 1) := by decide +kernel
theorem dL_law_784 : decode cL_law 784 = .ok (.iload_n 3, 1) := by decide +kernel
theorem dL_law_785 : decode cL_law 785 = .ok (.iconst 3, 1) := by decide +kernel
theorem dL_law_786 : decode cL_law 786 = .ok (.iadd, 1) := by decide +kernel
theorem dL_law_787 : decode cL_law 787 = .ok (.iaload, 1) := by decide +kernel
theorem dL_law_788 : decode cL_law 788 = .ok (.i2l, 1) := by decide +kernel
theorem dL_law_789 : decode cL_law 789 = .ok (.ldc2_w 111, 3) := by decide +kernel
theorem dL_law_792 : decode cL_law 792 = .ok (.land, 1) := by decide +kernel
theorem dL_law_793 : decode cL_law 793 = .ok (.lor, 1) := by decide +kernel
theorem dL_law_794 : decode cL_law 794 = .ok (.invokevirtual 117, 3) := by decide +kernel
theorem dL_law_797 : decode cL_law 797 = .ok (.if_icmp .eq 318, 3) := by decide +kernel
theorem dL_law_800 : decode cL_law 800 = .ok (.iconst 0, 1) := by decide +kernel
theorem dL_law_801 : decode cL_law 801 = .ok (.ireturn, 1) := by decide +kernel
theorem dL_law_802 : decode cL_law 802 = .ok (.aload_n 1, 1) := by decide +kernel
theorem dL_law_803 : decode cL_law 803 = .ok (.aload_n 0, 1) := by decide +kernel
theorem dL_law_804 : decode cL_law 804 = .ok (.iload_n 3, 1) := by decide +kernel
theorem dL_law_805 : decode cL_law 805 = .ok (.iconst 1, 1) := by decide +kernel
theorem dL_law_806 : decode cL_law 806 = .ok (.iadd, 1) := by decide +kernel
theorem dL_law_807 : decode cL_law 807 = .ok (.iaload, 1) := by decide +kernel
theorem dL_law_808 : decode cL_law 808 = .ok (.aload_n 0, 1) := by decide +kernel
theorem dL_law_809 : decode cL_law 809 = .ok (.iload_n 3, 1) := by decide +kernel
theorem dL_law_810 : decode cL_law 810 = .ok (.iconst 2, 1) := by decide +kernel
theorem dL_law_811 : decode cL_law 811 = .ok (.iadd, 1) := by decide +kernel
theorem dL_law_812 : decode cL_law 812 = .ok (.iaload, 1) := by decide +kernel
theorem dL_law_813 : decode cL_law 813 = .ok (.invokevirtual 118, 3) := by decide +kernel
theorem dL_law_816 : decode cL_law 816 = .ok (.aload_n 2, 1) := by decide +kernel
theorem dL_law_817 : decode cL_law 817 = .ok (.aload_n 0, 1) := by decide +kernel
theorem dL_law_818 : decode cL_law 818 = .ok (.iload_n 3, 1) := by decide +kernel
theorem dL_law_819 : decode cL_law 819 = .ok (.iconst 1, 1) := by decide +kernel
theorem dL_law_820 : decode cL_law 820 = .ok (.iadd, 1) := by decide +kernel
theorem dL_law_821 : decode cL_law 821 = .ok (.iaload, 1) := by decide +kernel
theorem dL_law_822 : decode cL_law 822 = .ok (.aload_n 0, 1) := by decide +kernel
theorem dL_law_823 : decode cL_law 823 = .ok (.iload_n 3, 1) := by decide +kernel
theorem dL_law_824 : decode cL_law 824 = .ok (.iconst 2, 1) := by decide +kernel
theorem dL_law_825 : decode cL_law 825 = .ok (.iadd, 1) := by decide +kernel
theorem dL_law_826 : decode cL_law 826 = .ok (.iaload, 1) := by decide +kernel
theorem dL_law_827 : decode cL_law 827 = .ok (.invokevirtual 121, 3) := by decide +kernel
theorem dL_law_830 : decode cL_law 830 = .ok (.if_icmp .eq 285, 3) := by decide +kernel
theorem dL_law_833 : decode cL_law 833 = .ok (.iconst 0, 1) := by decide +kernel
theorem dL_law_834 : decode cL_law 834 = .ok (.ireturn, 1) := by decide +kernel
theorem dL_law_835 : decode cL_law 835 = .ok (.aload_n 1, 1) := by decide +kernel
theorem dL_law_836 : decode cL_law 836 = .ok (.invokevirtual 122, 3) := by decide +kernel
theorem dL_law_839 : decode cL_law 839 = .ok (.aload_n 2, 1) := by decide +kernel
theorem dL_law_840 : decode cL_law 840 = .ok (.invokevirtual 125, 3) := by decide +kernel
theorem dL_law_843 : decode cL_law 843 = .ok (.if_icmp .eq 272, 3) := by decide +kernel
theorem dL_law_846 : decode cL_law 846 = .ok (.iconst 0, 1) := by decide +kernel
theorem dL_law_847 : decode cL_law 847 = .ok (.ireturn, 1) := by decide +kernel
theorem dL_law_848 : decode cL_law 848 = .ok (.aload_n 1, 1) := by decide +kernel
theorem dL_law_849 : decode cL_law 849 = .ok (.aload_n 0, 1) := by decide +kernel
theorem dL_law_850 : decode cL_law 850 = .ok (.iload_n 3, 1) := by decide +kernel
theorem dL_law_851 : decode cL_law 851 = .ok (.iconst 1, 1) := by decide +kernel
theorem dL_law_852 : decode cL_law 852 = .ok (.iadd, 1) := by decide +kernel
theorem dL_law_853 : decode cL_law 853 = .ok (.iaload, 1) := by decide +kernel
theorem dL_law_854 : decode cL_law 854 = .ok (.invokevirtual 126, 3) := by decide +kernel
theorem dL_law_857 : decode cL_law 857 = .ok (.aload_n 2, 1) := by decide +kernel
theorem dL_law_858 : decode cL_law 858 = .ok (.aload_n 0, 1) := by decide +kernel
theorem dL_law_859 : decode cL_law 859 = .ok (.iload_n 3, 1) := by decide +kernel
theorem dL_law_860 : decode cL_law 860 = .ok (.iconst 1, 1) := by decide +kernel
theorem dL_law_861 : decode cL_law 861 = .ok (.iadd, 1) := by decide +kernel
theorem dL_law_862 : decode cL_law 862 = .ok (.iaload, 1) := by decide +kernel
theorem dL_law_863 : decode cL_law 863 = .ok (.invokevirtual 129, 3) := by decide +kernel
theorem dL_law_866 : decode cL_law 866 = .ok (.if_icmp .eq 249, 3) := by decide +kernel
theorem dL_law_869 : decode cL_law 869 = .ok (.iconst 0, 1) := by decide +kernel
theorem dL_law_870 : decode cL_law 870 = .ok (.ireturn, 1) := by decide +kernel
theorem dL_law_871 : decode cL_law 871 = .ok (.aload_n 1, 1) := by decide +kernel
theorem dL_law_872 : decode cL_law 872 = .ok (.aload_n 0, 1) := by decide +kernel
theorem dL_law_873 : decode cL_law 873 = .ok (.iload_n 3, 1) := by decide +kernel
theorem dL_law_874 : decode cL_law 874 = .ok (.iconst 1, 1) := by decide +kernel
theorem dL_law_875 : decode cL_law 875 = .ok (.iadd, 1) := by decide +kernel
theorem dL_law_876 : decode cL_law 876 = .ok (.iaload, 1) := by decide +kernel
theorem dL_law_877 : decode cL_law 877 = .ok (.aload_n 0, 1) := by decide +kernel
theorem dL_law_878 : decode cL_law 878 = .ok (.iload_n 3, 1) := by decide +kernel
theorem dL_law_879 : decode cL_law 879 = .ok (.iconst 2, 1) := by decide +kernel
theorem dL_law_880 : decode cL_law 880 = .ok (.iadd, 1) := by decide +kernel
theorem dL_law_881 : decode cL_law 881 = .ok (.iaload, 1) := by decide +kernel
theorem dL_law_882 : decode cL_law 882 = .ok (.ifCond .eq 7, 3) := by decide +kernel
theorem dL_law_885 : decode cL_law 885 = .ok (.iconst 1, 1) := by decide +kernel
theorem dL_law_886 : decode cL_law 886 = .ok (.goto 4, 3) := by decide +kernel
theorem dL_law_889 : decode cL_law 889 = .ok (.iconst 0, 1) := by decide +kernel
theorem dL_law_890 : decode cL_law 890 = .ok (.invokevirtual 130, 3) := by decide +kernel
theorem dL_law_893 : decode cL_law 893 = .ok (.aload_n 2, 1) := by decide +kernel
theorem dL_law_894 : decode cL_law 894 = .ok (.aload_n 0, 1) := by decide +kernel
theorem dL_law_895 : decode cL_law 895 = .ok (.iload_n 3, 1) := by decide +kernel
theorem dL_law_896 : decode cL_law 896 = .ok (.iconst 1, 1) := by decide +kernel
theorem dL_law_897 : decode cL_law 897 = .ok (.iadd, 1) := by decide +kernel
theorem dL_law_898 : decode cL_law 898 = .ok (.iaload, 1) := by decide +kernel
theorem dL_law_899 : decode cL_law 899 = .ok (.aload_n 0, 1) := by decide +kernel
theorem dL_law_900 : decode cL_law 900 = .ok (.iload_n 3, 1) := by decide +kernel
theorem dL_law_901 : decode cL_law 901 = .ok (.iconst 2, 1) := by decide +kernel
theorem dL_law_902 : decode cL_law 902 = .ok (.iadd, 1) := by decide +kernel
theorem dL_law_903 : decode cL_law 903 = .ok (.iaload, 1) := by decide +kernel
theorem dL_law_904 : decode cL_law 904 = .ok (.ifCond .eq 7, 3) := by decide +kernel
theorem dL_law_907 : decode cL_law 907 = .ok (.iconst 1, 1) := by decide +kernel
theorem dL_law_908 : decode cL_law 908 = .ok (.goto 4, 3) := by decide +kernel
theorem dL_law_911 : decode cL_law 911 = .ok (.iconst 0, 1) := by decide +kernel
theorem dL_law_912 : decode cL_law 912 = .ok (.invokevirtual 133, 3) := by decide +kernel
theorem dL_law_915 : decode cL_law 915 = .ok (.if_icmp .eq 200, 3) := by decide +kernel
theorem dL_law_918 : decode cL_law 918 = .ok (.iconst 0, 1) := by decide +kernel
theorem dL_law_919 : decode cL_law 919 = .ok (.ireturn, 1) := by decide +kernel
theorem dL_law_920 : decode cL_law 920 = .ok (.aload_n 1, 1) := by decide +kernel
theorem dL_law_921 : decode cL_law 921 = .ok (.aload_n 0, 1) := by decide +kernel
theorem dL_law_922 : decode cL_law 922 = .ok (.iload_n 3, 1) := by decide +kernel
theorem dL_law_923 : decode cL_law 923 = .ok (.iconst 1, 1) := by decide +kernel
theorem dL_law_924 : decode cL_law 924 = .ok (.iadd, 1) := by decide +kernel
theorem dL_law_925 : decode cL_law 925 = .ok (.iaload, 1) := by decide +kernel
theorem dL_law_926 : decode cL_law 926 = .ok (.aload_n 0, 1) := by decide +kernel
theorem dL_law_927 : decode cL_law 927 = .ok (.iload_n 3, 1) := by decide +kernel
theorem dL_law_928 : decode cL_law 928 = .ok (.iconst 2, 1) := by decide +kernel
theorem dL_law_929 : decode cL_law 929 = .ok (.iadd, 1) := by decide +kernel
theorem dL_law_930 : decode cL_law 930 = .ok (.iaload, 1) := by decide +kernel
theorem dL_law_931 : decode cL_law 931 = .ok (.ifCond .eq 7, 3) := by decide +kernel
theorem dL_law_934 : decode cL_law 934 = .ok (.iconst 1, 1) := by decide +kernel
theorem dL_law_935 : decode cL_law 935 = .ok (.goto 4, 3) := by decide +kernel
theorem dL_law_938 : decode cL_law 938 = .ok (.iconst 0, 1) := by decide +kernel
theorem dL_law_939 : decode cL_law 939 = .ok (.invokevirtual 134, 3) := by decide +kernel
theorem dL_law_942 : decode cL_law 942 = .ok (.aload_n 2, 1) := by decide +kernel
theorem dL_law_943 : decode cL_law 943 = .ok (.aload_n 0, 1) := by decide +kernel
theorem dL_law_944 : decode cL_law 944 = .ok (.iload_n 3, 1) := by decide +kernel
theorem dL_law_945 : decode cL_law 945 = .ok (.iconst 1, 1) := by decide +kernel
theorem dL_law_946 : decode cL_law 946 = .ok (.iadd, 1) := by decide +kernel
theorem dL_law_947 : decode cL_law 947 = .ok (.iaload, 1) := by decide +kernel
theorem dL_law_948 : decode cL_law 948 = .ok (.aload_n 0, 1) := by decide +kernel
theorem dL_law_949 : decode cL_law 949 = .ok (.iload_n 3, 1) := by decide +kernel
theorem dL_law_950 : decode cL_law 950 = .ok (.iconst 2, 1) := by decide +kernel
theorem dL_law_951 : decode cL_law 951 = .ok (.iadd, 1) := by decide +kernel
theorem dL_law_952 : decode cL_law 952 = .ok (.iaload, 1) := by decide +kernel
theorem dL_law_953 : decode cL_law 953 = .ok (.ifCond .eq 7, 3) := by decide +kernel
theorem dL_law_956 : decode cL_law 956 = .ok (.iconst 1, 1) := by decide +kernel
theorem dL_law_957 : decode cL_law 957 = .ok (.goto 4, 3) := by decide +kernel
theorem dL_law_960 : decode cL_law 960 = .ok (.iconst 0, 1) := by decide +kernel
theorem dL_law_961 : decode cL_law 961 = .ok (.invokevirtual 137, 3) := by decide +kernel
theorem dL_law_964 : decode cL_law 964 = .ok (.if_icmp .eq 151, 3) := by decide +kernel
theorem dL_law_967 : decode cL_law 967 = .ok (.iconst 0, 1) := by decide +kernel
theorem dL_law_968 : decode cL_law 968 = .ok (.ireturn, 1) := by decide +kernel
theorem dL_law_969 : decode cL_law 969 = .ok (.aload_n 1, 1) := by decide +kernel
theorem dL_law_970 : decode cL_law 970 = .ok (.aload_n 0, 1) := by decide +kernel
theorem dL_law_971 : decode cL_law 971 = .ok (.iload_n 3, 1) := by decide +kernel
theorem dL_law_972 : decode cL_law 972 = .ok (.iconst 1, 1) := by decide +kernel
theorem dL_law_973 : decode cL_law 973 = .ok (.iadd, 1) := by decide +kernel
theorem dL_law_974 : decode cL_law 974 = .ok (.iaload, 1) := by decide +kernel
theorem dL_law_975 : decode cL_law 975 = .ok (.i2l, 1) := by decide +kernel
theorem dL_law_976 : decode cL_law 976 = .ok (.bipush 32, 2) := by decide +kernel
theorem dL_law_978 : decode cL_law 978 = .ok (.lshl, 1) := by decide +kernel
theorem dL_law_979 : decode cL_law 979 = .ok (.aload_n 0, 1) := by decide +kernel
theorem dL_law_980 : decode cL_law 980 = .ok (.iload_n 3, 1) := by decide +kernel
theorem dL_law_981 : decode cL_law 981 = .ok (.iconst 2, 1) := by decide +kernel
theorem dL_law_982 : decode cL_law 982 = .ok (.iadd, 1) := by decide +kernel
theorem dL_law_983 : decode cL_law 983 = .ok (.iaload, 1) := by decide +kernel
theorem dL_law_984 : decode cL_law 984 = .ok (.i2l, 1) := by decide +kernel
theorem dL_law_985 : decode cL_law 985 = .ok (.ldc2_w 111, 3) := by decide +kernel
theorem dL_law_988 : decode cL_law 988 = .ok (.land, 1) := by decide +kernel
theorem dL_law_989 : decode cL_law 989 = .ok (.lor, 1) := by decide +kernel
theorem dL_law_990 : decode cL_law 990 = .ok (.invokevirtual 138, 3) := by decide +kernel
theorem dL_law_993 : decode cL_law 993 = .ok (.aload_n 2, 1) := by decide +kernel
theorem dL_law_994 : decode cL_law 994 = .ok (.aload_n 0, 1) := by decide +kernel
theorem dL_law_995 : decode cL_law 995 = .ok (.iload_n 3, 1) := by decide +kernel
theorem dL_law_996 : decode cL_law 996 = .ok (.iconst 1, 1) := by decide +kernel
theorem dL_law_997 : decode cL_law 997 = .ok (.iadd, 1) := by decide +kernel
theorem dL_law_998 : decode cL_law 998 = .ok (.iaload, 1) := by decide +kernel
theorem dL_law_999 : decode cL_law 999 = .ok (.i2l, 1) := by decide +kernel
theorem dL_law_1000 : decode cL_law 1000 = .ok (.bipush 32, 2) := by decide +kernel
theorem dL_law_1002 : decode cL_law 1002 = .ok (.lshl, 1) := by decide +kernel
theorem dL_law_1003 : decode cL_law 1003 = .ok (.aload_n 0, 1) := by decide +kernel
theorem dL_law_1004 : decode cL_law 1004 = .ok (.iload_n 3, 1) := by decide +kernel
theorem dL_law_1005 : decode cL_law 1005 = .ok (.iconst 2, 1) := by decide +kernel
theorem dL_law_1006 : decode cL_law 1006 = .ok (.iadd, 1) := by decide +kernel
theorem dL_law_1007 : decode cL_law 1007 = .ok (.iaload, 1) := by decide +kernel
theorem dL_law_1008 : decode cL_law 1008 = .ok (.i2l, 1) := by decide +kernel
theorem dL_law_1009 : decode cL_law 1009 = .ok (.ldc2_w 111, 3) := by decide +kernel
theorem dL_law_1012 : decode cL_law 1012 = .ok (.land, 1) := by decide +kernel
theorem dL_law_1013 : decode cL_law 1013 = .ok (.lor, 1) := by decide +kernel
theorem dL_law_1014 : decode cL_law 1014 = .ok (.invokevirtual 142, 3) := by decide +kernel
theorem dL_law_1017 : decode cL_law 1017 = .ok (.lcmp, 1) := by decide +kernel
theorem dL_law_1018 : decode cL_law 1018 = .ok (.ifCond .eq 97, 3) := by decide +kernel
theorem dL_law_1021 : decode cL_law 1021 = .ok (.iconst 0, 1) := by decide +kernel
theorem dL_law_1022 : decode cL_law 1022 = .ok (.ireturn, 1) := by decide +kernel
theorem dL_law_1023 : decode cL_law 1023 = .ok (.aload_n 1, 1) := by decide +kernel
theorem dL_law_1024 : decode cL_law 1024 = .ok (.aload_n 0, 1) := by decide +kernel
theorem dL_law_1025 : decode cL_law 1025 = .ok (.iload_n 3, 1) := by decide +kernel
theorem dL_law_1026 : decode cL_law 1026 = .ok (.iconst 1, 1) := by decide +kernel
theorem dL_law_1027 : decode cL_law 1027 = .ok (.iadd, 1) := by decide +kernel
theorem dL_law_1028 : decode cL_law 1028 = .ok (.iaload, 1) := by decide +kernel
theorem dL_law_1029 : decode cL_law 1029 = .ok (.invokevirtual 143, 3) := by decide +kernel
theorem dL_law_1032 : decode cL_law 1032 = .ok (.aload_n 2, 1) := by decide +kernel
theorem dL_law_1033 : decode cL_law 1033 = .ok (.aload_n 0, 1) := by decide +kernel
theorem dL_law_1034 : decode cL_law 1034 = .ok (.iload_n 3, 1) := by decide +kernel
theorem dL_law_1035 : decode cL_law 1035 = .ok (.iconst 1, 1) := by decide +kernel
theorem dL_law_1036 : decode cL_law 1036 = .ok (.iadd, 1) := by decide +kernel
theorem dL_law_1037 : decode cL_law 1037 = .ok (.iaload, 1) := by decide +kernel
theorem dL_law_1038 : decode cL_law 1038 = .ok (.invokevirtual 146, 3) := by decide +kernel
theorem dL_law_1041 : decode cL_law 1041 = .ok (.if_icmp .eq 74, 3) := by decide +kernel
theorem dL_law_1044 : decode cL_law 1044 = .ok (.iconst 0, 1) := by decide +kernel
theorem dL_law_1045 : decode cL_law 1045 = .ok (.ireturn, 1) := by decide +kernel
theorem dL_law_1046 : decode cL_law 1046 = .ok (.aload_n 1, 1) := by decide +kernel
theorem dL_law_1047 : decode cL_law 1047 = .ok (.aload_n 0, 1) := by decide +kernel
theorem dL_law_1048 : decode cL_law 1048 = .ok (.iload_n 3, 1) := by decide +kernel
theorem dL_law_1049 : decode cL_law 1049 = .ok (.iconst 1, 1) := by decide +kernel
theorem dL_law_1050 : decode cL_law 1050 = .ok (.iadd, 1) := by decide +kernel
theorem dL_law_1051 : decode cL_law 1051 = .ok (.iaload, 1) := by decide +kernel
theorem dL_law_1052 : decode cL_law 1052 = .ok (.invokevirtual 147, 3) := by decide +kernel
theorem dL_law_1055 : decode cL_law 1055 = .ok (.aload_n 2, 1) := by decide +kernel
theorem dL_law_1056 : decode cL_law 1056 = .ok (.aload_n 0, 1) := by decide +kernel
theorem dL_law_1057 : decode cL_law 1057 = .ok (.iload_n 3, 1) := by decide +kernel
theorem dL_law_1058 : decode cL_law 1058 = .ok (.iconst 1, 1) := by decide +kernel
theorem dL_law_1059 : decode cL_law 1059 = .ok (.iadd, 1) := by decide +kernel
theorem dL_law_1060 : decode cL_law 1060 = .ok (.iaload, 1) := by decide +kernel
theorem dL_law_1061 : decode cL_law 1061 = .ok (.invokevirtual 150, 3) := by decide +kernel
theorem dL_law_1064 : decode cL_law 1064 = .ok (.if_icmp .eq 51, 3) := by decide +kernel
theorem dL_law_1067 : decode cL_law 1067 = .ok (.iconst 0, 1) := by decide +kernel
theorem dL_law_1068 : decode cL_law 1068 = .ok (.ireturn, 1) := by decide +kernel
theorem dL_law_1069 : decode cL_law 1069 = .ok (.aload_n 1, 1) := by decide +kernel
theorem dL_law_1070 : decode cL_law 1070 = .ok (.aload_n 0, 1) := by decide +kernel
theorem dL_law_1071 : decode cL_law 1071 = .ok (.iload_n 3, 1) := by decide +kernel
theorem dL_law_1072 : decode cL_law 1072 = .ok (.iconst 1, 1) := by decide +kernel
theorem dL_law_1073 : decode cL_law 1073 = .ok (.iadd, 1) := by decide +kernel
theorem dL_law_1074 : decode cL_law 1074 = .ok (.iaload, 1) := by decide +kernel
theorem dL_law_1075 : decode cL_law 1075 = .ok (.invokevirtual 151, 3) := by decide +kernel
theorem dL_law_1078 : decode cL_law 1078 = .ok (.aload_n 2, 1) := by decide +kernel
theorem dL_law_1079 : decode cL_law 1079 = .ok (.aload_n 0, 1) := by decide +kernel
theorem dL_law_1080 : decode cL_law 1080 = .ok (.iload_n 3, 1) := by decide +kernel
theorem dL_law_1081 : decode cL_law 1081 = .ok (.iconst 1, 1) := by decide +kernel
theorem dL_law_1082 : decode cL_law 1082 = .ok (.iadd, 1) := by decide +kernel
theorem dL_law_1083 : decode cL_law 1083 = .ok (.iaload, 1) := by decide +kernel
theorem dL_law_1084 : decode cL_law 1084 = .ok (.invokevirtual 154, 3) := by decide +kernel
theorem dL_law_1087 : decode cL_law 1087 = .ok (.if_icmp .eq 28, 3) := by decide +kernel
theorem dL_law_1090 : decode cL_law 1090 = .ok (.iconst 0, 1) := by decide +kernel
theorem dL_law_1091 : decode cL_law 1091 = .ok (.ireturn, 1) := by decide +kernel
theorem dL_law_1092 : decode cL_law 1092 = .ok (.aload_n 1, 1) := by decide +kernel
theorem dL_law_1093 : decode cL_law 1093 = .ok (.aload_n 0, 1) := by decide +kernel
theorem dL_law_1094 : decode cL_law 1094 = .ok (.iload_n 3, 1) := by decide +kernel
theorem dL_law_1095 : decode cL_law 1095 = .ok (.iconst 1, 1) := by decide +kernel
theorem dL_law_1096 : decode cL_law 1096 = .ok (.iadd, 1) := by decide +kernel
theorem dL_law_1097 : decode cL_law 1097 = .ok (.iaload, 1) := by decide +kernel
theorem dL_law_1098 : decode cL_law 1098 = .ok (.invokevirtual 155, 3) := by decide +kernel
theorem dL_law_1101 : decode cL_law 1101 = .ok (.aload_n 2, 1) := by decide +kernel
theorem dL_law_1102 : decode cL_law 1102 = .ok (.aload_n 0, 1) := by decide +kernel
theorem dL_law_1103 : decode cL_law 1103 = .ok (.iload_n 3, 1) := by decide +kernel
theorem dL_law_1104 : decode cL_law 1104 = .ok (.iconst 1, 1) := by decide +kernel
theorem dL_law_1105 : decode cL_law 1105 = .ok (.iadd, 1) := by decide +kernel
theorem dL_law_1106 : decode cL_law 1106 = .ok (.iaload, 1) := by decide +kernel
theorem dL_law_1107 : decode cL_law 1107 = .ok (.invokevirtual 158, 3) := by decide +kernel
theorem dL_law_1110 : decode cL_law 1110 = .ok (.if_icmp .eq 5, 3) := by decide +kernel
theorem dL_law_1113 : decode cL_law 1113 = .ok (.iconst 0, 1) := by decide +kernel
theorem dL_law_1114 : decode cL_law 1114 = .ok (.ireturn, 1) := by decide +kernel
theorem dL_law_1115 : decode cL_law 1115 = .ok (.iinc 3 5, 3) := by decide +kernel
theorem dL_law_1118 : decode cL_law 1118 = .ok (.goto (-1100), 3) := by decide +kernel
theorem dL_law_1121 : decode cL_law 1121 = .ok (.iconst 1, 1) := by decide +kernel
theorem dL_law_1122 : decode cL_law 1122 = .ok (.ireturn, 1) := by decide +kernel
theorem lk_L_13 : Cond.methodLink R_law 13 yX8_write ∈ mTb := mt (i := 330) (by decide +kernel) rfl
theorem ok_X8_write : mOk mX8_write 1 := ⟨by decide +kernel, by decide, mt (i := 333) (by decide +kernel) rfl, mt (i := 1) (by decide +kernel) rfl⟩
theorem im_X8_write : Cond.instanceMethod yX8_write ∈ mTb := mt (i := 331) (by decide +kernel) rfl
theorem se_X8_write : Cond.selects RX8 yX8_write yX8_write ∈ mTb := mt (i := 332) (by decide +kernel) rfl
theorem lk_L_17 : Cond.methodLink R_law 17 yX9_write ∈ mTb := mt (i := 881) (by decide +kernel) rfl
theorem ok_X9_write : mOk mX9_write 1 := ⟨by decide +kernel, by decide, mt (i := 884) (by decide +kernel) rfl, mt (i := 10) (by decide +kernel) rfl⟩
theorem im_X9_write : Cond.instanceMethod yX9_write ∈ mTb := mt (i := 882) (by decide +kernel) rfl
theorem se_X9_write : Cond.selects RX9 yX9_write yX9_write ∈ mTb := mt (i := 883) (by decide +kernel) rfl
theorem lk_L_18 : Cond.methodLink R_law 18 yX8_wipe ∈ mTb := mt (i := 338) (by decide +kernel) rfl
theorem ok_X8_wipe : mOk mX8_wipe 0 := ⟨by decide +kernel, by decide, mt (i := 341) (by decide +kernel) rfl, mt (i := 1) (by decide +kernel) rfl⟩
theorem im_X8_wipe : Cond.instanceMethod yX8_wipe ∈ mTb := mt (i := 339) (by decide +kernel) rfl
theorem se_X8_wipe : Cond.selects RX8 yX8_wipe yX8_wipe ∈ mTb := mt (i := 340) (by decide +kernel) rfl
theorem lk_L_22 : Cond.methodLink R_law 22 yX9_wipe ∈ mTb := mt (i := 889) (by decide +kernel) rfl
theorem ok_X9_wipe : mOk mX9_wipe 0 := ⟨by decide +kernel, by decide, mt (i := 892) (by decide +kernel) rfl, mt (i := 10) (by decide +kernel) rfl⟩
theorem im_X9_wipe : Cond.instanceMethod yX9_wipe ∈ mTb := mt (i := 890) (by decide +kernel) rfl
theorem se_X9_wipe : Cond.selects RX9 yX9_wipe yX9_wipe ∈ mTb := mt (i := 891) (by decide +kernel) rfl
theorem lk_L_23 : Cond.methodLink R_law 23 yX8_fault ∈ mTb := mt (i := 342) (by decide +kernel) rfl
theorem ok_X8_fault : mOk mX8_fault 0 := ⟨by decide +kernel, by decide, mt (i := 345) (by decide +kernel) rfl, mt (i := 1) (by decide +kernel) rfl⟩
theorem im_X8_fault : Cond.instanceMethod yX8_fault ∈ mTb := mt (i := 343) (by decide +kernel) rfl
theorem se_X8_fault : Cond.selects RX8 yX8_fault yX8_fault ∈ mTb := mt (i := 344) (by decide +kernel) rfl
theorem lk_L_26 : Cond.methodLink R_law 26 yX9_fault ∈ mTb := mt (i := 893) (by decide +kernel) rfl
theorem ok_X9_fault : mOk mX9_fault 0 := ⟨by decide +kernel, by decide, mt (i := 896) (by decide +kernel) rfl, mt (i := 10) (by decide +kernel) rfl⟩
theorem im_X9_fault : Cond.instanceMethod yX9_fault ∈ mTb := mt (i := 894) (by decide +kernel) rfl
theorem se_X9_fault : Cond.selects RX9 yX9_fault yX9_fault ∈ mTb := mt (i := 895) (by decide +kernel) rfl
theorem lk_L_27 : Cond.methodLink R_law 27 yX8_sheet ∈ mTb := mt (i := 401) (by decide +kernel) rfl
theorem ok_X8_sheet : mOk mX8_sheet 0 := ⟨by decide +kernel, by decide, mt (i := 404) (by decide +kernel) rfl, mt (i := 1) (by decide +kernel) rfl⟩
theorem im_X8_sheet : Cond.instanceMethod yX8_sheet ∈ mTb := mt (i := 402) (by decide +kernel) rfl
theorem se_X8_sheet : Cond.selects RX8 yX8_sheet yX8_sheet ∈ mTb := mt (i := 403) (by decide +kernel) rfl
theorem lk_L_30 : Cond.methodLink R_law 30 yX9_sheet ∈ mTb := mt (i := 918) (by decide +kernel) rfl
theorem ok_X9_sheet : mOk mX9_sheet 0 := ⟨by decide +kernel, by decide, mt (i := 921) (by decide +kernel) rfl, mt (i := 10) (by decide +kernel) rfl⟩
theorem im_X9_sheet : Cond.instanceMethod yX9_sheet ∈ mTb := mt (i := 919) (by decide +kernel) rfl
theorem se_X9_sheet : Cond.selects RX9 yX9_sheet yX9_sheet ∈ mTb := mt (i := 920) (by decide +kernel) rfl
theorem lk_L_31 : Cond.methodLink R_law 31 yX8_total ∈ mTb := mt (i := 412) (by decide +kernel) rfl
theorem ok_X8_total : mOk mX8_total 2 := ⟨by decide +kernel, by decide, mt (i := 415) (by decide +kernel) rfl, mt (i := 1) (by decide +kernel) rfl⟩
theorem im_X8_total : Cond.instanceMethod yX8_total ∈ mTb := mt (i := 413) (by decide +kernel) rfl
theorem se_X8_total : Cond.selects RX8 yX8_total yX8_total ∈ mTb := mt (i := 414) (by decide +kernel) rfl
theorem lk_L_35 : Cond.methodLink R_law 35 yX9_total ∈ mTb := mt (i := 953) (by decide +kernel) rfl
theorem ok_X9_total : mOk mX9_total 2 := ⟨by decide +kernel, by decide, mt (i := 956) (by decide +kernel) rfl, mt (i := 10) (by decide +kernel) rfl⟩
theorem im_X9_total : Cond.instanceMethod yX9_total ∈ mTb := mt (i := 954) (by decide +kernel) rfl
theorem se_X9_total : Cond.selects RX9 yX9_total yX9_total ∈ mTb := mt (i := 955) (by decide +kernel) rfl
theorem lk_L_36 : Cond.methodLink R_law 36 yX8_pin ∈ mTb := mt (i := 421) (by decide +kernel) rfl
theorem ok_X8_pin : mOk mX8_pin 1 := ⟨by decide +kernel, by decide, mt (i := 424) (by decide +kernel) rfl, mt (i := 1) (by decide +kernel) rfl⟩
theorem im_X8_pin : Cond.instanceMethod yX8_pin ∈ mTb := mt (i := 422) (by decide +kernel) rfl
theorem se_X8_pin : Cond.selects RX8 yX8_pin yX8_pin ∈ mTb := mt (i := 423) (by decide +kernel) rfl
theorem lk_L_39 : Cond.methodLink R_law 39 yX9_pin ∈ mTb := mt (i := 964) (by decide +kernel) rfl
theorem ok_X9_pin : mOk mX9_pin 1 := ⟨by decide +kernel, by decide, mt (i := 967) (by decide +kernel) rfl, mt (i := 10) (by decide +kernel) rfl⟩
theorem im_X9_pin : Cond.instanceMethod yX9_pin ∈ mTb := mt (i := 965) (by decide +kernel) rfl
theorem se_X9_pin : Cond.selects RX9 yX9_pin yX9_pin ∈ mTb := mt (i := 966) (by decide +kernel) rfl
theorem lk_L_40 : Cond.methodLink R_law 40 yX8_test ∈ mTb := mt (i := 434) (by decide +kernel) rfl
theorem ok_X8_test : mOk mX8_test 0 := ⟨by decide +kernel, by decide, mt (i := 437) (by decide +kernel) rfl, mt (i := 1) (by decide +kernel) rfl⟩
theorem im_X8_test : Cond.instanceMethod yX8_test ∈ mTb := mt (i := 435) (by decide +kernel) rfl
theorem se_X8_test : Cond.selects RX8 yX8_test yX8_test ∈ mTb := mt (i := 436) (by decide +kernel) rfl
theorem lk_L_43 : Cond.methodLink R_law 43 yX9_test ∈ mTb := mt (i := 972) (by decide +kernel) rfl
theorem ok_X9_test : mOk mX9_test 0 := ⟨by decide +kernel, by decide, mt (i := 975) (by decide +kernel) rfl, mt (i := 10) (by decide +kernel) rfl⟩
theorem im_X9_test : Cond.instanceMethod yX9_test ∈ mTb := mt (i := 973) (by decide +kernel) rfl
theorem se_X9_test : Cond.selects RX9 yX9_test yX9_test ∈ mTb := mt (i := 974) (by decide +kernel) rfl
theorem lk_L_44 : Cond.methodLink R_law 44 yX8_filled ∈ mTb := mt (i := 457) (by decide +kernel) rfl
theorem ok_X8_filled : mOk mX8_filled 1 := ⟨by decide +kernel, by decide, mt (i := 460) (by decide +kernel) rfl, mt (i := 1) (by decide +kernel) rfl⟩
theorem im_X8_filled : Cond.instanceMethod yX8_filled ∈ mTb := mt (i := 458) (by decide +kernel) rfl
theorem se_X8_filled : Cond.selects RX8 yX8_filled yX8_filled ∈ mTb := mt (i := 459) (by decide +kernel) rfl
theorem lk_L_47 : Cond.methodLink R_law 47 yX9_filled ∈ mTb := mt (i := 985) (by decide +kernel) rfl
theorem ok_X9_filled : mOk mX9_filled 1 := ⟨by decide +kernel, by decide, mt (i := 988) (by decide +kernel) rfl, mt (i := 10) (by decide +kernel) rfl⟩
theorem im_X9_filled : Cond.instanceMethod yX9_filled ∈ mTb := mt (i := 986) (by decide +kernel) rfl
theorem se_X9_filled : Cond.selects RX9 yX9_filled yX9_filled ∈ mTb := mt (i := 987) (by decide +kernel) rfl
theorem lk_L_48 : Cond.methodLink R_law 48 yX8_mended ∈ mTb := mt (i := 475) (by decide +kernel) rfl
theorem ok_X8_mended : mOk mX8_mended 1 := ⟨by decide +kernel, by decide, mt (i := 478) (by decide +kernel) rfl, mt (i := 1) (by decide +kernel) rfl⟩
theorem im_X8_mended : Cond.instanceMethod yX8_mended ∈ mTb := mt (i := 476) (by decide +kernel) rfl
theorem se_X8_mended : Cond.selects RX8 yX8_mended yX8_mended ∈ mTb := mt (i := 477) (by decide +kernel) rfl
theorem lk_L_51 : Cond.methodLink R_law 51 yX9_mended ∈ mTb := mt (i := 1001) (by decide +kernel) rfl
theorem ok_X9_mended : mOk mX9_mended 1 := ⟨by decide +kernel, by decide, mt (i := 1004) (by decide +kernel) rfl, mt (i := 10) (by decide +kernel) rfl⟩
theorem im_X9_mended : Cond.instanceMethod yX9_mended ∈ mTb := mt (i := 1002) (by decide +kernel) rfl
theorem se_X9_mended : Cond.selects RX9 yX9_mended yX9_mended ∈ mTb := mt (i := 1003) (by decide +kernel) rfl
theorem lk_L_52 : Cond.methodLink R_law 52 yX8_answers ∈ mTb := mt (i := 482) (by decide +kernel) rfl
theorem ok_X8_answers : mOk mX8_answers 0 := ⟨by decide +kernel, by decide, mt (i := 485) (by decide +kernel) rfl, mt (i := 1) (by decide +kernel) rfl⟩
theorem im_X8_answers : Cond.instanceMethod yX8_answers ∈ mTb := mt (i := 483) (by decide +kernel) rfl
theorem se_X8_answers : Cond.selects RX8 yX8_answers yX8_answers ∈ mTb := mt (i := 484) (by decide +kernel) rfl
theorem lk_L_55 : Cond.methodLink R_law 55 yX9_answers ∈ mTb := mt (i := 1005) (by decide +kernel) rfl
theorem ok_X9_answers : mOk mX9_answers 0 := ⟨by decide +kernel, by decide, mt (i := 1008) (by decide +kernel) rfl, mt (i := 10) (by decide +kernel) rfl⟩
theorem im_X9_answers : Cond.instanceMethod yX9_answers ∈ mTb := mt (i := 1006) (by decide +kernel) rfl
theorem se_X9_answers : Cond.selects RX9 yX9_answers yX9_answers ∈ mTb := mt (i := 1007) (by decide +kernel) rfl
theorem lk_L_56 : Cond.methodLink R_law 56 yX8_cell ∈ mTb := mt (i := 486) (by decide +kernel) rfl
theorem ok_X8_cell : mOk mX8_cell 2 := ⟨by decide +kernel, by decide, mt (i := 489) (by decide +kernel) rfl, mt (i := 1) (by decide +kernel) rfl⟩
theorem im_X8_cell : Cond.instanceMethod yX8_cell ∈ mTb := mt (i := 487) (by decide +kernel) rfl
theorem se_X8_cell : Cond.selects RX8 yX8_cell yX8_cell ∈ mTb := mt (i := 488) (by decide +kernel) rfl
theorem lk_L_59 : Cond.methodLink R_law 59 yX9_cell ∈ mTb := mt (i := 1009) (by decide +kernel) rfl
theorem ok_X9_cell : mOk mX9_cell 2 := ⟨by decide +kernel, by decide, mt (i := 1012) (by decide +kernel) rfl, mt (i := 10) (by decide +kernel) rfl⟩
theorem im_X9_cell : Cond.instanceMethod yX9_cell ∈ mTb := mt (i := 1010) (by decide +kernel) rfl
theorem se_X9_cell : Cond.selects RX9 yX9_cell yX9_cell ∈ mTb := mt (i := 1011) (by decide +kernel) rfl
theorem lk_L_60 : Cond.methodLink R_law 60 yX8_odds ∈ mTb := mt (i := 509) (by decide +kernel) rfl
theorem ok_X8_odds : mOk mX8_odds 2 := ⟨by decide +kernel, by decide, mt (i := 512) (by decide +kernel) rfl, mt (i := 1) (by decide +kernel) rfl⟩
theorem im_X8_odds : Cond.instanceMethod yX8_odds ∈ mTb := mt (i := 510) (by decide +kernel) rfl
theorem se_X8_odds : Cond.selects RX8 yX8_odds yX8_odds ∈ mTb := mt (i := 511) (by decide +kernel) rfl
theorem lk_L_64 : Cond.methodLink R_law 64 yX9_odds ∈ mTb := mt (i := 1025) (by decide +kernel) rfl
theorem ok_X9_odds : mOk mX9_odds 2 := ⟨by decide +kernel, by decide, mt (i := 1028) (by decide +kernel) rfl, mt (i := 10) (by decide +kernel) rfl⟩
theorem im_X9_odds : Cond.instanceMethod yX9_odds ∈ mTb := mt (i := 1026) (by decide +kernel) rfl
theorem se_X9_odds : Cond.selects RX9 yX9_odds yX9_odds ∈ mTb := mt (i := 1027) (by decide +kernel) rfl
theorem lk_L_65 : Cond.methodLink R_law 65 yX8_ask ∈ mTb := mt (i := 522) (by decide +kernel) rfl
theorem ok_X8_ask : mOk mX8_ask 1 := ⟨by decide +kernel, by decide, mt (i := 525) (by decide +kernel) rfl, mt (i := 1) (by decide +kernel) rfl⟩
theorem im_X8_ask : Cond.instanceMethod yX8_ask ∈ mTb := mt (i := 523) (by decide +kernel) rfl
theorem se_X8_ask : Cond.selects RX8 yX8_ask yX8_ask ∈ mTb := mt (i := 524) (by decide +kernel) rfl
theorem lk_L_68 : Cond.methodLink R_law 68 yX9_ask ∈ mTb := mt (i := 1035) (by decide +kernel) rfl
theorem ok_X9_ask : mOk mX9_ask 1 := ⟨by decide +kernel, by decide, mt (i := 1038) (by decide +kernel) rfl, mt (i := 10) (by decide +kernel) rfl⟩
theorem im_X9_ask : Cond.instanceMethod yX9_ask ∈ mTb := mt (i := 1036) (by decide +kernel) rfl
theorem se_X9_ask : Cond.selects RX9 yX9_ask yX9_ask ∈ mTb := mt (i := 1037) (by decide +kernel) rfl
theorem lk_L_69 : Cond.methodLink R_law 69 yX8_plane ∈ mTb := mt (i := 527) (by decide +kernel) rfl
theorem ok_X8_plane : mOk mX8_plane 0 := ⟨by decide +kernel, by decide, mt (i := 530) (by decide +kernel) rfl, mt (i := 1) (by decide +kernel) rfl⟩
theorem im_X8_plane : Cond.instanceMethod yX8_plane ∈ mTb := mt (i := 528) (by decide +kernel) rfl
theorem se_X8_plane : Cond.selects RX8 yX8_plane yX8_plane ∈ mTb := mt (i := 529) (by decide +kernel) rfl
theorem lk_L_72 : Cond.methodLink R_law 72 yX9_plane ∈ mTb := mt (i := 1039) (by decide +kernel) rfl
theorem ok_X9_plane : mOk mX9_plane 0 := ⟨by decide +kernel, by decide, mt (i := 1042) (by decide +kernel) rfl, mt (i := 10) (by decide +kernel) rfl⟩
theorem im_X9_plane : Cond.instanceMethod yX9_plane ∈ mTb := mt (i := 1040) (by decide +kernel) rfl
theorem se_X9_plane : Cond.selects RX9 yX9_plane yX9_plane ∈ mTb := mt (i := 1041) (by decide +kernel) rfl
theorem lk_L_73 : Cond.methodLink R_law 73 yX8_go ∈ mTb := mt (i := 532) (by decide +kernel) rfl
theorem ok_X8_go : mOk mX8_go 1 := ⟨by decide +kernel, by decide, mt (i := 535) (by decide +kernel) rfl, mt (i := 1) (by decide +kernel) rfl⟩
theorem im_X8_go : Cond.instanceMethod yX8_go ∈ mTb := mt (i := 533) (by decide +kernel) rfl
theorem se_X8_go : Cond.selects RX8 yX8_go yX8_go ∈ mTb := mt (i := 534) (by decide +kernel) rfl
theorem lk_L_76 : Cond.methodLink R_law 76 yX9_go ∈ mTb := mt (i := 1043) (by decide +kernel) rfl
theorem ok_X9_go : mOk mX9_go 1 := ⟨by decide +kernel, by decide, mt (i := 1046) (by decide +kernel) rfl, mt (i := 10) (by decide +kernel) rfl⟩
theorem im_X9_go : Cond.instanceMethod yX9_go ∈ mTb := mt (i := 1044) (by decide +kernel) rfl
theorem se_X9_go : Cond.selects RX9 yX9_go yX9_go ∈ mTb := mt (i := 1045) (by decide +kernel) rfl
theorem lk_L_77 : Cond.methodLink R_law 77 yX8_swap ∈ mTb := mt (i := 543) (by decide +kernel) rfl
theorem ok_X8_swap : mOk mX8_swap 4 := ⟨by decide +kernel, by decide, mt (i := 546) (by decide +kernel) rfl, mt (i := 1) (by decide +kernel) rfl⟩
theorem im_X8_swap : Cond.instanceMethod yX8_swap ∈ mTb := mt (i := 544) (by decide +kernel) rfl
theorem se_X8_swap : Cond.selects RX8 yX8_swap yX8_swap ∈ mTb := mt (i := 545) (by decide +kernel) rfl
theorem lk_L_81 : Cond.methodLink R_law 81 yX9_swap ∈ mTb := mt (i := 1051) (by decide +kernel) rfl
theorem ok_X9_swap : mOk mX9_swap 4 := ⟨by decide +kernel, by decide, mt (i := 1054) (by decide +kernel) rfl, mt (i := 10) (by decide +kernel) rfl⟩
theorem im_X9_swap : Cond.instanceMethod yX9_swap ∈ mTb := mt (i := 1052) (by decide +kernel) rfl
theorem se_X9_swap : Cond.selects RX9 yX9_swap yX9_swap ∈ mTb := mt (i := 1053) (by decide +kernel) rfl
theorem lk_L_82 : Cond.methodLink R_law 82 yX8_setTotal ∈ mTb := mt (i := 579) (by decide +kernel) rfl
theorem ok_X8_setTotal : mOk mX8_setTotal 3 := ⟨by decide +kernel, by decide, mt (i := 582) (by decide +kernel) rfl, mt (i := 1) (by decide +kernel) rfl⟩
theorem im_X8_setTotal : Cond.instanceMethod yX8_setTotal ∈ mTb := mt (i := 580) (by decide +kernel) rfl
theorem se_X8_setTotal : Cond.selects RX8 yX8_setTotal yX8_setTotal ∈ mTb := mt (i := 581) (by decide +kernel) rfl
theorem lk_L_86 : Cond.methodLink R_law 86 yX9_setTotal ∈ mTb := mt (i := 1065) (by decide +kernel) rfl
theorem ok_X9_setTotal : mOk mX9_setTotal 3 := ⟨by decide +kernel, by decide, mt (i := 1068) (by decide +kernel) rfl, mt (i := 10) (by decide +kernel) rfl⟩
theorem im_X9_setTotal : Cond.instanceMethod yX9_setTotal ∈ mTb := mt (i := 1066) (by decide +kernel) rfl
theorem se_X9_setTotal : Cond.selects RX9 yX9_setTotal yX9_setTotal ∈ mTb := mt (i := 1067) (by decide +kernel) rfl
theorem lk_L_87 : Cond.methodLink R_law 87 yX8_setPin ∈ mTb := mt (i := 589) (by decide +kernel) rfl
theorem ok_X8_setPin : mOk mX8_setPin 2 := ⟨by decide +kernel, by decide, mt (i := 592) (by decide +kernel) rfl, mt (i := 1) (by decide +kernel) rfl⟩
theorem im_X8_setPin : Cond.instanceMethod yX8_setPin ∈ mTb := mt (i := 590) (by decide +kernel) rfl
theorem se_X8_setPin : Cond.selects RX8 yX8_setPin yX8_setPin ∈ mTb := mt (i := 591) (by decide +kernel) rfl
theorem lk_L_90 : Cond.methodLink R_law 90 yX9_setPin ∈ mTb := mt (i := 1069) (by decide +kernel) rfl
theorem ok_X9_setPin : mOk mX9_setPin 2 := ⟨by decide +kernel, by decide, mt (i := 1072) (by decide +kernel) rfl, mt (i := 10) (by decide +kernel) rfl⟩
theorem im_X9_setPin : Cond.instanceMethod yX9_setPin ∈ mTb := mt (i := 1070) (by decide +kernel) rfl
theorem se_X9_setPin : Cond.selects RX9 yX9_setPin yX9_setPin ∈ mTb := mt (i := 1071) (by decide +kernel) rfl
theorem lk_L_91 : Cond.methodLink R_law 91 yX8_undo ∈ mTb := mt (i := 601) (by decide +kernel) rfl
theorem ok_X8_undo : mOk mX8_undo 0 := ⟨by decide +kernel, by decide, mt (i := 604) (by decide +kernel) rfl, mt (i := 1) (by decide +kernel) rfl⟩
theorem im_X8_undo : Cond.instanceMethod yX8_undo ∈ mTb := mt (i := 602) (by decide +kernel) rfl
theorem se_X8_undo : Cond.selects RX8 yX8_undo yX8_undo ∈ mTb := mt (i := 603) (by decide +kernel) rfl
theorem lk_L_94 : Cond.methodLink R_law 94 yX9_undo ∈ mTb := mt (i := 1076) (by decide +kernel) rfl
theorem ok_X9_undo : mOk mX9_undo 0 := ⟨by decide +kernel, by decide, mt (i := 1079) (by decide +kernel) rfl, mt (i := 10) (by decide +kernel) rfl⟩
theorem im_X9_undo : Cond.instanceMethod yX9_undo ∈ mTb := mt (i := 1077) (by decide +kernel) rfl
theorem se_X9_undo : Cond.selects RX9 yX9_undo yX9_undo ∈ mTb := mt (i := 1078) (by decide +kernel) rfl
theorem lk_L_95 : Cond.methodLink R_law 95 yX8_switches ∈ mTb := mt (i := 609) (by decide +kernel) rfl
theorem ok_X8_switches : mOk mX8_switches 1 := ⟨by decide +kernel, by decide, mt (i := 612) (by decide +kernel) rfl, mt (i := 1) (by decide +kernel) rfl⟩
theorem im_X8_switches : Cond.instanceMethod yX8_switches ∈ mTb := mt (i := 610) (by decide +kernel) rfl
theorem se_X8_switches : Cond.selects RX8 yX8_switches yX8_switches ∈ mTb := mt (i := 611) (by decide +kernel) rfl
theorem lk_L_98 : Cond.methodLink R_law 98 yX9_switches ∈ mTb := mt (i := 1080) (by decide +kernel) rfl
theorem ok_X9_switches : mOk mX9_switches 1 := ⟨by decide +kernel, by decide, mt (i := 1083) (by decide +kernel) rfl, mt (i := 10) (by decide +kernel) rfl⟩
theorem im_X9_switches : Cond.instanceMethod yX9_switches ∈ mTb := mt (i := 1081) (by decide +kernel) rfl
theorem se_X9_switches : Cond.selects RX9 yX9_switches yX9_switches ∈ mTb := mt (i := 1082) (by decide +kernel) rfl
theorem lk_L_99 : Cond.methodLink R_law 99 yX8_reached ∈ mTb := mt (i := 621) (by decide +kernel) rfl
theorem ok_X8_reached : mOk mX8_reached 0 := ⟨by decide +kernel, by decide, mt (i := 624) (by decide +kernel) rfl, mt (i := 1) (by decide +kernel) rfl⟩
theorem im_X8_reached : Cond.instanceMethod yX8_reached ∈ mTb := mt (i := 622) (by decide +kernel) rfl
theorem se_X8_reached : Cond.selects RX8 yX8_reached yX8_reached ∈ mTb := mt (i := 623) (by decide +kernel) rfl
theorem lk_L_102 : Cond.methodLink R_law 102 yX9_reached ∈ mTb := mt (i := 1084) (by decide +kernel) rfl
theorem ok_X9_reached : mOk mX9_reached 0 := ⟨by decide +kernel, by decide, mt (i := 1087) (by decide +kernel) rfl, mt (i := 10) (by decide +kernel) rfl⟩
theorem im_X9_reached : Cond.instanceMethod yX9_reached ∈ mTb := mt (i := 1085) (by decide +kernel) rfl
theorem se_X9_reached : Cond.selects RX9 yX9_reached yX9_reached ∈ mTb := mt (i := 1086) (by decide +kernel) rfl
theorem lk_L_103 : Cond.methodLink R_law 103 yX8_apart ∈ mTb := mt (i := 645) (by decide +kernel) rfl
theorem ok_X8_apart : mOk mX8_apart 1 := ⟨by decide +kernel, by decide, mt (i := 648) (by decide +kernel) rfl, mt (i := 1) (by decide +kernel) rfl⟩
theorem im_X8_apart : Cond.instanceMethod yX8_apart ∈ mTb := mt (i := 646) (by decide +kernel) rfl
theorem se_X8_apart : Cond.selects RX8 yX8_apart yX8_apart ∈ mTb := mt (i := 647) (by decide +kernel) rfl
theorem lk_L_106 : Cond.methodLink R_law 106 yX9_apart ∈ mTb := mt (i := 1095) (by decide +kernel) rfl
theorem ok_X9_apart : mOk mX9_apart 1 := ⟨by decide +kernel, by decide, mt (i := 1098) (by decide +kernel) rfl, mt (i := 10) (by decide +kernel) rfl⟩
theorem im_X9_apart : Cond.instanceMethod yX9_apart ∈ mTb := mt (i := 1096) (by decide +kernel) rfl
theorem se_X9_apart : Cond.selects RX9 yX9_apart yX9_apart ∈ mTb := mt (i := 1097) (by decide +kernel) rfl
theorem lk_L_107 : Cond.methodLink R_law 107 yX8_key ∈ mTb := mt (i := 653) (by decide +kernel) rfl
theorem ok_X8_key : mOk mX8_key 1 := ⟨by decide +kernel, by decide, mt (i := 656) (by decide +kernel) rfl, mt (i := 1) (by decide +kernel) rfl⟩
theorem im_X8_key : Cond.instanceMethod yX8_key ∈ mTb := mt (i := 654) (by decide +kernel) rfl
theorem se_X8_key : Cond.selects RX8 yX8_key yX8_key ∈ mTb := mt (i := 655) (by decide +kernel) rfl
theorem lk_L_110 : Cond.methodLink R_law 110 yX9_key ∈ mTb := mt (i := 1099) (by decide +kernel) rfl
theorem ok_X9_key : mOk mX9_key 1 := ⟨by decide +kernel, by decide, mt (i := 1102) (by decide +kernel) rfl, mt (i := 10) (by decide +kernel) rfl⟩
theorem im_X9_key : Cond.instanceMethod yX9_key ∈ mTb := mt (i := 1100) (by decide +kernel) rfl
theorem se_X9_key : Cond.selects RX9 yX9_key yX9_key ∈ mTb := mt (i := 1101) (by decide +kernel) rfl
theorem kl_L_111 : Cond.constantLong R_law 111 (4294967295) ∈ mTb := mt (i := 1211) (by decide +kernel) rfl
theorem lk_L_113 : Cond.methodLink R_law 113 yX8_judge ∈ mTb := mt (i := 678) (by decide +kernel) rfl
theorem ok_X8_judge : mOk mX8_judge 2 := ⟨by decide +kernel, by decide, mt (i := 681) (by decide +kernel) rfl, mt (i := 1) (by decide +kernel) rfl⟩
theorem im_X8_judge : Cond.instanceMethod yX8_judge ∈ mTb := mt (i := 679) (by decide +kernel) rfl
theorem se_X8_judge : Cond.selects RX8 yX8_judge yX8_judge ∈ mTb := mt (i := 680) (by decide +kernel) rfl
theorem lk_L_117 : Cond.methodLink R_law 117 yX9_judge ∈ mTb := mt (i := 1115) (by decide +kernel) rfl
theorem ok_X9_judge : mOk mX9_judge 2 := ⟨by decide +kernel, by decide, mt (i := 1118) (by decide +kernel) rfl, mt (i := 10) (by decide +kernel) rfl⟩
theorem im_X9_judge : Cond.instanceMethod yX9_judge ∈ mTb := mt (i := 1116) (by decide +kernel) rfl
theorem se_X9_judge : Cond.selects RX9 yX9_judge yX9_judge ∈ mTb := mt (i := 1117) (by decide +kernel) rfl
theorem lk_L_118 : Cond.methodLink R_law 118 yX8_see ∈ mTb := mt (i := 709) (by decide +kernel) rfl
theorem ok_X8_see : mOk mX8_see 2 := ⟨by decide +kernel, by decide, mt (i := 712) (by decide +kernel) rfl, mt (i := 1) (by decide +kernel) rfl⟩
theorem im_X8_see : Cond.instanceMethod yX8_see ∈ mTb := mt (i := 710) (by decide +kernel) rfl
theorem se_X8_see : Cond.selects RX8 yX8_see yX8_see ∈ mTb := mt (i := 711) (by decide +kernel) rfl
theorem lk_L_121 : Cond.methodLink R_law 121 yX9_see ∈ mTb := mt (i := 1140) (by decide +kernel) rfl
theorem ok_X9_see : mOk mX9_see 2 := ⟨by decide +kernel, by decide, mt (i := 1143) (by decide +kernel) rfl, mt (i := 10) (by decide +kernel) rfl⟩
theorem im_X9_see : Cond.instanceMethod yX9_see ∈ mTb := mt (i := 1141) (by decide +kernel) rfl
theorem se_X9_see : Cond.selects RX9 yX9_see yX9_see ∈ mTb := mt (i := 1142) (by decide +kernel) rfl
theorem lk_L_122 : Cond.methodLink R_law 122 yX8_unsee ∈ mTb := mt (i := 713) (by decide +kernel) rfl
theorem ok_X8_unsee : mOk mX8_unsee 0 := ⟨by decide +kernel, by decide, mt (i := 716) (by decide +kernel) rfl, mt (i := 1) (by decide +kernel) rfl⟩
theorem im_X8_unsee : Cond.instanceMethod yX8_unsee ∈ mTb := mt (i := 714) (by decide +kernel) rfl
theorem se_X8_unsee : Cond.selects RX8 yX8_unsee yX8_unsee ∈ mTb := mt (i := 715) (by decide +kernel) rfl
theorem lk_L_125 : Cond.methodLink R_law 125 yX9_unsee ∈ mTb := mt (i := 1145) (by decide +kernel) rfl
theorem ok_X9_unsee : mOk mX9_unsee 0 := ⟨by decide +kernel, by decide, mt (i := 1148) (by decide +kernel) rfl, mt (i := 10) (by decide +kernel) rfl⟩
theorem im_X9_unsee : Cond.instanceMethod yX9_unsee ∈ mTb := mt (i := 1146) (by decide +kernel) rfl
theorem se_X9_unsee : Cond.selects RX9 yX9_unsee yX9_unsee ∈ mTb := mt (i := 1147) (by decide +kernel) rfl
theorem lk_L_126 : Cond.methodLink R_law 126 yX8_which ∈ mTb := mt (i := 717) (by decide +kernel) rfl
theorem ok_X8_which : mOk mX8_which 1 := ⟨by decide +kernel, by decide, mt (i := 720) (by decide +kernel) rfl, mt (i := 1) (by decide +kernel) rfl⟩
theorem im_X8_which : Cond.instanceMethod yX8_which ∈ mTb := mt (i := 718) (by decide +kernel) rfl
theorem se_X8_which : Cond.selects RX8 yX8_which yX8_which ∈ mTb := mt (i := 719) (by decide +kernel) rfl
theorem lk_L_129 : Cond.methodLink R_law 129 yX9_which ∈ mTb := mt (i := 1149) (by decide +kernel) rfl
theorem ok_X9_which : mOk mX9_which 1 := ⟨by decide +kernel, by decide, mt (i := 1152) (by decide +kernel) rfl, mt (i := 10) (by decide +kernel) rfl⟩
theorem im_X9_which : Cond.instanceMethod yX9_which ∈ mTb := mt (i := 1150) (by decide +kernel) rfl
theorem se_X9_which : Cond.selects RX9 yX9_which yX9_which ∈ mTb := mt (i := 1151) (by decide +kernel) rfl
theorem lk_L_130 : Cond.methodLink R_law 130 yX8_share ∈ mTb := mt (i := 721) (by decide +kernel) rfl
theorem ok_X8_share : mOk mX8_share 2 := ⟨by decide +kernel, by decide, mt (i := 724) (by decide +kernel) rfl, mt (i := 1) (by decide +kernel) rfl⟩
theorem im_X8_share : Cond.instanceMethod yX8_share ∈ mTb := mt (i := 722) (by decide +kernel) rfl
theorem se_X8_share : Cond.selects RX8 yX8_share yX8_share ∈ mTb := mt (i := 723) (by decide +kernel) rfl
theorem lk_L_133 : Cond.methodLink R_law 133 yX9_share ∈ mTb := mt (i := 1157) (by decide +kernel) rfl
theorem ok_X9_share : mOk mX9_share 2 := ⟨by decide +kernel, by decide, mt (i := 1160) (by decide +kernel) rfl, mt (i := 10) (by decide +kernel) rfl⟩
theorem im_X9_share : Cond.instanceMethod yX9_share ∈ mTb := mt (i := 1158) (by decide +kernel) rfl
theorem se_X9_share : Cond.selects RX9 yX9_share yX9_share ∈ mTb := mt (i := 1159) (by decide +kernel) rfl
theorem lk_L_134 : Cond.methodLink R_law 134 yX8_loose ∈ mTb := mt (i := 750) (by decide +kernel) rfl
theorem ok_X8_loose : mOk mX8_loose 2 := ⟨by decide +kernel, by decide, mt (i := 753) (by decide +kernel) rfl, mt (i := 1) (by decide +kernel) rfl⟩
theorem im_X8_loose : Cond.instanceMethod yX8_loose ∈ mTb := mt (i := 751) (by decide +kernel) rfl
theorem se_X8_loose : Cond.selects RX8 yX8_loose yX8_loose ∈ mTb := mt (i := 752) (by decide +kernel) rfl
theorem lk_L_137 : Cond.methodLink R_law 137 yX9_loose ∈ mTb := mt (i := 1176) (by decide +kernel) rfl
theorem ok_X9_loose : mOk mX9_loose 2 := ⟨by decide +kernel, by decide, mt (i := 1179) (by decide +kernel) rfl, mt (i := 10) (by decide +kernel) rfl⟩
theorem im_X9_loose : Cond.instanceMethod yX9_loose ∈ mTb := mt (i := 1177) (by decide +kernel) rfl
theorem se_X9_loose : Cond.selects RX9 yX9_loose yX9_loose ∈ mTb := mt (i := 1178) (by decide +kernel) rfl
theorem lk_L_138 : Cond.methodLink R_law 138 yX8_seed ∈ mTb := mt (i := 762) (by decide +kernel) rfl
theorem ok_X8_seed : mOk mX8_seed 1 := ⟨by decide +kernel, by decide, mt (i := 765) (by decide +kernel) rfl, mt (i := 1) (by decide +kernel) rfl⟩
theorem im_X8_seed : Cond.instanceMethod yX8_seed ∈ mTb := mt (i := 763) (by decide +kernel) rfl
theorem se_X8_seed : Cond.selects RX8 yX8_seed yX8_seed ∈ mTb := mt (i := 764) (by decide +kernel) rfl
theorem lk_L_142 : Cond.methodLink R_law 142 yX9_seed ∈ mTb := mt (i := 1184) (by decide +kernel) rfl
theorem ok_X9_seed : mOk mX9_seed 1 := ⟨by decide +kernel, by decide, mt (i := 1187) (by decide +kernel) rfl, mt (i := 10) (by decide +kernel) rfl⟩
theorem im_X9_seed : Cond.instanceMethod yX9_seed ∈ mTb := mt (i := 1185) (by decide +kernel) rfl
theorem se_X9_seed : Cond.selects RX9 yX9_seed yX9_seed ∈ mTb := mt (i := 1186) (by decide +kernel) rfl
theorem lk_L_143 : Cond.methodLink R_law 143 yX8_drawn ∈ mTb := mt (i := 766) (by decide +kernel) rfl
theorem ok_X8_drawn : mOk mX8_drawn 1 := ⟨by decide +kernel, by decide, mt (i := 769) (by decide +kernel) rfl, mt (i := 1) (by decide +kernel) rfl⟩
theorem im_X8_drawn : Cond.instanceMethod yX8_drawn ∈ mTb := mt (i := 767) (by decide +kernel) rfl
theorem se_X8_drawn : Cond.selects RX8 yX8_drawn yX8_drawn ∈ mTb := mt (i := 768) (by decide +kernel) rfl
theorem lk_L_146 : Cond.methodLink R_law 146 yX9_drawn ∈ mTb := mt (i := 1188) (by decide +kernel) rfl
theorem ok_X9_drawn : mOk mX9_drawn 1 := ⟨by decide +kernel, by decide, mt (i := 1191) (by decide +kernel) rfl, mt (i := 10) (by decide +kernel) rfl⟩
theorem im_X9_drawn : Cond.instanceMethod yX9_drawn ∈ mTb := mt (i := 1189) (by decide +kernel) rfl
theorem se_X9_drawn : Cond.selects RX9 yX9_drawn yX9_drawn ∈ mTb := mt (i := 1190) (by decide +kernel) rfl
theorem lk_L_147 : Cond.methodLink R_law 147 yX8_keep ∈ mTb := mt (i := 781) (by decide +kernel) rfl
theorem ok_X8_keep : mOk mX8_keep 1 := ⟨by decide +kernel, by decide, mt (i := 784) (by decide +kernel) rfl, mt (i := 1) (by decide +kernel) rfl⟩
theorem im_X8_keep : Cond.instanceMethod yX8_keep ∈ mTb := mt (i := 782) (by decide +kernel) rfl
theorem se_X8_keep : Cond.selects RX8 yX8_keep yX8_keep ∈ mTb := mt (i := 783) (by decide +kernel) rfl
theorem lk_L_150 : Cond.methodLink R_law 150 yX9_keep ∈ mTb := mt (i := 1195) (by decide +kernel) rfl
theorem ok_X9_keep : mOk mX9_keep 1 := ⟨by decide +kernel, by decide, mt (i := 1198) (by decide +kernel) rfl, mt (i := 10) (by decide +kernel) rfl⟩
theorem im_X9_keep : Cond.instanceMethod yX9_keep ∈ mTb := mt (i := 1196) (by decide +kernel) rfl
theorem se_X9_keep : Cond.selects RX9 yX9_keep yX9_keep ∈ mTb := mt (i := 1197) (by decide +kernel) rfl
theorem lk_L_151 : Cond.methodLink R_law 151 yX8_again ∈ mTb := mt (i := 785) (by decide +kernel) rfl
theorem ok_X8_again : mOk mX8_again 1 := ⟨by decide +kernel, by decide, mt (i := 788) (by decide +kernel) rfl, mt (i := 1) (by decide +kernel) rfl⟩
theorem im_X8_again : Cond.instanceMethod yX8_again ∈ mTb := mt (i := 786) (by decide +kernel) rfl
theorem se_X8_again : Cond.selects RX8 yX8_again yX8_again ∈ mTb := mt (i := 787) (by decide +kernel) rfl
theorem lk_L_154 : Cond.methodLink R_law 154 yX9_again ∈ mTb := mt (i := 1199) (by decide +kernel) rfl
theorem ok_X9_again : mOk mX9_again 1 := ⟨by decide +kernel, by decide, mt (i := 1202) (by decide +kernel) rfl, mt (i := 10) (by decide +kernel) rfl⟩
theorem im_X9_again : Cond.instanceMethod yX9_again ∈ mTb := mt (i := 1200) (by decide +kernel) rfl
theorem se_X9_again : Cond.selects RX9 yX9_again yX9_again ∈ mTb := mt (i := 1201) (by decide +kernel) rfl
theorem lk_L_155 : Cond.methodLink R_law 155 yX8_count ∈ mTb := mt (i := 789) (by decide +kernel) rfl
theorem ok_X8_count : mOk mX8_count 1 := ⟨by decide +kernel, by decide, mt (i := 792) (by decide +kernel) rfl, mt (i := 1) (by decide +kernel) rfl⟩
theorem im_X8_count : Cond.instanceMethod yX8_count ∈ mTb := mt (i := 790) (by decide +kernel) rfl
theorem se_X8_count : Cond.selects RX8 yX8_count yX8_count ∈ mTb := mt (i := 791) (by decide +kernel) rfl
theorem lk_L_158 : Cond.methodLink R_law 158 yX9_count ∈ mTb := mt (i := 1203) (by decide +kernel) rfl
theorem ok_X9_count : mOk mX9_count 1 := ⟨by decide +kernel, by decide, mt (i := 1206) (by decide +kernel) rfl, mt (i := 10) (by decide +kernel) rfl⟩
theorem im_X9_count : Cond.instanceMethod yX9_count ∈ mTb := mt (i := 1204) (by decide +kernel) rfl
theorem se_X9_count : Cond.selects RX9 yX9_count yX9_count ∈ mTb := mt (i := 1205) (by decide +kernel) rfl
