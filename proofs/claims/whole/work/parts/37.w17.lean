theorem d_Law_law_618 : decode (mC m_Law_law) 618 = .ok (.aload_n 3, 1) := by decide +kernel
theorem d_Law_law_619 : decode (mC m_Law_law) 619 = .ok (.iconst 0, 1) := by decide +kernel
theorem d_Law_law_620 : decode (mC m_Law_law) 620 = .ok (.laload, 1) := by decide +kernel
theorem d_Law_law_621 : decode (mC m_Law_law) 621 = .ok (.iload 6, 2) := by decide +kernel
theorem d_Law_law_623 : decode (mC m_Law_law) 623 = .ok (.i2l, 1) := by decide +kernel
theorem d_Law_law_624 : decode (mC m_Law_law) 624 = .ok (.lcmp, 1) := by decide +kernel
theorem d_Law_law_625 : decode (mC m_Law_law) 625 = .ok (.ifCond .eq 5, 3) := by decide +kernel
theorem d_Law_law_628 : decode (mC m_Law_law) 628 = .ok (.iconst 0, 1) := by decide +kernel
theorem d_Law_law_629 : decode (mC m_Law_law) 629 = .ok (.ireturn, 1) := by decide +kernel
theorem d_Law_law_630 : decode (mC m_Law_law) 630 = .ok (.goto 493, 3) := by decide +kernel
theorem d_Law_law_633 : decode (mC m_Law_law) 633 = .ok (.aload_n 1, 1) := by decide +kernel
theorem d_Law_law_634 : decode (mC m_Law_law) 634 = .ok (.aload_n 0, 1) := by decide +kernel
theorem d_Law_law_635 : decode (mC m_Law_law) 635 = .ok (.iload 4, 2) := by decide +kernel
theorem d_Law_law_637 : decode (mC m_Law_law) 637 = .ok (.iconst 1, 1) := by decide +kernel
theorem d_Law_law_638 : decode (mC m_Law_law) 638 = .ok (.iadd, 1) := by decide +kernel
theorem d_Law_law_639 : decode (mC m_Law_law) 639 = .ok (.iaload, 1) := by decide +kernel
theorem d_Law_law_640 : decode (mC m_Law_law) 640 = .ok (.aload_n 3, 1) := by decide +kernel
theorem d_Law_law_641 : decode (mC m_Law_law) 641 = .ok (.invokestatic 125, 3) := by decide +kernel
theorem d_Law_law_644 : decode (mC m_Law_law) 644 = .ok (.istore 5, 2) := by decide +kernel
theorem d_Law_law_646 : decode (mC m_Law_law) 646 = .ok (.aload_n 2, 1) := by decide +kernel
theorem d_Law_law_647 : decode (mC m_Law_law) 647 = .ok (.aload_n 0, 1) := by decide +kernel
theorem d_Law_law_648 : decode (mC m_Law_law) 648 = .ok (.iload 4, 2) := by decide +kernel
theorem d_Law_law_650 : decode (mC m_Law_law) 650 = .ok (.iconst 1, 1) := by decide +kernel
theorem d_Law_law_651 : decode (mC m_Law_law) 651 = .ok (.iadd, 1) := by decide +kernel
theorem d_Law_law_652 : decode (mC m_Law_law) 652 = .ok (.iaload, 1) := by decide +kernel
theorem d_Law_law_653 : decode (mC m_Law_law) 653 = .ok (.invokevirtual 127, 3) := by decide +kernel
theorem d_Law_law_656 : decode (mC m_Law_law) 656 = .ok (.istore 6, 2) := by decide +kernel
theorem d_Law_law_658 : decode (mC m_Law_law) 658 = .ok (.aload_n 2, 1) := by decide +kernel
theorem d_Law_law_659 : decode (mC m_Law_law) 659 = .ok (.invokevirtual 86, 3) := by decide +kernel
theorem d_Law_law_662 : decode (mC m_Law_law) 662 = .ok (.iload 5, 2) := by decide +kernel
theorem d_Law_law_664 : decode (mC m_Law_law) 664 = .ok (.if_icmp .eq 5, 3) := by decide +kernel
theorem d_Law_law_667 : decode (mC m_Law_law) 667 = .ok (.iconst 0, 1) := by decide +kernel
theorem d_Law_law_668 : decode (mC m_Law_law) 668 = .ok (.ireturn, 1) := by decide +kernel
theorem d_Law_law_669 : decode (mC m_Law_law) 669 = .ok (.iload 5, 2) := by decide +kernel
theorem d_Law_law_671 : decode (mC m_Law_law) 671 = .ok (.ifCond .ne 15, 3) := by decide +kernel
theorem d_Law_law_674 : decode (mC m_Law_law) 674 = .ok (.aload_n 3, 1) := by decide +kernel
theorem d_Law_law_675 : decode (mC m_Law_law) 675 = .ok (.iconst 0, 1) := by decide +kernel
theorem d_Law_law_676 : decode (mC m_Law_law) 676 = .ok (.laload, 1) := by decide +kernel
theorem d_Law_law_677 : decode (mC m_Law_law) 677 = .ok (.iload 6, 2) := by decide +kernel
theorem d_Law_law_679 : decode (mC m_Law_law) 679 = .ok (.i2l, 1) := by decide +kernel
theorem d_Law_law_680 : decode (mC m_Law_law) 680 = .ok (.lcmp, 1) := by decide +kernel
theorem d_Law_law_681 : decode (mC m_Law_law) 681 = .ok (.ifCond .eq 5, 3) := by decide +kernel
theorem d_Law_law_684 : decode (mC m_Law_law) 684 = .ok (.iconst 0, 1) := by decide +kernel
theorem d_Law_law_685 : decode (mC m_Law_law) 685 = .ok (.ireturn, 1) := by decide +kernel
theorem d_Law_law_686 : decode (mC m_Law_law) 686 = .ok (.goto 437, 3) := by decide +kernel
theorem d_Law_law_689 : decode (mC m_Law_law) 689 = .ok (.aload_n 1, 1) := by decide +kernel
theorem d_Law_law_690 : decode (mC m_Law_law) 690 = .ok (.aload_n 0, 1) := by decide +kernel
theorem d_Law_law_691 : decode (mC m_Law_law) 691 = .ok (.iload 4, 2) := by decide +kernel
theorem d_Law_law_693 : decode (mC m_Law_law) 693 = .ok (.iconst 1, 1) := by decide +kernel
theorem d_Law_law_694 : decode (mC m_Law_law) 694 = .ok (.iadd, 1) := by decide +kernel
theorem d_Law_law_695 : decode (mC m_Law_law) 695 = .ok (.iaload, 1) := by decide +kernel
theorem d_Law_law_696 : decode (mC m_Law_law) 696 = .ok (.aload_n 3, 1) := by decide +kernel
theorem d_Law_law_697 : decode (mC m_Law_law) 697 = .ok (.invokestatic 128, 3) := by decide +kernel
theorem d_Law_law_700 : decode (mC m_Law_law) 700 = .ok (.istore 5, 2) := by decide +kernel
theorem d_Law_law_702 : decode (mC m_Law_law) 702 = .ok (.aload_n 2, 1) := by decide +kernel
theorem d_Law_law_703 : decode (mC m_Law_law) 703 = .ok (.aload_n 0, 1) := by decide +kernel
theorem d_Law_law_704 : decode (mC m_Law_law) 704 = .ok (.iload 4, 2) := by decide +kernel
theorem d_Law_law_706 : decode (mC m_Law_law) 706 = .ok (.iconst 1, 1) := by decide +kernel
theorem d_Law_law_707 : decode (mC m_Law_law) 707 = .ok (.iadd, 1) := by decide +kernel
theorem d_Law_law_708 : decode (mC m_Law_law) 708 = .ok (.iaload, 1) := by decide +kernel
theorem d_Law_law_709 : decode (mC m_Law_law) 709 = .ok (.invokevirtual 130, 3) := by decide +kernel
theorem d_Law_law_712 : decode (mC m_Law_law) 712 = .ok (.istore 6, 2) := by decide +kernel
theorem d_Law_law_714 : decode (mC m_Law_law) 714 = .ok (.aload_n 2, 1) := by decide +kernel
theorem d_Law_law_715 : decode (mC m_Law_law) 715 = .ok (.invokevirtual 86, 3) := by decide +kernel
theorem d_Law_law_718 : decode (mC m_Law_law) 718 = .ok (.iload 5, 2) := by decide +kernel
theorem d_Law_law_720 : decode (mC m_Law_law) 720 = .ok (.if_icmp .eq 5, 3) := by decide +kernel
theorem d_Law_law_723 : decode (mC m_Law_law) 723 = .ok (.iconst 0, 1) := by decide +kernel
theorem d_Law_law_724 : decode (mC m_Law_law) 724 = .ok (.ireturn, 1) := by decide +kernel
theorem d_Law_law_725 : decode (mC m_Law_law) 725 = .ok (.iload 5, 2) := by decide +kernel
theorem d_Law_law_727 : decode (mC m_Law_law) 727 = .ok (.ifCond .ne 15, 3) := by decide +kernel
theorem d_Law_law_730 : decode (mC m_Law_law) 730 = .ok (.aload_n 3, 1) := by decide +kernel
theorem d_Law_law_731 : decode (mC m_Law_law) 731 = .ok (.iconst 0, 1) := by decide +kernel
theorem d_Law_law_732 : decode (mC m_Law_law) 732 = .ok (.laload, 1) := by decide +kernel
theorem d_Law_law_733 : decode (mC m_Law_law) 733 = .ok (.iload 6, 2) := by decide +kernel
theorem d_Law_law_735 : decode (mC m_Law_law) 735 = .ok (.i2l, 1) := by decide +kernel
theorem d_Law_law_736 : decode (mC m_Law_law) 736 = .ok (.lcmp, 1) := by decide +kernel
theorem d_Law_law_737 : decode (mC m_Law_law) 737 = .ok (.ifCond .eq 5, 3) := by decide +kernel
theorem d_Law_law_740 : decode (mC m_Law_law) 740 = .ok (.iconst 0, 1) := by decide +kernel
theorem d_Law_law_741 : decode (mC m_Law_law) 741 = .ok (.ireturn, 1) := by decide +kernel
theorem d_Law_law_742 : decode (mC m_Law_law) 742 = .ok (.goto 381, 3) := by decide +kernel
theorem d_Law_law_745 : decode (mC m_Law_law) 745 = .ok (.aload_n 1, 1) := by decide +kernel
theorem d_Law_law_746 : decode (mC m_Law_law) 746 = .ok (.aload_n 3, 1) := by decide +kernel
theorem d_Law_law_747 : decode (mC m_Law_law) 747 = .ok (.invokestatic 131, 3) := by decide +kernel
theorem d_Law_law_750 : decode (mC m_Law_law) 750 = .ok (.istore 5, 2) := by decide +kernel
theorem d_Law_law_752 : decode (mC m_Law_law) 752 = .ok (.aload_n 2, 1) := by decide +kernel
theorem d_Law_law_753 : decode (mC m_Law_law) 753 = .ok (.invokevirtual 133, 3) := by decide +kernel
theorem d_Law_law_756 : decode (mC m_Law_law) 756 = .ok (.istore 6, 2) := by decide +kernel
theorem d_Law_law_758 : decode (mC m_Law_law) 758 = .ok (.aload_n 2, 1) := by decide +kernel
theorem d_Law_law_759 : decode (mC m_Law_law) 759 = .ok (.invokevirtual 86, 3) := by decide +kernel
theorem d_Law_law_762 : decode (mC m_Law_law) 762 = .ok (.iload 5, 2) := by decide +kernel
theorem d_Law_law_764 : decode (mC m_Law_law) 764 = .ok (.if_icmp .eq 5, 3) := by decide +kernel
theorem d_Law_law_767 : decode (mC m_Law_law) 767 = .ok (.iconst 0, 1) := by decide +kernel
theorem d_Law_law_768 : decode (mC m_Law_law) 768 = .ok (.ireturn, 1) := by decide +kernel
theorem d_Law_law_769 : decode (mC m_Law_law) 769 = .ok (.iload 5, 2) := by decide +kernel
theorem d_Law_law_771 : decode (mC m_Law_law) 771 = .ok (.ifCond .ne 15, 3) := by decide +kernel
theorem d_Law_law_774 : decode (mC m_Law_law) 774 = .ok (.aload_n 3, 1) := by decide +kernel
theorem d_Law_law_775 : decode (mC m_Law_law) 775 = .ok (.iconst 0, 1) := by decide +kernel
theorem d_Law_law_776 : decode (mC m_Law_law) 776 = .ok (.laload, 1) := by decide +kernel
theorem d_Law_law_777 : decode (mC m_Law_law) 777 = .ok (.iload 6, 2) := by decide +kernel
theorem d_Law_law_779 : decode (mC m_Law_law) 779 = .ok (.i2l, 1) := by decide +kernel
theorem d_Law_law_780 : decode (mC m_Law_law) 780 = .ok (.lcmp, 1) := by decide +kernel
theorem d_Law_law_781 : decode (mC m_Law_law) 781 = .ok (.ifCond .eq 5, 3) := by decide +kernel
theorem d_Law_law_784 : decode (mC m_Law_law) 784 = .ok (.iconst 0, 1) := by decide +kernel
theorem d_Law_law_785 : decode (mC m_Law_law) 785 = .ok (.ireturn, 1) := by decide +kernel
theorem d_Law_law_786 : decode (mC m_Law_law) 786 = .ok (.goto 337, 3) := by decide +kernel
theorem d_Law_law_789 : decode (mC m_Law_law) 789 = .ok (.aload_n 1, 1) := by decide +kernel
theorem d_Law_law_790 : decode (mC m_Law_law) 790 = .ok (.aload_n 0, 1) := by decide +kernel
theorem d_Law_law_791 : decode (mC m_Law_law) 791 = .ok (.iload 4, 2) := by decide +kernel
theorem d_Law_law_793 : decode (mC m_Law_law) 793 = .ok (.iconst 1, 1) := by decide +kernel
theorem d_Law_law_794 : decode (mC m_Law_law) 794 = .ok (.iadd, 1) := by decide +kernel
theorem d_Law_law_795 : decode (mC m_Law_law) 795 = .ok (.iaload, 1) := by decide +kernel
theorem d_Law_law_796 : decode (mC m_Law_law) 796 = .ok (.aload_n 0, 1) := by decide +kernel
theorem d_Law_law_797 : decode (mC m_Law_law) 797 = .ok (.iload 4, 2) := by decide +kernel
theorem d_Law_law_799 : decode (mC m_Law_law) 799 = .ok (.iconst 2, 1) := by decide +kernel
theorem d_Law_law_800 : decode (mC m_Law_law) 800 = .ok (.iadd, 1) := by decide +kernel
theorem d_Law_law_801 : decode (mC m_Law_law) 801 = .ok (.iaload, 1) := by decide +kernel
theorem d_Law_law_802 : decode (mC m_Law_law) 802 = .ok (.aload_n 3, 1) := by decide +kernel
theorem d_Law_law_803 : decode (mC m_Law_law) 803 = .ok (.invokestatic 134, 3) := by decide +kernel
theorem d_Law_law_806 : decode (mC m_Law_law) 806 = .ok (.istore 5, 2) := by decide +kernel
theorem d_Law_law_808 : decode (mC m_Law_law) 808 = .ok (.aload_n 2, 1) := by decide +kernel
theorem d_Law_law_809 : decode (mC m_Law_law) 809 = .ok (.aload_n 0, 1) := by decide +kernel
theorem d_Law_law_810 : decode (mC m_Law_law) 810 = .ok (.iload 4, 2) := by decide +kernel
theorem d_Law_law_812 : decode (mC m_Law_law) 812 = .ok (.iconst 1, 1) := by decide +kernel
theorem d_Law_law_813 : decode (mC m_Law_law) 813 = .ok (.iadd, 1) := by decide +kernel
theorem d_Law_law_814 : decode (mC m_Law_law) 814 = .ok (.iaload, 1) := by decide +kernel
theorem d_Law_law_815 : decode (mC m_Law_law) 815 = .ok (.aload_n 0, 1) := by decide +kernel
theorem d_Law_law_816 : decode (mC m_Law_law) 816 = .ok (.iload 4, 2) := by decide +kernel
theorem d_Law_law_818 : decode (mC m_Law_law) 818 = .ok (.iconst 2, 1) := by decide +kernel
theorem d_Law_law_819 : decode (mC m_Law_law) 819 = .ok (.iadd, 1) := by decide +kernel
theorem d_Law_law_820 : decode (mC m_Law_law) 820 = .ok (.iaload, 1) := by decide +kernel
theorem d_Law_law_821 : decode (mC m_Law_law) 821 = .ok (.invokevirtual 136, 3) := by decide +kernel
theorem d_Law_law_824 : decode (mC m_Law_law) 824 = .ok (.istore 6, 2) := by decide +kernel
theorem d_Law_law_826 : decode (mC m_Law_law) 826 = .ok (.aload_n 2, 1) := by decide +kernel
theorem d_Law_law_827 : decode (mC m_Law_law) 827 = .ok (.invokevirtual 86, 3) := by decide +kernel
theorem d_Law_law_830 : decode (mC m_Law_law) 830 = .ok (.iload 5, 2) := by decide +kernel
theorem d_Law_law_832 : decode (mC m_Law_law) 832 = .ok (.if_icmp .eq 5, 3) := by decide +kernel
theorem d_Law_law_835 : decode (mC m_Law_law) 835 = .ok (.iconst 0, 1) := by decide +kernel
theorem d_Law_law_836 : decode (mC m_Law_law) 836 = .ok (.ireturn, 1) := by decide +kernel
theorem d_Law_law_837 : decode (mC m_Law_law) 837 = .ok (.iload 5, 2) := by decide +kernel
theorem d_Law_law_839 : decode (mC m_Law_law) 839 = .ok (.ifCond .ne 15, 3) := by decide +kernel
theorem d_Law_law_842 : decode (mC m_Law_law) 842 = .ok (.aload_n 3, 1) := by decide +kernel
theorem d_Law_law_843 : decode (mC m_Law_law) 843 = .ok (.iconst 0, 1) := by decide +kernel
theorem d_Law_law_844 : decode (mC m_Law_law) 844 = .ok (.laload, 1) := by decide +kernel
theorem d_Law_law_845 : decode (mC m_Law_law) 845 = .ok (.iload 6, 2) := by decide +kernel
theorem d_Law_law_847 : decode (mC m_Law_law) 847 = .ok (.i2l, 1) := by decide +kernel
theorem d_Law_law_848 : decode (mC m_Law_law) 848 = .ok (.lcmp, 1) := by decide +kernel
theorem d_Law_law_849 : decode (mC m_Law_law) 849 = .ok (.ifCond .eq 5, 3) := by decide +kernel
theorem d_Law_law_852 : decode (mC m_Law_law) 852 = .ok (.iconst 0, 1) := by decide +kernel
theorem d_Law_law_853 : decode (mC m_Law_law) 853 = .ok (.ireturn, 1) := by decide +kernel
theorem d_Law_law_854 : decode (mC m_Law_law) 854 = .ok (.goto 269, 3) := by decide +kernel
theorem d_Law_law_857 : decode (mC m_Law_law) 857 = .ok (.aload_n 1, 1) := by decide +kernel
theorem d_Law_law_858 : decode (mC m_Law_law) 858 = .ok (.invokevirtual 137, 3) := by decide +kernel
theorem d_Law_law_861 : decode (mC m_Law_law) 861 = .ok (.aload_n 2, 1) := by decide +kernel
theorem d_Law_law_862 : decode (mC m_Law_law) 862 = .ok (.invokevirtual 140, 3) := by decide +kernel
theorem d_Law_law_865 : decode (mC m_Law_law) 865 = .ok (.if_icmp .eq 258, 3) := by decide +kernel
theorem d_Law_law_868 : decode (mC m_Law_law) 868 = .ok (.iconst 0, 1) := by decide +kernel
theorem d_Law_law_869 : decode (mC m_Law_law) 869 = .ok (.ireturn, 1) := by decide +kernel
theorem d_Law_law_870 : decode (mC m_Law_law) 870 = .ok (.aload_n 1, 1) := by decide +kernel
theorem d_Law_law_871 : decode (mC m_Law_law) 871 = .ok (.invokevirtual 141, 3) := by decide +kernel
theorem d_Law_law_874 : decode (mC m_Law_law) 874 = .ok (.aload_n 2, 1) := by decide +kernel
theorem d_Law_law_875 : decode (mC m_Law_law) 875 = .ok (.invokevirtual 144, 3) := by decide +kernel
theorem d_Law_law_878 : decode (mC m_Law_law) 878 = .ok (.if_icmp .eq 245, 3) := by decide +kernel
theorem d_Law_law_881 : decode (mC m_Law_law) 881 = .ok (.iconst 0, 1) := by decide +kernel
theorem d_Law_law_882 : decode (mC m_Law_law) 882 = .ok (.ireturn, 1) := by decide +kernel
theorem d_Law_law_883 : decode (mC m_Law_law) 883 = .ok (.aload_n 1, 1) := by decide +kernel
theorem d_Law_law_884 : decode (mC m_Law_law) 884 = .ok (.aload_n 0, 1) := by decide +kernel
theorem d_Law_law_885 : decode (mC m_Law_law) 885 = .ok (.iload 4, 2) := by decide +kernel
theorem d_Law_law_887 : decode (mC m_Law_law) 887 = .ok (.iconst 1, 1) := by decide +kernel
theorem d_Law_law_888 : decode (mC m_Law_law) 888 = .ok (.iadd, 1) := by decide +kernel
theorem d_Law_law_889 : decode (mC m_Law_law) 889 = .ok (.iaload, 1) := by decide +kernel
theorem d_Law_law_890 : decode (mC m_Law_law) 890 = .ok (.aload_n 3, 1) := by decide +kernel
theorem d_Law_law_891 : decode (mC m_Law_law) 891 = .ok (.invokestatic 145, 3) := by decide +kernel
theorem d_Law_law_894 : decode (mC m_Law_law) 894 = .ok (.istore 5, 2) := by decide +kernel
theorem d_Law_law_896 : decode (mC m_Law_law) 896 = .ok (.aload_n 2, 1) := by decide +kernel
theorem d_Law_law_897 : decode (mC m_Law_law) 897 = .ok (.aload_n 0, 1) := by decide +kernel
theorem d_Law_law_898 : decode (mC m_Law_law) 898 = .ok (.iload 4, 2) := by decide +kernel
theorem d_Law_law_900 : decode (mC m_Law_law) 900 = .ok (.iconst 1, 1) := by decide +kernel
theorem d_Law_law_901 : decode (mC m_Law_law) 901 = .ok (.iadd, 1) := by decide +kernel
theorem d_Law_law_902 : decode (mC m_Law_law) 902 = .ok (.iaload, 1) := by decide +kernel
theorem d_Law_law_903 : decode (mC m_Law_law) 903 = .ok (.invokevirtual 147, 3) := by decide +kernel
theorem d_Law_law_906 : decode (mC m_Law_law) 906 = .ok (.istore 6, 2) := by decide +kernel
theorem d_Law_law_908 : decode (mC m_Law_law) 908 = .ok (.aload_n 2, 1) := by decide +kernel
theorem d_Law_law_909 : decode (mC m_Law_law) 909 = .ok (.invokevirtual 86, 3) := by decide +kernel
theorem d_Law_law_912 : decode (mC m_Law_law) 912 = .ok (.iload 5, 2) := by decide +kernel
theorem d_Law_law_914 : decode (mC m_Law_law) 914 = .ok (.if_icmp .eq 5, 3) := by decide +kernel
theorem d_Law_law_917 : decode (mC m_Law_law) 917 = .ok (.iconst 0, 1) := by decide +kernel
theorem d_Law_law_918 : decode (mC m_Law_law) 918 = .ok (.ireturn, 1) := by decide +kernel
theorem d_Law_law_919 : decode (mC m_Law_law) 919 = .ok (.iload 5, 2) := by decide +kernel
theorem d_Law_law_921 : decode (mC m_Law_law) 921 = .ok (.ifCond .ne 15, 3) := by decide +kernel
theorem d_Law_law_924 : decode (mC m_Law_law) 924 = .ok (.aload_n 3, 1) := by decide +kernel
theorem d_Law_law_925 : decode (mC m_Law_law) 925 = .ok (.iconst 0, 1) := by decide +kernel
theorem d_Law_law_926 : decode (mC m_Law_law) 926 = .ok (.laload, 1) := by decide +kernel
theorem d_Law_law_927 : decode (mC m_Law_law) 927 = .ok (.iload 6, 2) := by decide +kernel
theorem d_Law_law_929 : decode (mC m_Law_law) 929 = .ok (.i2l, 1) := by decide +kernel
theorem d_Law_law_930 : decode (mC m_Law_law) 930 = .ok (.lcmp, 1) := by decide +kernel
theorem d_Law_law_931 : decode (mC m_Law_law) 931 = .ok (.ifCond .eq 5, 3) := by decide +kernel
theorem d_Law_law_934 : decode (mC m_Law_law) 934 = .ok (.iconst 0, 1) := by decide +kernel
theorem d_Law_law_935 : decode (mC m_Law_law) 935 = .ok (.ireturn, 1) := by decide +kernel
theorem d_Law_law_936 : decode (mC m_Law_law) 936 = .ok (.goto 187, 3) := by decide +kernel
theorem d_Law_law_939 : decode (mC m_Law_law) 939 = .ok (.aload_n 1, 1) := by decide +kernel
theorem d_Law_law_940 : decode (mC m_Law_law) 940 = .ok (.aload_n 0, 1) := by decide +kernel
theorem d_Law_law_941 : decode (mC m_Law_law) 941 = .ok (.iload 4, 2) := by decide +kernel
theorem d_Law_law_943 : decode (mC m_Law_law) 943 = .ok (.iconst 1, 1) := by decide +kernel
theorem d_Law_law_944 : decode (mC m_Law_law) 944 = .ok (.iadd, 1) := by decide +kernel
theorem d_Law_law_945 : decode (mC m_Law_law) 945 = .ok (.iaload, 1) := by decide +kernel
theorem d_Law_law_946 : decode (mC m_Law_law) 946 = .ok (.aload_n 0, 1) := by decide +kernel
theorem d_Law_law_947 : decode (mC m_Law_law) 947 = .ok (.iload 4, 2) := by decide +kernel
theorem d_Law_law_949 : decode (mC m_Law_law) 949 = .ok (.iconst 2, 1) := by decide +kernel
theorem d_Law_law_950 : decode (mC m_Law_law) 950 = .ok (.iadd, 1) := by decide +kernel
theorem d_Law_law_951 : decode (mC m_Law_law) 951 = .ok (.iaload, 1) := by decide +kernel
theorem d_Law_law_952 : decode (mC m_Law_law) 952 = .ok (.invokestatic 148, 3) := by decide +kernel
theorem d_Law_law_955 : decode (mC m_Law_law) 955 = .ok (.istore 5, 2) := by decide +kernel
theorem d_Law_law_957 : decode (mC m_Law_law) 957 = .ok (.aload_n 2, 1) := by decide +kernel
theorem d_Law_law_958 : decode (mC m_Law_law) 958 = .ok (.aload_n 0, 1) := by decide +kernel
theorem d_Law_law_959 : decode (mC m_Law_law) 959 = .ok (.iload 4, 2) := by decide +kernel
theorem d_Law_law_961 : decode (mC m_Law_law) 961 = .ok (.iconst 1, 1) := by decide +kernel
theorem d_Law_law_962 : decode (mC m_Law_law) 962 = .ok (.iadd, 1) := by decide +kernel
theorem d_Law_law_963 : decode (mC m_Law_law) 963 = .ok (.iaload, 1) := by decide +kernel
theorem d_Law_law_964 : decode (mC m_Law_law) 964 = .ok (.aload_n 0, 1) := by decide +kernel
theorem d_Law_law_965 : decode (mC m_Law_law) 965 = .ok (.iload 4, 2) := by decide +kernel
theorem d_Law_law_967 : decode (mC m_Law_law) 967 = .ok (.iconst 2, 1) := by decide +kernel
theorem d_Law_law_968 : decode (mC m_Law_law) 968 = .ok (.iadd, 1) := by decide +kernel
theorem d_Law_law_969 : decode (mC m_Law_law) 969 = .ok (.iaload, 1) := by decide +kernel
theorem d_Law_law_970 : decode (mC m_Law_law) 970 = .ok (.invokevirtual 151, 3) := by decide +kernel
theorem d_Law_law_973 : decode (mC m_Law_law) 973 = .ok (.aload_n 2, 1) := by decide +kernel
theorem d_Law_law_974 : decode (mC m_Law_law) 974 = .ok (.invokevirtual 86, 3) := by decide +kernel
theorem d_Law_law_977 : decode (mC m_Law_law) 977 = .ok (.iload 5, 2) := by decide +kernel
theorem d_Law_law_979 : decode (mC m_Law_law) 979 = .ok (.if_icmp .eq 5, 3) := by decide +kernel
theorem d_Law_law_982 : decode (mC m_Law_law) 982 = .ok (.iconst 0, 1) := by decide +kernel
theorem d_Law_law_983 : decode (mC m_Law_law) 983 = .ok (.ireturn, 1) := by decide +kernel
theorem d_Law_law_984 : decode (mC m_Law_law) 984 = .ok (.goto 139, 3) := by decide +kernel
theorem d_Law_law_987 : decode (mC m_Law_law) 987 = .ok (.aload_n 1, 1) := by decide +kernel
theorem d_Law_law_988 : decode (mC m_Law_law) 988 = .ok (.aload_n 0, 1) := by decide +kernel
theorem d_Law_law_989 : decode (mC m_Law_law) 989 = .ok (.iload 4, 2) := by decide +kernel
theorem d_Law_law_991 : decode (mC m_Law_law) 991 = .ok (.iconst 1, 1) := by decide +kernel
theorem d_Law_law_992 : decode (mC m_Law_law) 992 = .ok (.iadd, 1) := by decide +kernel
theorem d_Law_law_993 : decode (mC m_Law_law) 993 = .ok (.iaload, 1) := by decide +kernel
theorem d_Law_law_994 : decode (mC m_Law_law) 994 = .ok (.i2l, 1) := by decide +kernel
theorem d_Law_law_995 : decode (mC m_Law_law) 995 = .ok (.bipush 32, 2) := by decide +kernel
theorem d_Law_law_997 : decode (mC m_Law_law) 997 = .ok (.lshl, 1) := by decide +kernel
theorem d_Law_law_998 : decode (mC m_Law_law) 998 = .ok (.aload_n 0, 1) := by decide +kernel
theorem d_Law_law_999 : decode (mC m_Law_law) 999 = .ok (.iload 4, 2) := by decide +kernel
theorem d_Law_law_1001 : decode (mC m_Law_law) 1001 = .ok (.iconst 2, 1) := by decide +kernel
theorem d_Law_law_1002 : decode (mC m_Law_law) 1002 = .ok (.iadd, 1) := by decide +kernel
theorem d_Law_law_1003 : decode (mC m_Law_law) 1003 = .ok (.iaload, 1) := by decide +kernel
theorem d_Law_law_1004 : decode (mC m_Law_law) 1004 = .ok (.i2l, 1) := by decide +kernel
theorem d_Law_law_1005 : decode (mC m_Law_law) 1005 = .ok (.ldc2_w 78, 3) := by decide +kernel
theorem d_Law_law_1008 : decode (mC m_Law_law) 1008 = .ok (.land, 1) := by decide +kernel
theorem d_Law_law_1009 : decode (mC m_Law_law) 1009 = .ok (.lor, 1) := by decide +kernel
theorem d_Law_law_1010 : decode (mC m_Law_law) 1010 = .ok (.aload_n 0, 1) := by decide +kernel
theorem d_Law_law_1011 : decode (mC m_Law_law) 1011 = .ok (.iload 4, 2) := by decide +kernel
theorem d_Law_law_1013 : decode (mC m_Law_law) 1013 = .ok (.iconst 3, 1) := by decide +kernel
theorem d_Law_law_1014 : decode (mC m_Law_law) 1014 = .ok (.iadd, 1) := by decide +kernel
theorem d_Law_law_1015 : decode (mC m_Law_law) 1015 = .ok (.iaload, 1) := by decide +kernel
theorem d_Law_law_1016 : decode (mC m_Law_law) 1016 = .ok (.aload_n 3, 1) := by decide +kernel
theorem d_Law_law_1017 : decode (mC m_Law_law) 1017 = .ok (.invokestatic 152, 3) := by decide +kernel
theorem d_Law_law_1020 : decode (mC m_Law_law) 1020 = .ok (.istore 5, 2) := by decide +kernel
theorem d_Law_law_1022 : decode (mC m_Law_law) 1022 = .ok (.aload_n 2, 1) := by decide +kernel
theorem d_Law_law_1023 : decode (mC m_Law_law) 1023 = .ok (.aload_n 0, 1) := by decide +kernel
theorem d_Law_law_1024 : decode (mC m_Law_law) 1024 = .ok (.iload 4, 2) := by decide +kernel
theorem d_Law_law_1026 : decode (mC m_Law_law) 1026 = .ok (.iconst 1, 1) := by decide +kernel
theorem d_Law_law_1027 : decode (mC m_Law_law) 1027 = .ok (.iadd, 1) := by decide +kernel
theorem d_Law_law_1028 : decode (mC m_Law_law) 1028 = .ok (.iaload, 1) := by decide +kernel
theorem d_Law_law_1029 : decode (mC m_Law_law) 1029 = .ok (.i2l, 1) := by decide +kernel
theorem d_Law_law_1030 : decode (mC m_Law_law) 1030 = .ok (.bipush 32, 2) := by decide +kernel
theorem d_Law_law_1032 : decode (mC m_Law_law) 1032 = .ok (.lshl, 1) := by decide +kernel
theorem d_Law_law_1033 : decode (mC m_Law_law) 1033 = .ok (.aload_n 0, 1) := by decide +kernel
theorem d_Law_law_1034 : decode (mC m_Law_law) 1034 = .ok (.iload 4, 2) := by decide +kernel
theorem d_Law_law_1036 : decode (mC m_Law_law) 1036 = .ok (.iconst 2, 1) := by decide +kernel
theorem d_Law_law_1037 : decode (mC m_Law_law) 1037 = .ok (.iadd, 1) := by decide +kernel
theorem d_Law_law_1038 : decode (mC m_Law_law) 1038 = .ok (.iaload, 1) := by decide +kernel
theorem d_Law_law_1039 : decode (mC m_Law_law) 1039 = .ok (.i2l, 1) := by decide +kernel
theorem d_Law_law_1040 : decode (mC m_Law_law) 1040 = .ok (.ldc2_w 78, 3) := by decide +kernel
theorem d_Law_law_1043 : decode (mC m_Law_law) 1043 = .ok (.land, 1) := by decide +kernel
theorem d_Law_law_1044 : decode (mC m_Law_law) 1044 = .ok (.lor, 1) := by decide +kernel
theorem d_Law_law_1045 : decode (mC m_Law_law) 1045 = .ok (.aload_n 0, 1) := by decide +kernel
theorem d_Law_law_1046 : decode (mC m_Law_law) 1046 = .ok (.iload 4, 2) := by decide +kernel
theorem d_Law_law_1048 : decode (mC m_Law_law) 1048 = .ok (.iconst 3, 1) := by decide +kernel
theorem d_Law_law_1049 : decode (mC m_Law_law) 1049 = .ok (.iadd, 1) := by decide +kernel
theorem d_Law_law_1050 : decode (mC m_Law_law) 1050 = .ok (.iaload, 1) := by decide +kernel
theorem d_Law_law_1051 : decode (mC m_Law_law) 1051 = .ok (.invokevirtual 154, 3) := by decide +kernel
theorem d_Law_law_1054 : decode (mC m_Law_law) 1054 = .ok (.istore 6, 2) := by decide +kernel
theorem d_Law_law_1056 : decode (mC m_Law_law) 1056 = .ok (.aload_n 2, 1) := by decide +kernel
theorem d_Law_law_1057 : decode (mC m_Law_law) 1057 = .ok (.invokevirtual 86, 3) := by decide +kernel
theorem d_Law_law_1060 : decode (mC m_Law_law) 1060 = .ok (.iload 5, 2) := by decide +kernel
theorem d_Law_law_1062 : decode (mC m_Law_law) 1062 = .ok (.if_icmp .eq 5, 3) := by decide +kernel
theorem d_Law_law_1065 : decode (mC m_Law_law) 1065 = .ok (.iconst 0, 1) := by decide +kernel
theorem d_Law_law_1066 : decode (mC m_Law_law) 1066 = .ok (.ireturn, 1) := by decide +kernel
theorem d_Law_law_1067 : decode (mC m_Law_law) 1067 = .ok (.iload 5, 2) := by decide +kernel
theorem d_Law_law_1069 : decode (mC m_Law_law) 1069 = .ok (.ifCond .ne 15, 3) := by decide +kernel
theorem d_Law_law_1072 : decode (mC m_Law_law) 1072 = .ok (.aload_n 3, 1) := by decide +kernel
theorem d_Law_law_1073 : decode (mC m_Law_law) 1073 = .ok (.iconst 0, 1) := by decide +kernel
theorem d_Law_law_1074 : decode (mC m_Law_law) 1074 = .ok (.laload, 1) := by decide +kernel
theorem d_Law_law_1075 : decode (mC m_Law_law) 1075 = .ok (.iload 6, 2) := by decide +kernel
theorem d_Law_law_1077 : decode (mC m_Law_law) 1077 = .ok (.i2l, 1) := by decide +kernel
theorem d_Law_law_1078 : decode (mC m_Law_law) 1078 = .ok (.lcmp, 1) := by decide +kernel
theorem d_Law_law_1079 : decode (mC m_Law_law) 1079 = .ok (.ifCond .eq 5, 3) := by decide +kernel
theorem d_Law_law_1082 : decode (mC m_Law_law) 1082 = .ok (.iconst 0, 1) := by decide +kernel
theorem d_Law_law_1083 : decode (mC m_Law_law) 1083 = .ok (.ireturn, 1) := by decide +kernel
theorem d_Law_law_1084 : decode (mC m_Law_law) 1084 = .ok (.goto 39, 3) := by decide +kernel
theorem d_Law_law_1087 : decode (mC m_Law_law) 1087 = .ok (.aload_n 1, 1) := by decide +kernel
theorem d_Law_law_1088 : decode (mC m_Law_law) 1088 = .ok (.aload_n 0, 1) := by decide +kernel
theorem d_Law_law_1089 : decode (mC m_Law_law) 1089 = .ok (.iload 4, 2) := by decide +kernel
theorem d_Law_law_1091 : decode (mC m_Law_law) 1091 = .ok (.iconst 1, 1) := by decide +kernel
theorem d_Law_law_1092 : decode (mC m_Law_law) 1092 = .ok (.iadd, 1) := by decide +kernel
theorem d_Law_law_1093 : decode (mC m_Law_law) 1093 = .ok (.iaload, 1) := by decide +kernel
theorem d_Law_law_1094 : decode (mC m_Law_law) 1094 = .ok (.invokestatic 155, 3) := by decide +kernel
theorem d_Law_law_1097 : decode (mC m_Law_law) 1097 = .ok (.istore 5, 2) := by decide +kernel
theorem d_Law_law_1099 : decode (mC m_Law_law) 1099 = .ok (.aload_n 2, 1) := by decide +kernel
theorem d_Law_law_1100 : decode (mC m_Law_law) 1100 = .ok (.aload_n 0, 1) := by decide +kernel
theorem d_Law_law_1101 : decode (mC m_Law_law) 1101 = .ok (.iload 4, 2) := by decide +kernel
theorem d_Law_law_1103 : decode (mC m_Law_law) 1103 = .ok (.iconst 1, 1) := by decide +kernel
theorem d_Law_law_1104 : decode (mC m_Law_law) 1104 = .ok (.iadd, 1) := by decide +kernel
theorem d_Law_law_1105 : decode (mC m_Law_law) 1105 = .ok (.iaload, 1) := by decide +kernel
theorem d_Law_law_1106 : decode (mC m_Law_law) 1106 = .ok (.invokevirtual 158, 3) := by decide +kernel
theorem d_Law_law_1109 : decode (mC m_Law_law) 1109 = .ok (.aload_n 2, 1) := by decide +kernel
theorem d_Law_law_1110 : decode (mC m_Law_law) 1110 = .ok (.invokevirtual 86, 3) := by decide +kernel
theorem d_Law_law_1113 : decode (mC m_Law_law) 1113 = .ok (.iload 5, 2) := by decide +kernel
theorem d_Law_law_1115 : decode (mC m_Law_law) 1115 = .ok (.if_icmp .eq 5, 3) := by decide +kernel
theorem d_Law_law_1118 : decode (mC m_Law_law) 1118 = .ok (.iconst 0, 1) := by decide +kernel
theorem d_Law_law_1119 : decode (mC m_Law_law) 1119 = .ok (.ireturn, 1) := by decide +kernel
theorem d_Law_law_1120 : decode (mC m_Law_law) 1120 = .ok (.goto 3, 3) := by decide +kernel
theorem d_Law_law_1123 : decode (mC m_Law_law) 1123 = .ok (.iinc 4 4, 3) := by decide +kernel
theorem d_Law_law_1126 : decode (mC m_Law_law) 1126 = .ok (.goto (-1103), 3) := by decide +kernel
theorem d_Law_law_1129 : decode (mC m_Law_law) 1129 = .ok (.iconst 1, 1) := by decide +kernel
theorem d_Law_law_1130 : decode (mC m_Law_law) 1130 = .ok (.ireturn, 1) := by decide +kernel