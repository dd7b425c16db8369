theorem dl_541 : decode code 541 = .ok (.iload 4, 2) := by decide +kernel
theorem dl_543 : decode code 543 = .ok (.iconst 1, 1) := by decide +kernel
theorem dl_544 : decode code 544 = .ok (.iadd, 1) := by decide +kernel
theorem dl_545 : decode code 545 = .ok (.iaload, 1) := by decide +kernel
theorem dl_546 : decode code 546 = .ok (.invokevirtual 113, 3) := by decide +kernel
theorem dl_549 : decode code 549 = .ok (.istore 6, 2) := by decide +kernel
theorem dl_551 : decode code 551 = .ok (.aload_n 2, 1) := by decide +kernel
theorem dl_552 : decode code 552 = .ok (.invokevirtual 91, 3) := by decide +kernel
theorem dl_555 : decode code 555 = .ok (.iload 5, 2) := by decide +kernel
theorem dl_557 : decode code 557 = .ok (.if_icmp .eq 5, 3) := by decide +kernel
theorem dl_560 : decode code 560 = .ok (.iconst 0, 1) := by decide +kernel
theorem dl_561 : decode code 561 = .ok (.ireturn, 1) := by decide +kernel
theorem dl_562 : decode code 562 = .ok (.iload 5, 2) := by decide +kernel
theorem dl_564 : decode code 564 = .ok (.ifCond .ne 15, 3) := by decide +kernel
theorem dl_567 : decode code 567 = .ok (.aload_n 3, 1) := by decide +kernel
theorem dl_568 : decode code 568 = .ok (.iconst 0, 1) := by decide +kernel
theorem dl_569 : decode code 569 = .ok (.laload, 1) := by decide +kernel
theorem dl_570 : decode code 570 = .ok (.iload 6, 2) := by decide +kernel
theorem dl_572 : decode code 572 = .ok (.i2l, 1) := by decide +kernel
theorem dl_573 : decode code 573 = .ok (.lcmp, 1) := by decide +kernel
theorem dl_574 : decode code 574 = .ok (.ifCond .eq 5, 3) := by decide +kernel
theorem dl_577 : decode code 577 = .ok (.iconst 0, 1) := by decide +kernel
theorem dl_578 : decode code 578 = .ok (.ireturn, 1) := by decide +kernel
theorem dl_579 : decode code 579 = .ok (.goto 1192, 3) := by decide +kernel
theorem dl_582 : decode code 582 = .ok (.aload_n 1, 1) := by decide +kernel
theorem dl_583 : decode code 583 = .ok (.invokevirtual 114, 3) := by decide +kernel
theorem dl_586 : decode code 586 = .ok (.aload_n 2, 1) := by decide +kernel
theorem dl_587 : decode code 587 = .ok (.invokevirtual 117, 3) := by decide +kernel
theorem dl_590 : decode code 590 = .ok (.if_icmp .eq 1181, 3) := by decide +kernel
theorem dl_593 : decode code 593 = .ok (.iconst 0, 1) := by decide +kernel
theorem dl_594 : decode code 594 = .ok (.ireturn, 1) := by decide +kernel
theorem dl_595 : decode code 595 = .ok (.aload_n 1, 1) := by decide +kernel
theorem dl_596 : decode code 596 = .ok (.aload_n 0, 1) := by decide +kernel
theorem dl_597 : decode code 597 = .ok (.iload 4, 2) := by decide +kernel
theorem dl_599 : decode code 599 = .ok (.iconst 1, 1) := by decide +kernel
theorem dl_600 : decode code 600 = .ok (.iadd, 1) := by decide +kernel
theorem dl_601 : decode code 601 = .ok (.iaload, 1) := by decide +kernel
theorem dl_602 : decode code 602 = .ok (.aload_n 0, 1) := by decide +kernel
theorem dl_603 : decode code 603 = .ok (.iload 4, 2) := by decide +kernel
theorem dl_605 : decode code 605 = .ok (.iconst 2, 1) := by decide +kernel
theorem dl_606 : decode code 606 = .ok (.iadd, 1) := by decide +kernel
theorem dl_607 : decode code 607 = .ok (.iaload, 1) := by decide +kernel
theorem dl_608 : decode code 608 = .ok (.aload_n 3, 1) := by decide +kernel
theorem dl_609 : decode code 609 = .ok (.invokestatic 118, 3) := by decide +kernel
theorem dl_612 : decode code 612 = .ok (.istore 5, 2) := by decide +kernel
theorem dl_614 : decode code 614 = .ok (.aload_n 2, 1) := by decide +kernel
theorem dl_615 : decode code 615 = .ok (.aload_n 0, 1) := by decide +kernel
theorem dl_616 : decode code 616 = .ok (.iload 4, 2) := by decide +kernel
theorem dl_618 : decode code 618 = .ok (.iconst 1, 1) := by decide +kernel
theorem dl_619 : decode code 619 = .ok (.iadd, 1) := by decide +kernel
theorem dl_620 : decode code 620 = .ok (.iaload, 1) := by decide +kernel
theorem dl_621 : decode code 621 = .ok (.aload_n 0, 1) := by decide +kernel
theorem dl_622 : decode code 622 = .ok (.iload 4, 2) := by decide +kernel
theorem dl_624 : decode code 624 = .ok (.iconst 2, 1) := by decide +kernel
theorem dl_625 : decode code 625 = .ok (.iadd, 1) := by decide +kernel
theorem dl_626 : decode code 626 = .ok (.iaload, 1) := by decide +kernel
theorem dl_627 : decode code 627 = .ok (.invokevirtual 120, 3) := by decide +kernel
theorem dl_630 : decode code 630 = .ok (.istore 6, 2) := by decide +kernel
theorem dl_632 : decode code 632 = .ok (.aload_n 2, 1) := by decide +kernel
theorem dl_633 : decode code 633 = .ok (.invokevirtual 91, 3) := by decide +kernel
theorem dl_636 : decode code 636 = .ok (.iload 5, 2) := by decide +kernel
theorem dl_638 : decode code 638 = .ok (.if_icmp .eq 5, 3) := by decide +kernel
theorem dl_641 : decode code 641 = .ok (.iconst 0, 1) := by decide +kernel
theorem dl_642 : decode code 642 = .ok (.ireturn, 1) := by decide +kernel
theorem dl_643 : decode code 643 = .ok (.iload 5, 2) := by decide +kernel
theorem dl_645 : decode code 645 = .ok (.ifCond .ne 15, 3) := by decide +kernel
theorem dl_648 : decode code 648 = .ok (.aload_n 3, 1) := by decide +kernel
theorem dl_649 : decode code 649 = .ok (.iconst 0, 1) := by decide +kernel
theorem dl_650 : decode code 650 = .ok (.laload, 1) := by decide +kernel
theorem dl_651 : decode code 651 = .ok (.iload 6, 2) := by decide +kernel
theorem dl_653 : decode code 653 = .ok (.i2l, 1) := by decide +kernel
theorem dl_654 : decode code 654 = .ok (.lcmp, 1) := by decide +kernel
theorem dl_655 : decode code 655 = .ok (.ifCond .eq 5, 3) := by decide +kernel
theorem dl_658 : decode code 658 = .ok (.iconst 0, 1) := by decide +kernel
theorem dl_659 : decode code 659 = .ok (.ireturn, 1) := by decide +kernel
theorem dl_660 : decode code 660 = .ok (.goto 1111, 3) := by decide +kernel
theorem dl_663 : decode code 663 = .ok (.aload_n 1, 1) := by decide +kernel
theorem dl_664 : decode code 664 = .ok (.aload_n 0, 1) := by decide +kernel
theorem dl_665 : decode code 665 = .ok (.iload 4, 2) := by decide +kernel
theorem dl_667 : decode code 667 = .ok (.iconst 1, 1) := by decide +kernel
theorem dl_668 : decode code 668 = .ok (.iadd, 1) := by decide +kernel
theorem dl_669 : decode code 669 = .ok (.iaload, 1) := by decide +kernel
theorem dl_670 : decode code 670 = .ok (.aload_n 0, 1) := by decide +kernel
theorem dl_671 : decode code 671 = .ok (.iload 4, 2) := by decide +kernel
theorem dl_673 : decode code 673 = .ok (.iconst 2, 1) := by decide +kernel
theorem dl_674 : decode code 674 = .ok (.iadd, 1) := by decide +kernel
theorem dl_675 : decode code 675 = .ok (.iaload, 1) := by decide +kernel
theorem dl_676 : decode code 676 = .ok (.aload_n 0, 1) := by decide +kernel
theorem dl_677 : decode code 677 = .ok (.iload 4, 2) := by decide +kernel
theorem dl_679 : decode code 679 = .ok (.iconst 3, 1) := by decide +kernel
theorem dl_680 : decode code 680 = .ok (.iadd, 1) := by decide +kernel
theorem dl_681 : decode code 681 = .ok (.iaload, 1) := by decide +kernel
theorem dl_682 : decode code 682 = .ok (.aload_n 3, 1) := by decide +kernel
theorem dl_683 : decode code 683 = .ok (.invokestatic 121, 3) := by decide +kernel
theorem dl_686 : decode code 686 = .ok (.istore 5, 2) := by decide +kernel
theorem dl_688 : decode code 688 = .ok (.aload_n 2, 1) := by decide +kernel
theorem dl_689 : decode code 689 = .ok (.aload_n 0, 1) := by decide +kernel
theorem dl_690 : decode code 690 = .ok (.iload 4, 2) := by decide +kernel
theorem dl_692 : decode code 692 = .ok (.iconst 1, 1) := by decide +kernel
theorem dl_693 : decode code 693 = .ok (.iadd, 1) := by decide +kernel
theorem dl_694 : decode code 694 = .ok (.iaload, 1) := by decide +kernel
theorem dl_695 : decode code 695 = .ok (.aload_n 0, 1) := by decide +kernel
theorem dl_696 : decode code 696 = .ok (.iload 4, 2) := by decide +kernel
theorem dl_698 : decode code 698 = .ok (.iconst 2, 1) := by decide +kernel
theorem dl_699 : decode code 699 = .ok (.iadd, 1) := by decide +kernel
theorem dl_700 : decode code 700 = .ok (.iaload, 1) := by decide +kernel
theorem dl_701 : decode code 701 = .ok (.aload_n 0, 1) := by decide +kernel
theorem dl_702 : decode code 702 = .ok (.iload 4, 2) := by decide +kernel
theorem dl_704 : decode code 704 = .ok (.iconst 3, 1) := by decide +kernel
theorem dl_705 : decode code 705 = .ok (.iadd, 1) := by decide +kernel
theorem dl_706 : decode code 706 = .ok (.iaload, 1) := by decide +kernel
theorem dl_707 : decode code 707 = .ok (.invokevirtual 124, 3) := by decide +kernel
theorem dl_710 : decode code 710 = .ok (.istore 6, 2) := by decide +kernel
theorem dl_712 : decode code 712 = .ok (.aload_n 2, 1) := by decide +kernel
theorem dl_713 : decode code 713 = .ok (.invokevirtual 91, 3) := by decide +kernel
theorem dl_716 : decode code 716 = .ok (.iload 5, 2) := by decide +kernel
theorem dl_718 : decode code 718 = .ok (.if_icmp .eq 5, 3) := by decide +kernel
theorem dl_721 : decode code 721 = .ok (.iconst 0, 1) := by decide +kernel
theorem dl_722 : decode code 722 = .ok (.ireturn, 1) := by decide +kernel
theorem dl_723 : decode code 723 = .ok (.iload 5, 2) := by decide +kernel
theorem dl_725 : decode code 725 = .ok (.ifCond .ne 22, 3) := by decide +kernel
theorem dl_728 : decode code 728 = .ok (.aload_n 3, 1) := by decide +kernel
theorem dl_729 : decode code 729 = .ok (.iconst 0, 1) := by decide +kernel
theorem dl_730 : decode code 730 = .ok (.laload, 1) := by decide +kernel
theorem dl_731 : decode code 731 = .ok (.iload 6, 2) := by decide +kernel
theorem dl_733 : decode code 733 = .ok (.ifCond .eq 7, 3) := by decide +kernel
theorem dl_736 : decode code 736 = .ok (.lconst 1, 1) := by decide +kernel
theorem dl_737 : decode code 737 = .ok (.goto 4, 3) := by decide +kernel
theorem dl_740 : decode code 740 = .ok (.lconst 0, 1) := by decide +kernel
theorem dl_741 : decode code 741 = .ok (.lcmp, 1) := by decide +kernel
theorem dl_742 : decode code 742 = .ok (.ifCond .eq 5, 3) := by decide +kernel
theorem dl_745 : decode code 745 = .ok (.iconst 0, 1) := by decide +kernel
theorem dl_746 : decode code 746 = .ok (.ireturn, 1) := by decide +kernel
theorem dl_747 : decode code 747 = .ok (.goto 1024, 3) := by decide +kernel
theorem dl_750 : decode code 750 = .ok (.aload_n 1, 1) := by decide +kernel
theorem dl_751 : decode code 751 = .ok (.aload_n 0, 1) := by decide +kernel
theorem dl_752 : decode code 752 = .ok (.iload 4, 2) := by decide +kernel
theorem dl_754 : decode code 754 = .ok (.iconst 1, 1) := by decide +kernel
theorem dl_755 : decode code 755 = .ok (.iadd, 1) := by decide +kernel
theorem dl_756 : decode code 756 = .ok (.iaload, 1) := by decide +kernel
theorem dl_757 : decode code 757 = .ok (.aload_n 0, 1) := by decide +kernel
theorem dl_758 : decode code 758 = .ok (.iload 4, 2) := by decide +kernel
theorem dl_760 : decode code 760 = .ok (.iconst 2, 1) := by decide +kernel
theorem dl_761 : decode code 761 = .ok (.iadd, 1) := by decide +kernel
theorem dl_762 : decode code 762 = .ok (.iaload, 1) := by decide +kernel
theorem dl_763 : decode code 763 = .ok (.aload_n 3, 1) := by decide +kernel
theorem dl_764 : decode code 764 = .ok (.invokestatic 125, 3) := by decide +kernel
theorem dl_767 : decode code 767 = .ok (.istore 5, 2) := by decide +kernel
theorem dl_769 : decode code 769 = .ok (.aload_n 2, 1) := by decide +kernel
theorem dl_770 : decode code 770 = .ok (.aload_n 0, 1) := by decide +kernel
theorem dl_771 : decode code 771 = .ok (.iload 4, 2) := by decide +kernel
theorem dl_773 : decode code 773 = .ok (.iconst 1, 1) := by decide +kernel
theorem dl_774 : decode code 774 = .ok (.iadd, 1) := by decide +kernel
theorem dl_775 : decode code 775 = .ok (.iaload, 1) := by decide +kernel
theorem dl_776 : decode code 776 = .ok (.aload_n 0, 1) := by decide +kernel
theorem dl_777 : decode code 777 = .ok (.iload 4, 2) := by decide +kernel
theorem dl_779 : decode code 779 = .ok (.iconst 2, 1) := by decide +kernel
theorem dl_780 : decode code 780 = .ok (.iadd, 1) := by decide +kernel
theorem dl_781 : decode code 781 = .ok (.iaload, 1) := by decide +kernel
theorem dl_782 : decode code 782 = .ok (.invokevirtual 127, 3) := by decide +kernel
theorem dl_785 : decode code 785 = .ok (.istore 6, 2) := by decide +kernel
theorem dl_787 : decode code 787 = .ok (.aload_n 2, 1) := by decide +kernel
theorem dl_788 : decode code 788 = .ok (.invokevirtual 91, 3) := by decide +kernel
theorem dl_791 : decode code 791 = .ok (.iload 5, 2) := by decide +kernel
theorem dl_793 : decode code 793 = .ok (.if_icmp .eq 5, 3) := by decide +kernel
theorem dl_796 : decode code 796 = .ok (.iconst 0, 1) := by decide +kernel
theorem dl_797 : decode code 797 = .ok (.ireturn, 1) := by decide +kernel
theorem dl_798 : decode code 798 = .ok (.iload 5, 2) := by decide +kernel
theorem dl_800 : decode code 800 = .ok (.ifCond .ne 15, 3) := by decide +kernel
theorem dl_803 : decode code 803 = .ok (.aload_n 3, 1) := by decide +kernel
theorem dl_804 : decode code 804 = .ok (.iconst 0, 1) := by decide +kernel
theorem dl_805 : decode code 805 = .ok (.laload, 1) := by decide +kernel
theorem dl_806 : decode code 806 = .ok (.iload 6, 2) := by decide +kernel
theorem dl_808 : decode code 808 = .ok (.i2l, 1) := by decide +kernel
theorem dl_809 : decode code 809 = .ok (.lcmp, 1) := by decide +kernel
theorem dl_810 : decode code 810 = .ok (.ifCond .eq 5, 3) := by decide +kernel
theorem dl_813 : decode code 813 = .ok (.iconst 0, 1) := by decide +kernel
theorem dl_814 : decode code 814 = .ok (.ireturn, 1) := by decide +kernel
theorem dl_815 : decode code 815 = .ok (.goto 956, 3) := by decide +kernel
theorem dl_818 : decode code 818 = .ok (.aload_n 1, 1) := by decide +kernel
theorem dl_819 : decode code 819 = .ok (.aload_n 0, 1) := by decide +kernel
theorem dl_820 : decode code 820 = .ok (.iload 4, 2) := by decide +kernel
theorem dl_822 : decode code 822 = .ok (.iconst 1, 1) := by decide +kernel
theorem dl_823 : decode code 823 = .ok (.iadd, 1) := by decide +kernel
theorem dl_824 : decode code 824 = .ok (.iaload, 1) := by decide +kernel
theorem dl_825 : decode code 825 = .ok (.aload_n 0, 1) := by decide +kernel
theorem dl_826 : decode code 826 = .ok (.iload 4, 2) := by decide +kernel
theorem dl_828 : decode code 828 = .ok (.iconst 2, 1) := by decide +kernel
theorem dl_829 : decode code 829 = .ok (.iadd, 1) := by decide +kernel
theorem dl_830 : decode code 830 = .ok (.iaload, 1) := by decide +kernel
theorem dl_831 : decode code 831 = .ok (.aload_n 0, 1) := by decide +kernel
theorem dl_832 : decode code 832 = .ok (.iload 4, 2) := by decide +kernel
theorem dl_834 : decode code 834 = .ok (.iconst 3, 1) := by decide +kernel
theorem dl_835 : decode code 835 = .ok (.iadd, 1) := by decide +kernel
theorem dl_836 : decode code 836 = .ok (.iaload, 1) := by decide +kernel
theorem dl_837 : decode code 837 = .ok (.aload_n 3, 1) := by decide +kernel
theorem dl_838 : decode code 838 = .ok (.invokestatic 128, 3) := by decide +kernel
theorem dl_841 : decode code 841 = .ok (.istore 5, 2) := by decide +kernel
theorem dl_843 : decode code 843 = .ok (.aload_n 2, 1) := by decide +kernel
theorem dl_844 : decode code 844 = .ok (.aload_n 0, 1) := by decide +kernel
theorem dl_845 : decode code 845 = .ok (.iload 4, 2) := by decide +kernel
theorem dl_847 : decode code 847 = .ok (.iconst 1, 1) := by decide +kernel
theorem dl_848 : decode code 848 = .ok (.iadd, 1) := by decide +kernel
theorem dl_849 : decode code 849 = .ok (.iaload, 1) := by decide +kernel
theorem dl_850 : decode code 850 = .ok (.aload_n 0, 1) := by decide +kernel
theorem dl_851 : decode code 851 = .ok (.iload 4, 2) := by decide +kernel
theorem dl_853 : decode code 853 = .ok (.iconst 2, 1) := by decide +kernel
theorem dl_854 : decode code 854 = .ok (.iadd, 1) := by decide +kernel
theorem dl_855 : decode code 855 = .ok (.iaload, 1) := by decide +kernel
theorem dl_856 : decode code 856 = .ok (.aload_n 0, 1) := by decide +kernel
theorem dl_857 : decode code 857 = .ok (.iload 4, 2) := by decide +kernel
theorem dl_859 : decode code 859 = .ok (.iconst 3, 1) := by decide +kernel
theorem dl_860 : decode code 860 = .ok (.iadd, 1) := by decide +kernel
theorem dl_861 : decode code 861 = .ok (.iaload, 1) := by decide +kernel
theorem dl_862 : decode code 862 = .ok (.invokevirtual 130, 3) := by decide +kernel
theorem dl_865 : decode code 865 = .ok (.istore 6, 2) := by decide +kernel
theorem dl_867 : decode code 867 = .ok (.aload_n 2, 1) := by decide +kernel
theorem dl_868 : decode code 868 = .ok (.invokevirtual 91, 3) := by decide +kernel
theorem dl_871 : decode code 871 = .ok (.iload 5, 2) := by decide +kernel
theorem dl_873 : decode code 873 = .ok (.if_icmp .eq 5, 3) := by decide +kernel
theorem dl_876 : decode code 876 = .ok (.iconst 0, 1) := by decide +kernel
theorem dl_877 : decode code 877 = .ok (.ireturn, 1) := by decide +kernel
theorem dl_878 : decode code 878 = .ok (.iload 5, 2) := by decide +kernel
theorem dl_880 : decode code 880 = .ok (.ifCond .ne 15, 3) := by decide +kernel
theorem dl_883 : decode code 883 = .ok (.aload_n 3, 1) := by decide +kernel
theorem dl_884 : decode code 884 = .ok (.iconst 0, 1) := by decide +kernel
theorem dl_885 : decode code 885 = .ok (.laload, 1) := by decide +kernel
theorem dl_886 : decode code 886 = .ok (.iload 6, 2) := by decide +kernel
theorem dl_888 : decode code 888 = .ok (.i2l, 1) := by decide +kernel
theorem dl_889 : decode code 889 = .ok (.lcmp, 1) := by decide +kernel
theorem dl_890 : decode code 890 = .ok (.ifCond .eq 5, 3) := by decide +kernel
theorem dl_893 : decode code 893 = .ok (.iconst 0, 1) := by decide +kernel
theorem dl_894 : decode code 894 = .ok (.ireturn, 1) := by decide +kernel
theorem dl_895 : decode code 895 = .ok (.goto 876, 3) := by decide +kernel
theorem dl_898 : decode code 898 = .ok (.aload_n 1, 1) := by decide +kernel
theorem dl_899 : decode code 899 = .ok (.aload_n 0, 1) := by decide +kernel
theorem dl_900 : decode code 900 = .ok (.iload 4, 2) := by decide +kernel
theorem dl_902 : decode code 902 = .ok (.iconst 1, 1) := by decide +kernel
theorem dl_903 : decode code 903 = .ok (.iadd, 1) := by decide +kernel
theorem dl_904 : decode code 904 = .ok (.iaload, 1) := by decide +kernel
theorem dl_905 : decode code 905 = .ok (.aload_n 0, 1) := by decide +kernel
theorem dl_906 : decode code 906 = .ok (.iload 4, 2) := by decide +kernel
theorem dl_908 : decode code 908 = .ok (.iconst 2, 1) := by decide +kernel
theorem dl_909 : decode code 909 = .ok (.iadd, 1) := by decide +kernel
theorem dl_910 : decode code 910 = .ok (.iaload, 1) := by decide +kernel
theorem dl_911 : decode code 911 = .ok (.aload_n 3, 1) := by decide +kernel
theorem dl_912 : decode code 912 = .ok (.invokestatic 131, 3) := by decide +kernel
theorem dl_915 : decode code 915 = .ok (.istore 5, 2) := by decide +kernel
theorem dl_917 : decode code 917 = .ok (.aload_n 2, 1) := by decide +kernel
theorem dl_918 : decode code 918 = .ok (.aload_n 0, 1) := by decide +kernel
theorem dl_919 : decode code 919 = .ok (.iload 4, 2) := by decide +kernel
theorem dl_921 : decode code 921 = .ok (.iconst 1, 1) := by decide +kernel
theorem dl_922 : decode code 922 = .ok (.iadd, 1) := by decide +kernel
theorem dl_923 : decode code 923 = .ok (.iaload, 1) := by decide +kernel
theorem dl_924 : decode code 924 = .ok (.aload_n 0, 1) := by decide +kernel
theorem dl_925 : decode code 925 = .ok (.iload 4, 2) := by decide +kernel
theorem dl_927 : decode code 927 = .ok (.iconst 2, 1) := by decide +kernel
theorem dl_928 : decode code 928 = .ok (.iadd, 1) := by decide +kernel
theorem dl_929 : decode code 929 = .ok (.iaload, 1) := by decide +kernel
theorem dl_930 : decode code 930 = .ok (.invokevirtual 133, 3) := by decide +kernel
theorem dl_933 : decode code 933 = .ok (.istore 6, 2) := by decide +kernel
theorem dl_935 : decode code 935 = .ok (.aload_n 2, 1) := by decide +kernel
theorem dl_936 : decode code 936 = .ok (.invokevirtual 91, 3) := by decide +kernel
theorem dl_939 : decode code 939 = .ok (.iload 5, 2) := by decide +kernel
theorem dl_941 : decode code 941 = .ok (.if_icmp .eq 5, 3) := by decide +kernel
theorem dl_944 : decode code 944 = .ok (.iconst 0, 1) := by decide +kernel
theorem dl_945 : decode code 945 = .ok (.ireturn, 1) := by decide +kernel
theorem dl_946 : decode code 946 = .ok (.iload 5, 2) := by decide +kernel
theorem dl_948 : decode code 948 = .ok (.ifCond .ne 15, 3) := by decide +kernel
theorem dl_951 : decode code 951 = .ok (.aload_n 3, 1) := by decide +kernel
