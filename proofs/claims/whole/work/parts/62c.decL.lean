theorem dL_law_742 : decode code 742 = .ok (.aload_n 1, 1) := by decide +kernel
theorem dL_law_743 : decode code 743 = .ok (.aload_n 0, 1) := by decide +kernel
theorem dL_law_744 : decode code 744 = .ok (.iload_n 3, 1) := by decide +kernel
theorem dL_law_745 : decode code 745 = .ok (.iconst 1, 1) := by decide +kernel
theorem dL_law_746 : decode code 746 = .ok (.iadd, 1) := by decide +kernel
theorem dL_law_747 : decode code 747 = .ok (.iaload, 1) := by decide +kernel
theorem dL_law_748 : decode code 748 = .ok (.aload_n 0, 1) := by decide +kernel
theorem dL_law_749 : decode code 749 = .ok (.iload_n 3, 1) := by decide +kernel
theorem dL_law_750 : decode code 750 = .ok (.iconst 2, 1) := by decide +kernel
theorem dL_law_751 : decode code 751 = .ok (.iadd, 1) := by decide +kernel
theorem dL_law_752 : decode code 752 = .ok (.iaload, 1) := by decide +kernel
theorem dL_law_753 : decode code 753 = .ok (.aload_n 0, 1) := by decide +kernel
theorem dL_law_754 : decode code 754 = .ok (.iload_n 3, 1) := by decide +kernel
theorem dL_law_755 : decode code 755 = .ok (.iconst 3, 1) := by decide +kernel
theorem dL_law_756 : decode code 756 = .ok (.iadd, 1) := by decide +kernel
theorem dL_law_757 : decode code 757 = .ok (.iaload, 1) := by decide +kernel
theorem dL_law_758 : decode code 758 = .ok (.invokevirtual 105, 3) := by decide +kernel
theorem dL_law_761 : decode code 761 = .ok (.aload_n 2, 1) := by decide +kernel
theorem dL_law_762 : decode code 762 = .ok (.aload_n 0, 1) := by decide +kernel
theorem dL_law_763 : decode code 763 = .ok (.iload_n 3, 1) := by decide +kernel
theorem dL_law_764 : decode code 764 = .ok (.iconst 1, 1) := by decide +kernel
theorem dL_law_765 : decode code 765 = .ok (.iadd, 1) := by decide +kernel
theorem dL_law_766 : decode code 766 = .ok (.iaload, 1) := by decide +kernel
theorem dL_law_767 : decode code 767 = .ok (.aload_n 0, 1) := by decide +kernel
theorem dL_law_768 : decode code 768 = .ok (.iload_n 3, 1) := by decide +kernel
theorem dL_law_769 : decode code 769 = .ok (.iconst 2, 1) := by decide +kernel
theorem dL_law_770 : decode code 770 = .ok (.iadd, 1) := by decide +kernel
theorem dL_law_771 : decode code 771 = .ok (.iaload, 1) := by decide +kernel
theorem dL_law_772 : decode code 772 = .ok (.aload_n 0, 1) := by decide +kernel
theorem dL_law_773 : decode code 773 = .ok (.iload_n 3, 1) := by decide +kernel
theorem dL_law_774 : decode code 774 = .ok (.iconst 3, 1) := by decide +kernel
theorem dL_law_775 : decode code 775 = .ok (.iadd, 1) := by decide +kernel
theorem dL_law_776 : decode code 776 = .ok (.iaload, 1) := by decide +kernel
theorem dL_law_777 : decode code 777 = .ok (.invokevirtual 108, 3) := by decide +kernel
theorem dL_law_780 : decode code 780 = .ok (.if_icmp .eq 469, 3) := by decide +kernel
theorem dL_law_785 : decode code 785 = .ok (.aload_n 1, 1) := by decide +kernel
theorem dL_law_786 : decode code 786 = .ok (.invokevirtual 109, 3) := by decide +kernel
theorem dL_law_789 : decode code 789 = .ok (.aload_n 2, 1) := by decide +kernel
theorem dL_law_790 : decode code 790 = .ok (.invokevirtual 112, 3) := by decide +kernel
theorem dL_law_793 : decode code 793 = .ok (.if_icmp .eq 456, 3) := by decide +kernel
theorem dL_law_798 : decode code 798 = .ok (.aload_n 1, 1) := by decide +kernel
theorem dL_law_799 : decode code 799 = .ok (.invokevirtual 113, 3) := by decide +kernel
theorem dL_law_802 : decode code 802 = .ok (.aload_n 2, 1) := by decide +kernel
theorem dL_law_803 : decode code 803 = .ok (.invokevirtual 116, 3) := by decide +kernel
theorem dL_law_806 : decode code 806 = .ok (.if_icmp .eq 443, 3) := by decide +kernel
theorem dL_law_811 : decode code 811 = .ok (.aload_n 1, 1) := by decide +kernel
theorem dL_law_812 : decode code 812 = .ok (.aload_n 0, 1) := by decide +kernel
theorem dL_law_813 : decode code 813 = .ok (.iload_n 3, 1) := by decide +kernel
theorem dL_law_814 : decode code 814 = .ok (.iconst 1, 1) := by decide +kernel
theorem dL_law_815 : decode code 815 = .ok (.iadd, 1) := by decide +kernel
theorem dL_law_816 : decode code 816 = .ok (.iaload, 1) := by decide +kernel
theorem dL_law_817 : decode code 817 = .ok (.aload_n 0, 1) := by decide +kernel
theorem dL_law_818 : decode code 818 = .ok (.iload_n 3, 1) := by decide +kernel
theorem dL_law_819 : decode code 819 = .ok (.iconst 2, 1) := by decide +kernel
theorem dL_law_820 : decode code 820 = .ok (.iadd, 1) := by decide +kernel
theorem dL_law_821 : decode code 821 = .ok (.iaload, 1) := by decide +kernel
theorem dL_law_822 : decode code 822 = .ok (.invokevirtual 117, 3) := by decide +kernel
theorem dL_law_825 : decode code 825 = .ok (.aload_n 2, 1) := by decide +kernel
theorem dL_law_826 : decode code 826 = .ok (.aload_n 0, 1) := by decide +kernel
theorem dL_law_827 : decode code 827 = .ok (.iload_n 3, 1) := by decide +kernel
theorem dL_law_828 : decode code 828 = .ok (.iconst 1, 1) := by decide +kernel
theorem dL_law_829 : decode code 829 = .ok (.iadd, 1) := by decide +kernel
theorem dL_law_830 : decode code 830 = .ok (.iaload, 1) := by decide +kernel
theorem dL_law_831 : decode code 831 = .ok (.aload_n 0, 1) := by decide +kernel
theorem dL_law_832 : decode code 832 = .ok (.iload_n 3, 1) := by decide +kernel
theorem dL_law_833 : decode code 833 = .ok (.iconst 2, 1) := by decide +kernel
theorem dL_law_834 : decode code 834 = .ok (.iadd, 1) := by decide +kernel
theorem dL_law_835 : decode code 835 = .ok (.iaload, 1) := by decide +kernel
theorem dL_law_836 : decode code 836 = .ok (.invokevirtual 120, 3) := by decide +kernel
theorem dL_law_839 : decode code 839 = .ok (.if_icmp .eq 410, 3) := by decide +kernel
theorem dL_law_844 : decode code 844 = .ok (.aload_n 1, 1) := by decide +kernel
theorem dL_law_845 : decode code 845 = .ok (.aload_n 0, 1) := by decide +kernel
theorem dL_law_846 : decode code 846 = .ok (.iload_n 3, 1) := by decide +kernel
theorem dL_law_847 : decode code 847 = .ok (.iconst 1, 1) := by decide +kernel
theorem dL_law_848 : decode code 848 = .ok (.iadd, 1) := by decide +kernel
theorem dL_law_849 : decode code 849 = .ok (.iaload, 1) := by decide +kernel
theorem dL_law_850 : decode code 850 = .ok (.invokevirtual 121, 3) := by decide +kernel
theorem dL_law_853 : decode code 853 = .ok (.aload_n 2, 1) := by decide +kernel
theorem dL_law_854 : decode code 854 = .ok (.aload_n 0, 1) := by decide +kernel
theorem dL_law_855 : decode code 855 = .ok (.iload_n 3, 1) := by decide +kernel
theorem dL_law_856 : decode code 856 = .ok (.iconst 1, 1) := by decide +kernel
theorem dL_law_857 : decode code 857 = .ok (.iadd, 1) := by decide +kernel
theorem dL_law_858 : decode code 858 = .ok (.iaload, 1) := by decide +kernel
theorem dL_law_859 : decode code 859 = .ok (.invokevirtual 124, 3) := by decide +kernel
theorem dL_law_862 : decode code 862 = .ok (.if_icmp .eq 387, 3) := by decide +kernel
theorem dL_law_867 : decode code 867 = .ok (.aload_n 1, 1) := by decide +kernel
theorem dL_law_868 : decode code 868 = .ok (.aload_n 0, 1) := by decide +kernel
theorem dL_law_869 : decode code 869 = .ok (.iload_n 3, 1) := by decide +kernel
theorem dL_law_870 : decode code 870 = .ok (.iconst 1, 1) := by decide +kernel
theorem dL_law_871 : decode code 871 = .ok (.iadd, 1) := by decide +kernel
theorem dL_law_872 : decode code 872 = .ok (.iaload, 1) := by decide +kernel
theorem dL_law_873 : decode code 873 = .ok (.aload_n 0, 1) := by decide +kernel
theorem dL_law_874 : decode code 874 = .ok (.iload_n 3, 1) := by decide +kernel
theorem dL_law_875 : decode code 875 = .ok (.iconst 2, 1) := by decide +kernel
theorem dL_law_876 : decode code 876 = .ok (.iadd, 1) := by decide +kernel
theorem dL_law_877 : decode code 877 = .ok (.iaload, 1) := by decide +kernel
theorem dL_law_878 : decode code 878 = .ok (.aload_n 0, 1) := by decide +kernel
theorem dL_law_879 : decode code 879 = .ok (.iload_n 3, 1) := by decide +kernel
theorem dL_law_880 : decode code 880 = .ok (.iconst 3, 1) := by decide +kernel
theorem dL_law_881 : decode code 881 = .ok (.iadd, 1) := by decide +kernel
theorem dL_law_882 : decode code 882 = .ok (.iaload, 1) := by decide +kernel
theorem dL_law_883 : decode code 883 = .ok (.invokevirtual 125, 3) := by decide +kernel
theorem dL_law_886 : decode code 886 = .ok (.aload_n 2, 1) := by decide +kernel
theorem dL_law_887 : decode code 887 = .ok (.aload_n 0, 1) := by decide +kernel
theorem dL_law_888 : decode code 888 = .ok (.iload_n 3, 1) := by decide +kernel
theorem dL_law_889 : decode code 889 = .ok (.iconst 1, 1) := by decide +kernel
theorem dL_law_890 : decode code 890 = .ok (.iadd, 1) := by decide +kernel
theorem dL_law_891 : decode code 891 = .ok (.iaload, 1) := by decide +kernel
theorem dL_law_892 : decode code 892 = .ok (.aload_n 0, 1) := by decide +kernel
theorem dL_law_893 : decode code 893 = .ok (.iload_n 3, 1) := by decide +kernel
theorem dL_law_894 : decode code 894 = .ok (.iconst 2, 1) := by decide +kernel
theorem dL_law_895 : decode code 895 = .ok (.iadd, 1) := by decide +kernel
theorem dL_law_896 : decode code 896 = .ok (.iaload, 1) := by decide +kernel
theorem dL_law_897 : decode code 897 = .ok (.aload_n 0, 1) := by decide +kernel
theorem dL_law_898 : decode code 898 = .ok (.iload_n 3, 1) := by decide +kernel
theorem dL_law_899 : decode code 899 = .ok (.iconst 3, 1) := by decide +kernel
theorem dL_law_900 : decode code 900 = .ok (.iadd, 1) := by decide +kernel
theorem dL_law_901 : decode code 901 = .ok (.iaload, 1) := by decide +kernel
theorem dL_law_902 : decode code 902 = .ok (.invokevirtual 129, 3) := by decide +kernel
theorem dL_law_905 : decode code 905 = .ok (.lcmp, 1) := by decide +kernel
theorem dL_law_906 : decode code 906 = .ok (.ifCond .eq 343, 3) := by decide +kernel
theorem dL_law_911 : decode code 911 = .ok (.aload_n 1, 1) := by decide +kernel
theorem dL_law_912 : decode code 912 = .ok (.aload_n 0, 1) := by decide +kernel
theorem dL_law_913 : decode code 913 = .ok (.iload_n 3, 1) := by decide +kernel
theorem dL_law_914 : decode code 914 = .ok (.iconst 1, 1) := by decide +kernel
theorem dL_law_915 : decode code 915 = .ok (.iadd, 1) := by decide +kernel
theorem dL_law_916 : decode code 916 = .ok (.iaload, 1) := by decide +kernel
theorem dL_law_917 : decode code 917 = .ok (.aload_n 0, 1) := by decide +kernel
theorem dL_law_918 : decode code 918 = .ok (.iload_n 3, 1) := by decide +kernel
theorem dL_law_919 : decode code 919 = .ok (.iconst 2, 1) := by decide +kernel
theorem dL_law_920 : decode code 920 = .ok (.iadd, 1) := by decide +kernel
theorem dL_law_921 : decode code 921 = .ok (.iaload, 1) := by decide +kernel
theorem dL_law_922 : decode code 922 = .ok (.aload_n 0, 1) := by decide +kernel
theorem dL_law_923 : decode code 923 = .ok (.iload_n 3, 1) := by decide +kernel
theorem dL_law_924 : decode code 924 = .ok (.iconst 3, 1) := by decide +kernel
theorem dL_law_925 : decode code 925 = .ok (.iadd, 1) := by decide +kernel
theorem dL_law_926 : decode code 926 = .ok (.iaload, 1) := by decide +kernel
theorem dL_law_927 : decode code 927 = .ok (.invokevirtual 130, 3) := by decide +kernel
theorem dL_law_930 : decode code 930 = .ok (.aload_n 2, 1) := by decide +kernel
theorem dL_law_931 : decode code 931 = .ok (.aload_n 0, 1) := by decide +kernel
theorem dL_law_932 : decode code 932 = .ok (.iload_n 3, 1) := by decide +kernel
theorem dL_law_933 : decode code 933 = .ok (.iconst 1, 1) := by decide +kernel
theorem dL_law_934 : decode code 934 = .ok (.iadd, 1) := by decide +kernel
theorem dL_law_935 : decode code 935 = .ok (.iaload, 1) := by decide +kernel
theorem dL_law_936 : decode code 936 = .ok (.aload_n 0, 1) := by decide +kernel
theorem dL_law_937 : decode code 937 = .ok (.iload_n 3, 1) := by decide +kernel
theorem dL_law_938 : decode code 938 = .ok (.iconst 2, 1) := by decide +kernel
theorem dL_law_939 : decode code 939 = .ok (.iadd, 1) := by decide +kernel
theorem dL_law_940 : decode code 940 = .ok (.iaload, 1) := by decide +kernel
theorem dL_law_941 : decode code 941 = .ok (.aload_n 0, 1) := by decide +kernel
theorem dL_law_942 : decode code 942 = .ok (.iload_n 3, 1) := by decide +kernel
theorem dL_law_943 : decode code 943 = .ok (.iconst 3, 1) := by decide +kernel
theorem dL_law_944 : decode code 944 = .ok (.iadd, 1) := by decide +kernel
theorem dL_law_945 : decode code 945 = .ok (.iaload, 1) := by decide +kernel
theorem dL_law_946 : decode code 946 = .ok (.invokevirtual 133, 3) := by decide +kernel
theorem dL_law_949 : decode code 949 = .ok (.if_icmp .eq 300, 3) := by decide +kernel
theorem dL_law_954 : decode code 954 = .ok (.aload_n 1, 1) := by decide +kernel
theorem dL_law_955 : decode code 955 = .ok (.aload_n 0, 1) := by decide +kernel
theorem dL_law_956 : decode code 956 = .ok (.iload_n 3, 1) := by decide +kernel
theorem dL_law_957 : decode code 957 = .ok (.iconst 1, 1) := by decide +kernel
theorem dL_law_958 : decode code 958 = .ok (.iadd, 1) := by decide +kernel
theorem dL_law_959 : decode code 959 = .ok (.iaload, 1) := by decide +kernel
theorem dL_law_960 : decode code 960 = .ok (.aload_n 0, 1) := by decide +kernel
theorem dL_law_961 : decode code 961 = .ok (.iload_n 3, 1) := by decide +kernel
theorem dL_law_962 : decode code 962 = .ok (.iconst 2, 1) := by decide +kernel
theorem dL_law_963 : decode code 963 = .ok (.iadd, 1) := by decide +kernel
theorem dL_law_964 : decode code 964 = .ok (.iaload, 1) := by decide +kernel
theorem dL_law_965 : decode code 965 = .ok (.aload_n 0, 1) := by decide +kernel
theorem dL_law_966 : decode code 966 = .ok (.iload_n 3, 1) := by decide +kernel
theorem dL_law_967 : decode code 967 = .ok (.iconst 3, 1) := by decide +kernel
theorem dL_law_968 : decode code 968 = .ok (.iadd, 1) := by decide +kernel
theorem dL_law_969 : decode code 969 = .ok (.iaload, 1) := by decide +kernel
theorem dL_law_970 : decode code 970 = .ok (.invokevirtual 134, 3) := by decide +kernel
theorem dL_law_973 : decode code 973 = .ok (.aload_n 2, 1) := by decide +kernel
theorem dL_law_974 : decode code 974 = .ok (.aload_n 0, 1) := by decide +kernel
theorem dL_law_975 : decode code 975 = .ok (.iload_n 3, 1) := by decide +kernel
theorem dL_law_976 : decode code 976 = .ok (.iconst 1, 1) := by decide +kernel
theorem dL_law_977 : decode code 977 = .ok (.iadd, 1) := by decide +kernel
theorem dL_law_978 : decode code 978 = .ok (.iaload, 1) := by decide +kernel
theorem dL_law_979 : decode code 979 = .ok (.aload_n 0, 1) := by decide +kernel
theorem dL_law_980 : decode code 980 = .ok (.iload_n 3, 1) := by decide +kernel
theorem dL_law_981 : decode code 981 = .ok (.iconst 2, 1) := by decide +kernel
theorem dL_law_982 : decode code 982 = .ok (.iadd, 1) := by decide +kernel
theorem dL_law_983 : decode code 983 = .ok (.iaload, 1) := by decide +kernel
theorem dL_law_984 : decode code 984 = .ok (.aload_n 0, 1) := by decide +kernel
theorem dL_law_985 : decode code 985 = .ok (.iload_n 3, 1) := by decide +kernel
theorem dL_law_986 : decode code 986 = .ok (.iconst 3, 1) := by decide +kernel
theorem dL_law_987 : decode code 987 = .ok (.iadd, 1) := by decide +kernel
theorem dL_law_988 : decode code 988 = .ok (.iaload, 1) := by decide +kernel
theorem dL_law_989 : decode code 989 = .ok (.invokevirtual 137, 3) := by decide +kernel
theorem dL_law_992 : decode code 992 = .ok (.if_icmp .eq 257, 3) := by decide +kernel
theorem dL_law_997 : decode code 997 = .ok (.aload_n 1, 1) := by decide +kernel
theorem dL_law_998 : decode code 998 = .ok (.aload_n 0, 1) := by decide +kernel
theorem dL_law_999 : decode code 999 = .ok (.iload_n 3, 1) := by decide +kernel
theorem dL_law_1000 : decode code 1000 = .ok (.iconst 1, 1) := by decide +kernel
theorem dL_law_1001 : decode code 1001 = .ok (.iadd, 1) := by decide +kernel
