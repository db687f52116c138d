theorem d_Law_law_779 : decode code 779 = .ok (.invokevirtual 90, 3) := by decide +kernel
theorem d_Law_law_782 : decode code 782 = .ok (.aload_n 2, 1) := by decide +kernel
theorem d_Law_law_783 : decode code 783 = .ok (.aload_n 0, 1) := by decide +kernel
theorem d_Law_law_784 : decode code 784 = .ok (.iload_n 3, 1) := by decide +kernel
theorem d_Law_law_785 : decode code 785 = .ok (.iconst 1, 1) := by decide +kernel
theorem d_Law_law_786 : decode code 786 = .ok (.iadd, 1) := by decide +kernel
theorem d_Law_law_787 : decode code 787 = .ok (.iaload, 1) := by decide +kernel
theorem d_Law_law_788 : decode code 788 = .ok (.invokevirtual 93, 3) := by decide +kernel
theorem d_Law_law_791 : decode code 791 = .ok (.if_icmp .eq 608, 3) := by decide +kernel
theorem d_Law_law_794 : decode code 794 = .ok (.iconst 0, 1) := by decide +kernel
theorem d_Law_law_795 : decode code 795 = .ok (.ireturn, 1) := by decide +kernel
theorem d_Law_law_796 : decode code 796 = .ok (.aload_n 1, 1) := by decide +kernel
theorem d_Law_law_797 : decode code 797 = .ok (.aload_n 0, 1) := by decide +kernel
theorem d_Law_law_798 : decode code 798 = .ok (.iload_n 3, 1) := by decide +kernel
theorem d_Law_law_799 : decode code 799 = .ok (.iconst 1, 1) := by decide +kernel
theorem d_Law_law_800 : decode code 800 = .ok (.iadd, 1) := by decide +kernel
theorem d_Law_law_801 : decode code 801 = .ok (.iaload, 1) := by decide +kernel
theorem d_Law_law_802 : decode code 802 = .ok (.invokevirtual 94, 3) := by decide +kernel
theorem d_Law_law_805 : decode code 805 = .ok (.aload_n 2, 1) := by decide +kernel
theorem d_Law_law_806 : decode code 806 = .ok (.aload_n 0, 1) := by decide +kernel
theorem d_Law_law_807 : decode code 807 = .ok (.iload_n 3, 1) := by decide +kernel
theorem d_Law_law_808 : decode code 808 = .ok (.iconst 1, 1) := by decide +kernel
theorem d_Law_law_809 : decode code 809 = .ok (.iadd, 1) := by decide +kernel
theorem d_Law_law_810 : decode code 810 = .ok (.iaload, 1) := by decide +kernel
theorem d_Law_law_811 : decode code 811 = .ok (.invokevirtual 97, 3) := by decide +kernel
theorem d_Law_law_814 : decode code 814 = .ok (.if_icmp .eq 585, 3) := by decide +kernel
theorem d_Law_law_817 : decode code 817 = .ok (.iconst 0, 1) := by decide +kernel
theorem d_Law_law_818 : decode code 818 = .ok (.ireturn, 1) := by decide +kernel
theorem d_Law_law_819 : decode code 819 = .ok (.aload_n 1, 1) := by decide +kernel
theorem d_Law_law_820 : decode code 820 = .ok (.aload_n 0, 1) := by decide +kernel
theorem d_Law_law_821 : decode code 821 = .ok (.iload_n 3, 1) := by decide +kernel
theorem d_Law_law_822 : decode code 822 = .ok (.iconst 1, 1) := by decide +kernel
theorem d_Law_law_823 : decode code 823 = .ok (.iadd, 1) := by decide +kernel
theorem d_Law_law_824 : decode code 824 = .ok (.iaload, 1) := by decide +kernel
theorem d_Law_law_825 : decode code 825 = .ok (.aload_n 0, 1) := by decide +kernel
theorem d_Law_law_826 : decode code 826 = .ok (.iload_n 3, 1) := by decide +kernel
theorem d_Law_law_827 : decode code 827 = .ok (.iconst 2, 1) := by decide +kernel
theorem d_Law_law_828 : decode code 828 = .ok (.iadd, 1) := by decide +kernel
theorem d_Law_law_829 : decode code 829 = .ok (.iaload, 1) := by decide +kernel
theorem d_Law_law_830 : decode code 830 = .ok (.aload_n 0, 1) := by decide +kernel
theorem d_Law_law_831 : decode code 831 = .ok (.iload_n 3, 1) := by decide +kernel
theorem d_Law_law_832 : decode code 832 = .ok (.iconst 3, 1) := by decide +kernel
theorem d_Law_law_833 : decode code 833 = .ok (.iadd, 1) := by decide +kernel
theorem d_Law_law_834 : decode code 834 = .ok (.iaload, 1) := by decide +kernel
theorem d_Law_law_835 : decode code 835 = .ok (.invokevirtual 98, 3) := by decide +kernel
theorem d_Law_law_838 : decode code 838 = .ok (.aload_n 2, 1) := by decide +kernel
theorem d_Law_law_839 : decode code 839 = .ok (.aload_n 0, 1) := by decide +kernel
theorem d_Law_law_840 : decode code 840 = .ok (.iload_n 3, 1) := by decide +kernel
theorem d_Law_law_841 : decode code 841 = .ok (.iconst 1, 1) := by decide +kernel
theorem d_Law_law_842 : decode code 842 = .ok (.iadd, 1) := by decide +kernel
theorem d_Law_law_843 : decode code 843 = .ok (.iaload, 1) := by decide +kernel
theorem d_Law_law_844 : decode code 844 = .ok (.aload_n 0, 1) := by decide +kernel
theorem d_Law_law_845 : decode code 845 = .ok (.iload_n 3, 1) := by decide +kernel
theorem d_Law_law_846 : decode code 846 = .ok (.iconst 2, 1) := by decide +kernel
theorem d_Law_law_847 : decode code 847 = .ok (.iadd, 1) := by decide +kernel
theorem d_Law_law_848 : decode code 848 = .ok (.iaload, 1) := by decide +kernel
theorem d_Law_law_849 : decode code 849 = .ok (.aload_n 0, 1) := by decide +kernel
theorem d_Law_law_850 : decode code 850 = .ok (.iload_n 3, 1) := by decide +kernel
theorem d_Law_law_851 : decode code 851 = .ok (.iconst 3, 1) := by decide +kernel
theorem d_Law_law_852 : decode code 852 = .ok (.iadd, 1) := by decide +kernel
theorem d_Law_law_853 : decode code 853 = .ok (.iaload, 1) := by decide +kernel
theorem d_Law_law_854 : decode code 854 = .ok (.invokevirtual 101, 3) := by decide +kernel
theorem d_Law_law_857 : decode code 857 = .ok (.if_icmp .eq 542, 3) := by decide +kernel
theorem d_Law_law_860 : decode code 860 = .ok (.iconst 0, 1) := by decide +kernel
theorem d_Law_law_861 : decode code 861 = .ok (.ireturn, 1) := by decide +kernel
theorem d_Law_law_862 : decode code 862 = .ok (.aload_n 1, 1) := by decide +kernel
theorem d_Law_law_863 : decode code 863 = .ok (.aload_n 0, 1) := by decide +kernel
theorem d_Law_law_864 : decode code 864 = .ok (.iload_n 3, 1) := by decide +kernel
theorem d_Law_law_865 : decode code 865 = .ok (.iconst 1, 1) := by decide +kernel
theorem d_Law_law_866 : decode code 866 = .ok (.iadd, 1) := by decide +kernel
theorem d_Law_law_867 : decode code 867 = .ok (.iaload, 1) := by decide +kernel
theorem d_Law_law_868 : decode code 868 = .ok (.aload_n 0, 1) := by decide +kernel
theorem d_Law_law_869 : decode code 869 = .ok (.iload_n 3, 1) := by decide +kernel
theorem d_Law_law_870 : decode code 870 = .ok (.iconst 2, 1) := by decide +kernel
theorem d_Law_law_871 : decode code 871 = .ok (.iadd, 1) := by decide +kernel
theorem d_Law_law_872 : decode code 872 = .ok (.iaload, 1) := by decide +kernel
theorem d_Law_law_873 : decode code 873 = .ok (.aload_n 0, 1) := by decide +kernel
theorem d_Law_law_874 : decode code 874 = .ok (.iload_n 3, 1) := by decide +kernel
theorem d_Law_law_875 : decode code 875 = .ok (.iconst 3, 1) := by decide +kernel
theorem d_Law_law_876 : decode code 876 = .ok (.iadd, 1) := by decide +kernel
theorem d_Law_law_877 : decode code 877 = .ok (.iaload, 1) := by decide +kernel
theorem d_Law_law_878 : decode code 878 = .ok (.invokevirtual 102, 3) := by decide +kernel
theorem d_Law_law_881 : decode code 881 = .ok (.aload_n 2, 1) := by decide +kernel
theorem d_Law_law_882 : decode code 882 = .ok (.aload_n 0, 1) := by decide +kernel
theorem d_Law_law_883 : decode code 883 = .ok (.iload_n 3, 1) := by decide +kernel
theorem d_Law_law_884 : decode code 884 = .ok (.iconst 1, 1) := by decide +kernel
theorem d_Law_law_885 : decode code 885 = .ok (.iadd, 1) := by decide +kernel
theorem d_Law_law_886 : decode code 886 = .ok (.iaload, 1) := by decide +kernel
theorem d_Law_law_887 : decode code 887 = .ok (.aload_n 0, 1) := by decide +kernel
theorem d_Law_law_888 : decode code 888 = .ok (.iload_n 3, 1) := by decide +kernel
theorem d_Law_law_889 : decode code 889 = .ok (.iconst 2, 1) := by decide +kernel
theorem d_Law_law_890 : decode code 890 = .ok (.iadd, 1) := by decide +kernel
theorem d_Law_law_891 : decode code 891 = .ok (.iaload, 1) := by decide +kernel
theorem d_Law_law_892 : decode code 892 = .ok (.aload_n 0, 1) := by decide +kernel
theorem d_Law_law_893 : decode code 893 = .ok (.iload_n 3, 1) := by decide +kernel
theorem d_Law_law_894 : decode code 894 = .ok (.iconst 3, 1) := by decide +kernel
theorem d_Law_law_895 : decode code 895 = .ok (.iadd, 1) := by decide +kernel
theorem d_Law_law_896 : decode code 896 = .ok (.iaload, 1) := by decide +kernel
theorem d_Law_law_897 : decode code 897 = .ok (.invokevirtual 105, 3) := by decide +kernel
theorem d_Law_law_900 : decode code 900 = .ok (.if_icmp .eq 499, 3) := by decide +kernel
theorem d_Law_law_903 : decode code 903 = .ok (.iconst 0, 1) := by decide +kernel
theorem d_Law_law_904 : decode code 904 = .ok (.ireturn, 1) := by decide +kernel
theorem d_Law_law_905 : decode code 905 = .ok (.aload_n 1, 1) := by decide +kernel
theorem d_Law_law_906 : decode code 906 = .ok (.aload_n 0, 1) := by decide +kernel
theorem d_Law_law_907 : decode code 907 = .ok (.iload_n 3, 1) := by decide +kernel
theorem d_Law_law_908 : decode code 908 = .ok (.iconst 1, 1) := by decide +kernel
theorem d_Law_law_909 : decode code 909 = .ok (.iadd, 1) := by decide +kernel
theorem d_Law_law_910 : decode code 910 = .ok (.iaload, 1) := by decide +kernel
theorem d_Law_law_911 : decode code 911 = .ok (.aload_n 0, 1) := by decide +kernel
theorem d_Law_law_912 : decode code 912 = .ok (.iload_n 3, 1) := by decide +kernel
theorem d_Law_law_913 : decode code 913 = .ok (.iconst 2, 1) := by decide +kernel
theorem d_Law_law_914 : decode code 914 = .ok (.iadd, 1) := by decide +kernel
theorem d_Law_law_915 : decode code 915 = .ok (.iaload, 1) := by decide +kernel
theorem d_Law_law_916 : decode code 916 = .ok (.aload_n 0, 1) := by decide +kernel
theorem d_Law_law_917 : decode code 917 = .ok (.iload_n 3, 1) := by decide +kernel
theorem d_Law_law_918 : decode code 918 = .ok (.iconst 3, 1) := by decide +kernel
theorem d_Law_law_919 : decode code 919 = .ok (.iadd, 1) := by decide +kernel
theorem d_Law_law_920 : decode code 920 = .ok (.iaload, 1) := by decide +kernel
theorem d_Law_law_921 : decode code 921 = .ok (.invokevirtual 106, 3) := by decide +kernel
theorem d_Law_law_924 : decode code 924 = .ok (.aload_n 2, 1) := by decide +kernel
theorem d_Law_law_925 : decode code 925 = .ok (.aload_n 0, 1) := by decide +kernel
theorem d_Law_law_926 : decode code 926 = .ok (.iload_n 3, 1) := by decide +kernel
theorem d_Law_law_927 : decode code 927 = .ok (.iconst 1, 1) := by decide +kernel
theorem d_Law_law_928 : decode code 928 = .ok (.iadd, 1) := by decide +kernel
theorem d_Law_law_929 : decode code 929 = .ok (.iaload, 1) := by decide +kernel
theorem d_Law_law_930 : decode code 930 = .ok (.aload_n 0, 1) := by decide +kernel
theorem d_Law_law_931 : decode code 931 = .ok (.iload_n 3, 1) := by decide +kernel
theorem d_Law_law_932 : decode code 932 = .ok (.iconst 2, 1) := by decide +kernel
theorem d_Law_law_933 : decode code 933 = .ok (.iadd, 1) := by decide +kernel
theorem d_Law_law_934 : decode code 934 = .ok (.iaload, 1) := by decide +kernel
theorem d_Law_law_935 : decode code 935 = .ok (.aload_n 0, 1) := by decide +kernel
theorem d_Law_law_936 : decode code 936 = .ok (.iload_n 3, 1) := by decide +kernel
theorem d_Law_law_937 : decode code 937 = .ok (.iconst 3, 1) := by decide +kernel
theorem d_Law_law_938 : decode code 938 = .ok (.iadd, 1) := by decide +kernel
theorem d_Law_law_939 : decode code 939 = .ok (.iaload, 1) := by decide +kernel
theorem d_Law_law_940 : decode code 940 = .ok (.invokevirtual 109, 3) := by decide +kernel
theorem d_Law_law_943 : decode code 943 = .ok (.if_icmp .eq 456, 3) := by decide +kernel
theorem d_Law_law_946 : decode code 946 = .ok (.iconst 0, 1) := by decide +kernel
theorem d_Law_law_947 : decode code 947 = .ok (.ireturn, 1) := by decide +kernel
theorem d_Law_law_948 : decode code 948 = .ok (.aload_n 1, 1) := by decide +kernel
theorem d_Law_law_949 : decode code 949 = .ok (.aload_n 0, 1) := by decide +kernel
theorem d_Law_law_950 : decode code 950 = .ok (.iload_n 3, 1) := by decide +kernel
theorem d_Law_law_951 : decode code 951 = .ok (.iconst 1, 1) := by decide +kernel
theorem d_Law_law_952 : decode code 952 = .ok (.iadd, 1) := by decide +kernel
theorem d_Law_law_953 : decode code 953 = .ok (.iaload, 1) := by decide +kernel
theorem d_Law_law_954 : decode code 954 = .ok (.invokevirtual 110, 3) := by decide +kernel
theorem d_Law_law_957 : decode code 957 = .ok (.aload_n 2, 1) := by decide +kernel
theorem d_Law_law_958 : decode code 958 = .ok (.aload_n 0, 1) := by decide +kernel
theorem d_Law_law_959 : decode code 959 = .ok (.iload_n 3, 1) := by decide +kernel
theorem d_Law_law_960 : decode code 960 = .ok (.iconst 1, 1) := by decide +kernel
theorem d_Law_law_961 : decode code 961 = .ok (.iadd, 1) := by decide +kernel
theorem d_Law_law_962 : decode code 962 = .ok (.iaload, 1) := by decide +kernel
theorem d_Law_law_963 : decode code 963 = .ok (.invokevirtual 113, 3) := by decide +kernel
theorem d_Law_law_966 : decode code 966 = .ok (.if_icmp .eq 433, 3) := by decide +kernel
theorem d_Law_law_969 : decode code 969 = .ok (.iconst 0, 1) := by decide +kernel
theorem d_Law_law_970 : decode code 970 = .ok (.ireturn, 1) := by decide +kernel
theorem d_Law_law_971 : decode code 971 = .ok (.aload_n 1, 1) := by decide +kernel
theorem d_Law_law_972 : decode code 972 = .ok (.aload_n 0, 1) := by decide +kernel
theorem d_Law_law_973 : decode code 973 = .ok (.iload_n 3, 1) := by decide +kernel
theorem d_Law_law_974 : decode code 974 = .ok (.iconst 1, 1) := by decide +kernel
theorem d_Law_law_975 : decode code 975 = .ok (.iadd, 1) := by decide +kernel
theorem d_Law_law_976 : decode code 976 = .ok (.iaload, 1) := by decide +kernel
theorem d_Law_law_977 : decode code 977 = .ok (.aload_n 0, 1) := by decide +kernel
theorem d_Law_law_978 : decode code 978 = .ok (.iload_n 3, 1) := by decide +kernel
theorem d_Law_law_979 : decode code 979 = .ok (.iconst 2, 1) := by decide +kernel
theorem d_Law_law_980 : decode code 980 = .ok (.iadd, 1) := by decide +kernel
theorem d_Law_law_981 : decode code 981 = .ok (.iaload, 1) := by decide +kernel
theorem d_Law_law_982 : decode code 982 = .ok (.invokevirtual 114, 3) := by decide +kernel
theorem d_Law_law_985 : decode code 985 = .ok (.aload_n 2, 1) := by decide +kernel
theorem d_Law_law_986 : decode code 986 = .ok (.aload_n 0, 1) := by decide +kernel
theorem d_Law_law_987 : decode code 987 = .ok (.iload_n 3, 1) := by decide +kernel
theorem d_Law_law_988 : decode code 988 = .ok (.iconst 1, 1) := by decide +kernel
theorem d_Law_law_989 : decode code 989 = .ok (.iadd, 1) := by decide +kernel
theorem d_Law_law_990 : decode code 990 = .ok (.iaload, 1) := by decide +kernel
theorem d_Law_law_991 : decode code 991 = .ok (.aload_n 0, 1) := by decide +kernel
theorem d_Law_law_992 : decode code 992 = .ok (.iload_n 3, 1) := by decide +kernel
theorem d_Law_law_993 : decode code 993 = .ok (.iconst 2, 1) := by decide +kernel
theorem d_Law_law_994 : decode code 994 = .ok (.iadd, 1) := by decide +kernel
theorem d_Law_law_995 : decode code 995 = .ok (.iaload, 1) := by decide +kernel
theorem d_Law_law_996 : decode code 996 = .ok (.invokevirtual 117, 3) := by decide +kernel
theorem d_Law_law_999 : decode code 999 = .ok (.if_icmp .eq 400, 3) := by decide +kernel
theorem d_Law_law_1002 : decode code 1002 = .ok (.iconst 0, 1) := by decide +kernel
theorem d_Law_law_1003 : decode code 1003 = .ok (.ireturn, 1) := by decide +kernel
theorem d_Law_law_1004 : decode code 1004 = .ok (.aload_n 1, 1) := by decide +kernel
theorem d_Law_law_1005 : decode code 1005 = .ok (.invokevirtual 118, 3) := by decide +kernel
theorem d_Law_law_1008 : decode code 1008 = .ok (.aload_n 2, 1) := by decide +kernel
theorem d_Law_law_1009 : decode code 1009 = .ok (.invokevirtual 121, 3) := by decide +kernel
theorem d_Law_law_1012 : decode code 1012 = .ok (.if_icmp .eq 387, 3) := by decide +kernel
theorem d_Law_law_1015 : decode code 1015 = .ok (.iconst 0, 1) := by decide +kernel
theorem d_Law_law_1016 : decode code 1016 = .ok (.ireturn, 1) := by decide +kernel
theorem d_Law_law_1017 : decode code 1017 = .ok (.aload_n 1, 1) := by decide +kernel
theorem d_Law_law_1018 : decode code 1018 = .ok (.aload_n 0, 1) := by decide +kernel
theorem d_Law_law_1019 : decode code 1019 = .ok (.iload_n 3, 1) := by decide +kernel
theorem d_Law_law_1020 : decode code 1020 = .ok (.iconst 1, 1) := by decide +kernel
theorem d_Law_law_1021 : decode code 1021 = .ok (.iadd, 1) := by decide +kernel
theorem d_Law_law_1022 : decode code 1022 = .ok (.iaload, 1) := by decide +kernel
theorem d_Law_law_1023 : decode code 1023 = .ok (.aload_n 0, 1) := by decide +kernel
theorem d_Law_law_1024 : decode code 1024 = .ok (.iload_n 3, 1) := by decide +kernel
theorem d_Law_law_1025 : decode code 1025 = .ok (.iconst 2, 1) := by decide +kernel
theorem d_Law_law_1026 : decode code 1026 = .ok (.iadd, 1) := by decide +kernel
theorem d_Law_law_1027 : decode code 1027 = .ok (.iaload, 1) := by decide +kernel
theorem d_Law_law_1028 : decode code 1028 = .ok (.invokevirtual 122, 3) := by decide +kernel
theorem d_Law_law_1031 : decode code 1031 = .ok (.aload_n 2, 1) := by decide +kernel
theorem d_Law_law_1032 : decode code 1032 = .ok (.aload_n 0, 1) := by decide +kernel
theorem d_Law_law_1033 : decode code 1033 = .ok (.iload_n 3, 1) := by decide +kernel
theorem d_Law_law_1034 : decode code 1034 = .ok (.iconst 1, 1) := by decide +kernel
theorem d_Law_law_1035 : decode code 1035 = .ok (.iadd, 1) := by decide +kernel
theorem d_Law_law_1036 : decode code 1036 = .ok (.iaload, 1) := by decide +kernel
theorem d_Law_law_1037 : decode code 1037 = .ok (.aload_n 0, 1) := by decide +kernel
theorem d_Law_law_1038 : decode code 1038 = .ok (.iload_n 3, 1) := by decide +kernel
theorem d_Law_law_1039 : decode code 1039 = .ok (.iconst 2, 1) := by decide +kernel
theorem d_Law_law_1040 : decode code 1040 = .ok (.iadd, 1) := by decide +kernel
theorem d_Law_law_1041 : decode code 1041 = .ok (.iaload, 1) := by decide +kernel
theorem d_Law_law_1042 : decode code 1042 = .ok (.invokevirtual 125, 3) := by decide +kernel
theorem d_Law_law_1045 : decode code 1045 = .ok (.if_icmp .eq 354, 3) := by decide +kernel
theorem d_Law_law_1048 : decode code 1048 = .ok (.iconst 0, 1) := by decide +kernel
theorem d_Law_law_1049 : decode code 1049 = .ok (.ireturn, 1) := by decide +kernel
theorem d_Law_law_1050 : decode code 1050 = .ok (.aload_n 1, 1) := by decide +kernel
theorem d_Law_law_1051 : decode code 1051 = .ok (.aload_n 0, 1) := by decide +kernel
theorem d_Law_law_1052 : decode code 1052 = .ok (.iload_n 3, 1) := by decide +kernel
theorem d_Law_law_1053 : decode code 1053 = .ok (.iconst 1, 1) := by decide +kernel
theorem d_Law_law_1054 : decode code 1054 = .ok (.iadd, 1) := by decide +kernel
theorem d_Law_law_1055 : decode code 1055 = .ok (.iaload, 1) := by decide +kernel
theorem d_Law_law_1056 : decode code 1056 = .ok (.aload_n 0, 1) := by decide +kernel
theorem d_Law_law_1057 : decode code 1057 = .ok (.iload_n 3, 1) := by decide +kernel
theorem d_Law_law_1058 : decode code 1058 = .ok (.iconst 2, 1) := by decide +kernel
theorem d_Law_law_1059 : decode code 1059 = .ok (.iadd, 1) := by decide +kernel
theorem d_Law_law_1060 : decode code 1060 = .ok (.iaload, 1) := by decide +kernel
theorem d_Law_law_1061 : decode code 1061 = .ok (.aload_n 0, 1) := by decide +kernel
theorem d_Law_law_1062 : decode code 1062 = .ok (.iload_n 3, 1) := by decide +kernel
theorem d_Law_law_1063 : decode code 1063 = .ok (.iconst 3, 1) := by decide +kernel
theorem d_Law_law_1064 : decode code 1064 = .ok (.iadd, 1) := by decide +kernel
theorem d_Law_law_1065 : decode code 1065 = .ok (.iaload, 1) := by decide +kernel
theorem d_Law_law_1066 : decode code 1066 = .ok (.aload_n 0, 1) := by decide +kernel
theorem d_Law_law_1067 : decode code 1067 = .ok (.iload_n 3, 1) := by decide +kernel
theorem d_Law_law_1068 : decode code 1068 = .ok (.iconst 4, 1) := by decide +kernel
theorem d_Law_law_1069 : decode code 1069 = .ok (.iadd, 1) := by decide +kernel
theorem d_Law_law_1070 : decode code 1070 = .ok (.iaload, 1) := by decide +kernel
theorem d_Law_law_1071 : decode code 1071 = .ok (.invokevirtual 126, 3) := by decide +kernel
theorem d_Law_law_1074 : decode code 1074 = .ok (.aload_n 2, 1) := by decide +kernel
theorem d_Law_law_1075 : decode code 1075 = .ok (.aload_n 0, 1) := by decide +kernel
theorem d_Law_law_1076 : decode code 1076 = .ok (.iload_n 3, 1) := by decide +kernel
theorem d_Law_law_1077 : decode code 1077 = .ok (.iconst 1, 1) := by decide +kernel
theorem d_Law_law_1078 : decode code 1078 = .ok (.iadd, 1) := by decide +kernel
theorem d_Law_law_1079 : decode code 1079 = .ok (.iaload, 1) := by decide +kernel
theorem d_Law_law_1080 : decode code 1080 = .ok (.aload_n 0, 1) := by decide +kernel
theorem d_Law_law_1081 : decode code 1081 = .ok (.iload_n 3, 1) := by decide +kernel
theorem d_Law_law_1082 : decode code 1082 = .ok (.iconst 2, 1) := by decide +kernel
theorem d_Law_law_1083 : decode code 1083 = .ok (.iadd, 1) := by decide +kernel
theorem d_Law_law_1084 : decode code 1084 = .ok (.iaload, 1) := by decide +kernel
theorem d_Law_law_1085 : decode code 1085 = .ok (.aload_n 0, 1) := by decide +kernel
theorem d_Law_law_1086 : decode code 1086 = .ok (.iload_n 3, 1) := by decide +kernel
theorem d_Law_law_1087 : decode code 1087 = .ok (.iconst 3, 1) := by decide +kernel
theorem d_Law_law_1088 : decode code 1088 = .ok (.iadd, 1) := by decide +kernel
theorem d_Law_law_1089 : decode code 1089 = .ok (.iaload, 1) := by decide +kernel
theorem d_Law_law_1090 : decode code 1090 = .ok (.aload_n 0, 1) := by decide +kernel
theorem d_Law_law_1091 : decode code 1091 = .ok (.iload_n 3, 1) := by decide +kernel
theorem d_Law_law_1092 : decode code 1092 = .ok (.iconst 4, 1) := by decide +kernel
theorem d_Law_law_1093 : decode code 1093 = .ok (.iadd, 1) := by decide +kernel
theorem d_Law_law_1094 : decode code 1094 = .ok (.iaload, 1) := by decide +kernel
theorem d_Law_law_1095 : decode code 1095 = .ok (.invokevirtual 130, 3) := by decide +kernel
theorem d_Law_law_1098 : decode code 1098 = .ok (.if_icmp .eq 301, 3) := by decide +kernel
theorem d_Law_law_1101 : decode code 1101 = .ok (.iconst 0, 1) := by decide +kernel
theorem d_Law_law_1102 : decode code 1102 = .ok (.ireturn, 1) := by decide +kernel
theorem d_Law_law_1103 : decode code 1103 = .ok (.aload_n 1, 1) := by decide +kernel
theorem d_Law_law_1104 : decode code 1104 = .ok (.aload_n 0, 1) := by decide +kernel
theorem d_Law_law_1105 : decode code 1105 = .ok (.iload_n 3, 1) := by decide +kernel
theorem d_Law_law_1106 : decode code 1106 = .ok (.iconst 1, 1) := by decide +kernel
theorem d_Law_law_1107 : decode code 1107 = .ok (.iadd, 1) := by decide +kernel
theorem d_Law_law_1108 : decode code 1108 = .ok (.iaload, 1) := by decide +kernel
theorem d_Law_law_1109 : decode code 1109 = .ok (.aload_n 0, 1) := by decide +kernel
theorem d_Law_law_1110 : decode code 1110 = .ok (.iload_n 3, 1) := by decide +kernel
theorem d_Law_law_1111 : decode code 1111 = .ok (.iconst 2, 1) := by decide +kernel
theorem d_Law_law_1112 : decode code 1112 = .ok (.iadd, 1) := by decide +kernel
theorem d_Law_law_1113 : decode code 1113 = .ok (.iaload, 1) := by decide +kernel
theorem d_Law_law_1114 : decode code 1114 = .ok (.invokevirtual 131, 3) := by decide +kernel
theorem d_Law_law_1117 : decode code 1117 = .ok (.aload_n 2, 1) := by decide +kernel
theorem d_Law_law_1118 : decode code 1118 = .ok (.aload_n 0, 1) := by decide +kernel
theorem d_Law_law_1119 : decode code 1119 = .ok (.iload_n 3, 1) := by decide +kernel
theorem d_Law_law_1120 : decode code 1120 = .ok (.iconst 1, 1) := by decide +kernel
theorem d_Law_law_1121 : decode code 1121 = .ok (.iadd, 1) := by decide +kernel
theorem d_Law_law_1122 : decode code 1122 = .ok (.iaload, 1) := by decide +kernel
theorem d_Law_law_1123 : decode code 1123 = .ok (.aload_n 0, 1) := by decide +kernel
theorem d_Law_law_1124 : decode code 1124 = .ok (.iload_n 3, 1) := by decide +kernel
theorem d_Law_law_1125 : decode code 1125 = .ok (.iconst 2, 1) := by decide +kernel
theorem d_Law_law_1126 : decode code 1126 = .ok (.iadd, 1) := by decide +kernel
theorem d_Law_law_1127 : decode code 1127 = .ok (.iaload, 1) := by decide +kernel
theorem d_Law_law_1128 : decode code 1128 = .ok (.invokevirtual 134, 3) := by decide +kernel
theorem d_Law_law_1131 : decode code 1131 = .ok (.if_icmp .eq 268, 3) := by decide +kernel
theorem d_Law_law_1134 : decode code 1134 = .ok (.iconst 0, 1) := by decide +kernel
theorem d_Law_law_1135 : decode code 1135 = .ok (.ireturn, 1) := by decide +kernel
theorem d_Law_law_1136 : decode code 1136 = .ok (.aload_n 1, 1) := by decide +kernel
theorem d_Law_law_1137 : decode code 1137 = .ok (.aload_n 0, 1) := by decide +kernel
theorem d_Law_law_1138 : decode code 1138 = .ok (.iload_n 3, 1) := by decide +kernel
theorem d_Law_law_1139 : decode code 1139 = .ok (.iconst 1, 1) := by decide +kernel
theorem d_Law_law_1140 : decode code 1140 = .ok (.iadd, 1) := by decide +kernel
theorem d_Law_law_1141 : decode code 1141 = .ok (.iaload, 1) := by decide +kernel
theorem d_Law_law_1142 : decode code 1142 = .ok (.invokevirtual 135, 3) := by decide +kernel
theorem d_Law_law_1145 : decode code 1145 = .ok (.aload_n 2, 1) := by decide +kernel
theorem d_Law_law_1146 : decode code 1146 = .ok (.aload_n 0, 1) := by decide +kernel
theorem d_Law_law_1147 : decode code 1147 = .ok (.iload_n 3, 1) := by decide +kernel
theorem d_Law_law_1148 : decode code 1148 = .ok (.iconst 1, 1) := by decide +kernel
theorem d_Law_law_1149 : decode code 1149 = .ok (.iadd, 1) := by decide +kernel
theorem d_Law_law_1150 : decode code 1150 = .ok (.iaload, 1) := by decide +kernel
theorem d_Law_law_1151 : decode code 1151 = .ok (.invokevirtual 138, 3) := by decide +kernel
theorem d_Law_law_1154 : decode code 1154 = .ok (.if_icmp .eq 245, 3) := by decide +kernel
theorem d_Law_law_1157 : decode code 1157 = .ok (.iconst 0, 1) := by decide +kernel
theorem d_Law_law_1158 : decode code 1158 = .ok (.ireturn, 1) := by decide +kernel
theorem d_Law_law_1159 : decode code 1159 = .ok (.aload_n 1, 1) := by decide +kernel
theorem d_Law_law_1160 : decode code 1160 = .ok (.aload_n 0, 1) := by decide +kernel
theorem d_Law_law_1161 : decode code 1161 = .ok (.iload_n 3, 1) := by decide +kernel
theorem d_Law_law_1162 : decode code 1162 = .ok (.iconst 1, 1) := by decide +kernel
theorem d_Law_law_1163 : decode code 1163 = .ok (.iadd, 1) := by decide +kernel
theorem d_Law_law_1164 : decode code 1164 = .ok (.iaload, 1) := by decide +kernel
theorem d_Law_law_1165 : decode code 1165 = .ok (.aload_n 0, 1) := by decide +kernel
theorem d_Law_law_1166 : decode code 1166 = .ok (.iload_n 3, 1) := by decide +kernel
theorem d_Law_law_1167 : decode code 1167 = .ok (.iconst 2, 1) := by decide +kernel
theorem d_Law_law_1168 : decode code 1168 = .ok (.iadd, 1) := by decide +kernel
theorem d_Law_law_1169 : decode code 1169 = .ok (.iaload, 1) := by decide +kernel
theorem d_Law_law_1170 : decode code 1170 = .ok (.aload_n 0, 1) := by decide +kernel
theorem d_Law_law_1171 : decode code 1171 = .ok (.iload_n 3, 1) := by decide +kernel
theorem d_Law_law_1172 : decode code 1172 = .ok (.iconst 3, 1) := by decide +kernel
theorem d_Law_law_1173 : decode code 1173 = .ok (.iadd, 1) := by decide +kernel
theorem d_Law_law_1174 : decode code 1174 = .ok (.iaload, 1) := by decide +kernel
theorem d_Law_law_1175 : decode code 1175 = .ok (.invokevirtual 139, 3) := by decide +kernel
theorem d_Law_law_1178 : decode code 1178 = .ok (.aload_n 2, 1) := by decide +kernel
theorem d_Law_law_1179 : decode code 1179 = .ok (.aload_n 0, 1) := by decide +kernel
theorem d_Law_law_1180 : decode code 1180 = .ok (.iload_n 3, 1) := by decide +kernel
theorem d_Law_law_1181 : decode code 1181 = .ok (.iconst 1, 1) := by decide +kernel
theorem d_Law_law_1182 : decode code 1182 = .ok (.iadd, 1) := by decide +kernel
theorem d_Law_law_1183 : decode code 1183 = .ok (.iaload, 1) := by decide +kernel
theorem d_Law_law_1184 : decode code 1184 = .ok (.aload_n 0, 1) := by decide +kernel
theorem d_Law_law_1185 : decode code 1185 = .ok (.iload_n 3, 1) := by decide +kernel
theorem d_Law_law_1186 : decode code 1186 = .ok (.iconst 2, 1) := by decide +kernel
theorem d_Law_law_1187 : decode code 1187 = .ok (.iadd, 1) := by decide +kernel
theorem d_Law_law_1188 : decode code 1188 = .ok (.iaload, 1) := by decide +kernel
theorem d_Law_law_1189 : decode code 1189 = .ok (.aload_n 0, 1) := by decide +kernel
theorem d_Law_law_1190 : decode code 1190 = .ok (.iload_n 3, 1) := by decide +kernel
theorem d_Law_law_1191 : decode code 1191 = .ok (.iconst 3, 1) := by decide +kernel
theorem d_Law_law_1192 : decode code 1192 = .ok (.iadd, 1) := by decide +kernel
theorem d_Law_law_1193 : decode code 1193 = .ok (.iaload, 1) := by decide +kernel
theorem d_Law_law_1194 : decode code 1194 = .ok (.invokevirtual 142, 3) := by decide +kernel
theorem d_Law_law_1197 : decode code 1197 = .ok (.if_icmp .eq 202, 3) := by decide +kernel
theorem d_Law_law_1200 : decode code 1200 = .ok (.iconst 0, 1) := by decide +kernel
theorem d_Law_law_1201 : decode code 1201 = .ok (.ireturn, 1) := by decide +kernel
theorem d_Law_law_1202 : decode code 1202 = .ok (.aload_n 1, 1) := by decide +kernel
theorem d_Law_law_1203 : decode code 1203 = .ok (.invokevirtual 143, 3) := by decide +kernel
theorem d_Law_law_1206 : decode code 1206 = .ok (.aload_n 2, 1) := by decide +kernel
theorem d_Law_law_1207 : decode code 1207 = .ok (.invokevirtual 146, 3) := by decide +kernel
theorem d_Law_law_1210 : decode code 1210 = .ok (.if_icmp .eq 189, 3) := by decide +kernel
theorem d_Law_law_1213 : decode code 1213 = .ok (.iconst 0, 1) := by decide +kernel
theorem d_Law_law_1214 : decode code 1214 = .ok (.ireturn, 1) := by decide +kernel
theorem d_Law_law_1215 : decode code 1215 = .ok (.aload_n 1, 1) := by decide +kernel
theorem d_Law_law_1216 : decode code 1216 = .ok (.aload_n 0, 1) := by decide +kernel
theorem d_Law_law_1217 : decode code 1217 = .ok (.iload_n 3, 1) := by decide +kernel
theorem d_Law_law_1218 : decode code 1218 = .ok (.iconst 1, 1) := by decide +kernel
theorem d_Law_law_1219 : decode code 1219 = .ok (.iadd, 1) := by decide +kernel
theorem d_Law_law_1220 : decode code 1220 = .ok (.iaload, 1) := by decide +kernel
theorem d_Law_law_1221 : decode code 1221 = .ok (.aload_n 0, 1) := by decide +kernel
theorem d_Law_law_1222 : decode code 1222 = .ok (.iload_n 3, 1) := by decide +kernel
theorem d_Law_law_1223 : decode code 1223 = .ok (.iconst 2, 1) := by decide +kernel
theorem d_Law_law_1224 : decode code 1224 = .ok (.iadd, 1) := by decide +kernel
theorem d_Law_law_1225 : decode code 1225 = .ok (.iaload, 1) := by decide +kernel
theorem d_Law_law_1226 : decode code 1226 = .ok (.invokevirtual 147, 3) := by decide +kernel
theorem d_Law_law_1229 : decode code 1229 = .ok (.aload_n 2, 1) := by decide +kernel
theorem d_Law_law_1230 : decode code 1230 = .ok (.aload_n 0, 1) := by decide +kernel
theorem d_Law_law_1231 : decode code 1231 = .ok (.iload_n 3, 1) := by decide +kernel
theorem d_Law_law_1232 : decode code 1232 = .ok (.iconst 1, 1) := by decide +kernel
theorem d_Law_law_1233 : decode code 1233 = .ok (.iadd, 1) := by decide +kernel
theorem d_Law_law_1234 : decode code 1234 = .ok (.iaload, 1) := by decide +kernel
theorem d_Law_law_1235 : decode code 1235 = .ok (.aload_n 0, 1) := by decide +kernel
theorem d_Law_law_1236 : decode code 1236 = .ok (.iload_n 3, 1) := by decide +kernel
theorem d_Law_law_1237 : decode code 1237 = .ok (.iconst 2, 1) := by decide +kernel
theorem d_Law_law_1238 : decode code 1238 = .ok (.iadd, 1) := by decide +kernel
theorem d_Law_law_1239 : decode code 1239 = .ok (.iaload, 1) := by decide +kernel
theorem d_Law_law_1240 : decode code 1240 = .ok (.invokevirtual 150, 3) := by decide +kernel
theorem d_Law_law_1243 : decode code 1243 = .ok (.if_icmp .eq 156, 3) := by decide +kernel
theorem d_Law_law_1246 : decode code 1246 = .ok (.iconst 0, 1) := by decide +kernel
theorem d_Law_law_1247 : decode code 1247 = .ok (.ireturn, 1) := by decide +kernel
theorem d_Law_law_1248 : decode code 1248 = .ok (.aload_n 1, 1) := by decide +kernel
theorem d_Law_law_1249 : decode code 1249 = .ok (.aload_n 0, 1) := by decide +kernel
theorem d_Law_law_1250 : decode code 1250 = .ok (.iload_n 3, 1) := by decide +kernel
theorem d_Law_law_1251 : decode code 1251 = .ok (.iconst 1, 1) := by decide +kernel
theorem d_Law_law_1252 : decode code 1252 = .ok (.iadd, 1) := by decide +kernel
theorem d_Law_law_1253 : decode code 1253 = .ok (.iaload, 1) := by decide +kernel
theorem d_Law_law_1254 : decode code 1254 = .ok (.aload_n 0, 1) := by decide +kernel
theorem d_Law_law_1255 : decode code 1255 = .ok (.iload_n 3, 1) := by decide +kernel
theorem d_Law_law_1256 : decode code 1256 = .ok (.iconst 2, 1) := by decide +kernel
theorem d_Law_law_1257 : decode code 1257 = .ok (.iadd, 1) := by decide +kernel
theorem d_Law_law_1258 : decode code 1258 = .ok (.iaload, 1) := by decide +kernel
theorem d_Law_law_1259 : decode code 1259 = .ok (.ifCond .eq 7, 3) := by decide +kernel
theorem d_Law_law_1262 : decode code 1262 = .ok (.iconst 1, 1) := by decide +kernel
theorem d_Law_law_1263 : decode code 1263 = .ok (.goto 4, 3) := by decide +kernel
theorem d_Law_law_1266 : decode code 1266 = .ok (.iconst 0, 1) := by decide +kernel
theorem d_Law_law_1267 : decode code 1267 = .ok (.invokevirtual 151, 3) := by decide +kernel
theorem d_Law_law_1270 : decode code 1270 = .ok (.aload_n 2, 1) := by decide +kernel
theorem d_Law_law_1271 : decode code 1271 = .ok (.aload_n 0, 1) := by decide +kernel
theorem d_Law_law_1272 : decode code 1272 = .ok (.iload_n 3, 1) := by decide +kernel
theorem d_Law_law_1273 : decode code 1273 = .ok (.iconst 1, 1) := by decide +kernel
theorem d_Law_law_1274 : decode code 1274 = .ok (.iadd, 1) := by decide +kernel
theorem d_Law_law_1275 : decode code 1275 = .ok (.iaload, 1) := by decide +kernel
theorem d_Law_law_1276 : decode code 1276 = .ok (.aload_n 0, 1) := by decide +kernel
theorem d_Law_law_1277 : decode code 1277 = .ok (.iload_n 3, 1) := by decide +kernel
theorem d_Law_law_1278 : decode code 1278 = .ok (.iconst 2, 1) := by decide +kernel
theorem d_Law_law_1279 : decode code 1279 = .ok (.iadd, 1) := by decide +kernel
theorem d_Law_law_1280 : decode code 1280 = .ok (.iaload, 1) := by decide +kernel
theorem d_Law_law_1281 : decode code 1281 = .ok (.ifCond .eq 7, 3) := by decide +kernel
theorem d_Law_law_1284 : decode code 1284 = .ok (.iconst 1, 1) := by decide +kernel
theorem d_Law_law_1285 : decode code 1285 = .ok (.goto 4, 3) := by decide +kernel
theorem d_Law_law_1288 : decode code 1288 = .ok (.iconst 0, 1) := by decide +kernel
theorem d_Law_law_1289 : decode code 1289 = .ok (.invokevirtual 155, 3) := by decide +kernel
theorem d_Law_law_1292 : decode code 1292 = .ok (.if_icmp .eq 107, 3) := by decide +kernel
theorem d_Law_law_1295 : decode code 1295 = .ok (.iconst 0, 1) := by decide +kernel
theorem d_Law_law_1296 : decode code 1296 = .ok (.ireturn, 1) := by decide +kernel
theorem d_Law_law_1297 : decode code 1297 = .ok (.aload_n 1, 1) := by decide +kernel
theorem d_Law_law_1298 : decode code 1298 = .ok (.aload_n 0, 1) := by decide +kernel
theorem d_Law_law_1299 : decode code 1299 = .ok (.iload_n 3, 1) := by decide +kernel
theorem d_Law_law_1300 : decode code 1300 = .ok (.iconst 1, 1) := by decide +kernel
theorem d_Law_law_1301 : decode code 1301 = .ok (.iadd, 1) := by decide +kernel
theorem d_Law_law_1302 : decode code 1302 = .ok (.iaload, 1) := by decide +kernel
theorem d_Law_law_1303 : decode code 1303 = .ok (.aload_n 0, 1) := by decide +kernel
theorem d_Law_law_1304 : decode code 1304 = .ok (.iload_n 3, 1) := by decide +kernel
theorem d_Law_law_1305 : decode code 1305 = .ok (.iconst 2, 1) := by decide +kernel
theorem d_Law_law_1306 : decode code 1306 = .ok (.iadd, 1) := by decide +kernel
theorem d_Law_law_1307 : decode code 1307 = .ok (.iaload, 1) := by decide +kernel
theorem d_Law_law_1308 : decode code 1308 = .ok (.invokevirtual 156, 3) := by decide +kernel
theorem d_Law_law_1311 : decode code 1311 = .ok (.aload_n 2, 1) := by decide +kernel
theorem d_Law_law_1312 : decode code 1312 = .ok (.aload_n 0, 1) := by decide +kernel
theorem d_Law_law_1313 : decode code 1313 = .ok (.iload_n 3, 1) := by decide +kernel
theorem d_Law_law_1314 : decode code 1314 = .ok (.iconst 1, 1) := by decide +kernel
theorem d_Law_law_1315 : decode code 1315 = .ok (.iadd, 1) := by decide +kernel
theorem d_Law_law_1316 : decode code 1316 = .ok (.iaload, 1) := by decide +kernel
theorem d_Law_law_1317 : decode code 1317 = .ok (.aload_n 0, 1) := by decide +kernel
theorem d_Law_law_1318 : decode code 1318 = .ok (.iload_n 3, 1) := by decide +kernel
theorem d_Law_law_1319 : decode code 1319 = .ok (.iconst 2, 1) := by decide +kernel
theorem d_Law_law_1320 : decode code 1320 = .ok (.iadd, 1) := by decide +kernel
theorem d_Law_law_1321 : decode code 1321 = .ok (.iaload, 1) := by decide +kernel
theorem d_Law_law_1322 : decode code 1322 = .ok (.invokevirtual 159, 3) := by decide +kernel
theorem d_Law_law_1325 : decode code 1325 = .ok (.if_icmp .eq 74, 3) := by decide +kernel
theorem d_Law_law_1328 : decode code 1328 = .ok (.iconst 0, 1) := by decide +kernel
theorem d_Law_law_1329 : decode code 1329 = .ok (.ireturn, 1) := by decide +kernel
theorem d_Law_law_1330 : decode code 1330 = .ok (.aload_n 1, 1) := by decide +kernel
theorem d_Law_law_1331 : decode code 1331 = .ok (.aload_n 0, 1) := by decide +kernel
theorem d_Law_law_1332 : decode code 1332 = .ok (.iload_n 3, 1) := by decide +kernel
theorem d_Law_law_1333 : decode code 1333 = .ok (.iconst 1, 1) := by decide +kernel
theorem d_Law_law_1334 : decode code 1334 = .ok (.iadd, 1) := by decide +kernel
theorem d_Law_law_1335 : decode code 1335 = .ok (.iaload, 1) := by decide +kernel
theorem d_Law_law_1336 : decode code 1336 = .ok (.invokevirtual 160, 3) := by decide +kernel
theorem d_Law_law_1339 : decode code 1339 = .ok (.aload_n 2, 1) := by decide +kernel
theorem d_Law_law_1340 : decode code 1340 = .ok (.aload_n 0, 1) := by decide +kernel
theorem d_Law_law_1341 : decode code 1341 = .ok (.iload_n 3, 1) := by decide +kernel
theorem d_Law_law_1342 : decode code 1342 = .ok (.iconst 1, 1) := by decide +kernel
theorem d_Law_law_1343 : decode code 1343 = .ok (.iadd, 1) := by decide +kernel
theorem d_Law_law_1344 : decode code 1344 = .ok (.iaload, 1) := by decide +kernel
theorem d_Law_law_1345 : decode code 1345 = .ok (.invokevirtual 164, 3) := by decide +kernel
theorem d_Law_law_1348 : decode code 1348 = .ok (.if_icmp .eq 51, 3) := by decide +kernel
theorem d_Law_law_1351 : decode code 1351 = .ok (.iconst 0, 1) := by decide +kernel
theorem d_Law_law_1352 : decode code 1352 = .ok (.ireturn, 1) := by decide +kernel
theorem d_Law_law_1353 : decode code 1353 = .ok (.aload_n 1, 1) := by decide +kernel
theorem d_Law_law_1354 : decode code 1354 = .ok (.aload_n 0, 1) := by decide +kernel
theorem d_Law_law_1355 : decode code 1355 = .ok (.iload_n 3, 1) := by decide +kernel
theorem d_Law_law_1356 : decode code 1356 = .ok (.iconst 1, 1) := by decide +kernel
theorem d_Law_law_1357 : decode code 1357 = .ok (.iadd, 1) := by decide +kernel
theorem d_Law_law_1358 : decode code 1358 = .ok (.iaload, 1) := by decide +kernel
theorem d_Law_law_1359 : decode code 1359 = .ok (.invokevirtual 165, 3) := by decide +kernel
theorem d_Law_law_1362 : decode code 1362 = .ok (.aload_n 2, 1) := by decide +kernel
theorem d_Law_law_1363 : decode code 1363 = .ok (.aload_n 0, 1) := by decide +kernel
theorem d_Law_law_1364 : decode code 1364 = .ok (.iload_n 3, 1) := by decide +kernel
theorem d_Law_law_1365 : decode code 1365 = .ok (.iconst 1, 1) := by decide +kernel
theorem d_Law_law_1366 : decode code 1366 = .ok (.iadd, 1) := by decide +kernel
theorem d_Law_law_1367 : decode code 1367 = .ok (.iaload, 1) := by decide +kernel
theorem d_Law_law_1368 : decode code 1368 = .ok (.invokevirtual 168, 3) := by decide +kernel
theorem d_Law_law_1371 : decode code 1371 = .ok (.if_icmp .eq 28, 3) := by decide +kernel
theorem d_Law_law_1374 : decode code 1374 = .ok (.iconst 0, 1) := by decide +kernel
theorem d_Law_law_1375 : decode code 1375 = .ok (.ireturn, 1) := by decide +kernel
theorem d_Law_law_1376 : decode code 1376 = .ok (.aload_n 1, 1) := by decide +kernel
theorem d_Law_law_1377 : decode code 1377 = .ok (.aload_n 0, 1) := by decide +kernel
theorem d_Law_law_1378 : decode code 1378 = .ok (.iload_n 3, 1) := by decide +kernel
theorem d_Law_law_1379 : decode code 1379 = .ok (.iconst 1, 1) := by decide +kernel
theorem d_Law_law_1380 : decode code 1380 = .ok (.iadd, 1) := by decide +kernel
theorem d_Law_law_1381 : decode code 1381 = .ok (.iaload, 1) := by decide +kernel
theorem d_Law_law_1382 : decode code 1382 = .ok (.invokevirtual 169, 3) := by decide +kernel
theorem d_Law_law_1385 : decode code 1385 = .ok (.aload_n 2, 1) := by decide +kernel
theorem d_Law_law_1386 : decode code 1386 = .ok (.aload_n 0, 1) := by decide +kernel
theorem d_Law_law_1387 : decode code 1387 = .ok (.iload_n 3, 1) := by decide +kernel
theorem d_Law_law_1388 : decode code 1388 = .ok (.iconst 1, 1) := by decide +kernel
theorem d_Law_law_1389 : decode code 1389 = .ok (.iadd, 1) := by decide +kernel
theorem d_Law_law_1390 : decode code 1390 = .ok (.iaload, 1) := by decide +kernel
theorem d_Law_law_1391 : decode code 1391 = .ok (.invokevirtual 172, 3) := by decide +kernel
theorem d_Law_law_1394 : decode code 1394 = .ok (.if_icmp .eq 5, 3) := by decide +kernel
theorem d_Law_law_1397 : decode code 1397 = .ok (.iconst 0, 1) := by decide +kernel
theorem d_Law_law_1398 : decode code 1398 = .ok (.ireturn, 1) := by decide +kernel
theorem d_Law_law_1399 : decode code 1399 = .ok (.iinc 3 6, 3) := by decide +kernel
theorem d_Law_law_1402 : decode code 1402 = .ok (.goto (-1384), 3) := by decide +kernel
theorem d_Law_law_1405 : decode code 1405 = .ok (.iconst 1, 1) := by decide +kernel
theorem d_Law_law_1406 : decode code 1406 = .ok (.ireturn, 1) := by decide +kernel
