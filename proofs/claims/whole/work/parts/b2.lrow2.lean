theorem dLw_802 : decode code 802 = .ok (.iaload, 1) := by decide +kernel
theorem dLw_803 : decode code 803 = .ok (.aload_n 0, 1) := by decide +kernel
theorem dLw_804 : decode code 804 = .ok (.iload_n 3, 1) := by decide +kernel
theorem dLw_805 : decode code 805 = .ok (.iconst 3, 1) := by decide +kernel
theorem dLw_806 : decode code 806 = .ok (.iadd, 1) := by decide +kernel
theorem dLw_807 : decode code 807 = .ok (.iaload, 1) := by decide +kernel
theorem dLw_808 : decode code 808 = .ok (.aload_n 0, 1) := by decide +kernel
theorem dLw_809 : decode code 809 = .ok (.iload_n 3, 1) := by decide +kernel
theorem dLw_810 : decode code 810 = .ok (.iconst 4, 1) := by decide +kernel
theorem dLw_811 : decode code 811 = .ok (.iadd, 1) := by decide +kernel
theorem dLw_812 : decode code 812 = .ok (.iaload, 1) := by decide +kernel
theorem dLw_813 : decode code 813 = .ok (.invokevirtual 84, 3) := by decide +kernel
theorem dLw_816 : decode code 816 = .ok (.aload_n 2, 1) := by decide +kernel
theorem dLw_817 : decode code 817 = .ok (.aload_n 0, 1) := by decide +kernel
theorem dLw_818 : decode code 818 = .ok (.iload_n 3, 1) := by decide +kernel
theorem dLw_819 : decode code 819 = .ok (.iconst 1, 1) := by decide +kernel
theorem dLw_820 : decode code 820 = .ok (.iadd, 1) := by decide +kernel
theorem dLw_821 : decode code 821 = .ok (.iaload, 1) := by decide +kernel
theorem dLw_822 : decode code 822 = .ok (.aload_n 0, 1) := by decide +kernel
theorem dLw_823 : decode code 823 = .ok (.iload_n 3, 1) := by decide +kernel
theorem dLw_824 : decode code 824 = .ok (.iconst 2, 1) := by decide +kernel
theorem dLw_825 : decode code 825 = .ok (.iadd, 1) := by decide +kernel
theorem dLw_826 : decode code 826 = .ok (.iaload, 1) := by decide +kernel
theorem dLw_827 : decode code 827 = .ok (.aload_n 0, 1) := by decide +kernel
theorem dLw_828 : decode code 828 = .ok (.iload_n 3, 1) := by decide +kernel
theorem dLw_829 : decode code 829 = .ok (.iconst 3, 1) := by decide +kernel
theorem dLw_830 : decode code 830 = .ok (.iadd, 1) := by decide +kernel
theorem dLw_831 : decode code 831 = .ok (.iaload, 1) := by decide +kernel
theorem dLw_832 : decode code 832 = .ok (.aload_n 0, 1) := by decide +kernel
theorem dLw_833 : decode code 833 = .ok (.iload_n 3, 1) := by decide +kernel
theorem dLw_834 : decode code 834 = .ok (.iconst 4, 1) := by decide +kernel
theorem dLw_835 : decode code 835 = .ok (.iadd, 1) := by decide +kernel
theorem dLw_836 : decode code 836 = .ok (.iaload, 1) := by decide +kernel
theorem dLw_837 : decode code 837 = .ok (.invokevirtual 88, 3) := by decide +kernel
theorem dLw_840 : decode code 840 = .ok (.if_icmp .eq 858, 3) := by decide +kernel
theorem dLw_843 : decode code 843 = .ok (.iconst 0, 1) := by decide +kernel
theorem dLw_844 : decode code 844 = .ok (.ireturn, 1) := by decide +kernel
theorem dLw_845 : decode code 845 = .ok (.aload_n 1, 1) := by decide +kernel
theorem dLw_846 : decode code 846 = .ok (.aload_n 0, 1) := by decide +kernel
theorem dLw_847 : decode code 847 = .ok (.iload_n 3, 1) := by decide +kernel
theorem dLw_848 : decode code 848 = .ok (.iconst 1, 1) := by decide +kernel
theorem dLw_849 : decode code 849 = .ok (.iadd, 1) := by decide +kernel
theorem dLw_850 : decode code 850 = .ok (.iaload, 1) := by decide +kernel
theorem dLw_851 : decode code 851 = .ok (.aload_n 0, 1) := by decide +kernel
theorem dLw_852 : decode code 852 = .ok (.iload_n 3, 1) := by decide +kernel
theorem dLw_853 : decode code 853 = .ok (.iconst 2, 1) := by decide +kernel
theorem dLw_854 : decode code 854 = .ok (.iadd, 1) := by decide +kernel
theorem dLw_855 : decode code 855 = .ok (.iaload, 1) := by decide +kernel
theorem dLw_856 : decode code 856 = .ok (.invokevirtual 89, 3) := by decide +kernel
theorem dLw_859 : decode code 859 = .ok (.aload_n 2, 1) := by decide +kernel
theorem dLw_860 : decode code 860 = .ok (.aload_n 0, 1) := by decide +kernel
theorem dLw_861 : decode code 861 = .ok (.iload_n 3, 1) := by decide +kernel
theorem dLw_862 : decode code 862 = .ok (.iconst 1, 1) := by decide +kernel
theorem dLw_863 : decode code 863 = .ok (.iadd, 1) := by decide +kernel
theorem dLw_864 : decode code 864 = .ok (.iaload, 1) := by decide +kernel
theorem dLw_865 : decode code 865 = .ok (.aload_n 0, 1) := by decide +kernel
theorem dLw_866 : decode code 866 = .ok (.iload_n 3, 1) := by decide +kernel
theorem dLw_867 : decode code 867 = .ok (.iconst 2, 1) := by decide +kernel
theorem dLw_868 : decode code 868 = .ok (.iadd, 1) := by decide +kernel
theorem dLw_869 : decode code 869 = .ok (.iaload, 1) := by decide +kernel
theorem dLw_870 : decode code 870 = .ok (.invokevirtual 92, 3) := by decide +kernel
theorem dLw_873 : decode code 873 = .ok (.if_icmp .eq 825, 3) := by decide +kernel
theorem dLw_876 : decode code 876 = .ok (.iconst 0, 1) := by decide +kernel
theorem dLw_877 : decode code 877 = .ok (.ireturn, 1) := by decide +kernel
theorem dLw_878 : decode code 878 = .ok (.aload_n 1, 1) := by decide +kernel
theorem dLw_879 : decode code 879 = .ok (.aload_n 0, 1) := by decide +kernel
theorem dLw_880 : decode code 880 = .ok (.iload_n 3, 1) := by decide +kernel
theorem dLw_881 : decode code 881 = .ok (.iconst 1, 1) := by decide +kernel
theorem dLw_882 : decode code 882 = .ok (.iadd, 1) := by decide +kernel
theorem dLw_883 : decode code 883 = .ok (.iaload, 1) := by decide +kernel
theorem dLw_884 : decode code 884 = .ok (.aload_n 0, 1) := by decide +kernel
theorem dLw_885 : decode code 885 = .ok (.iload_n 3, 1) := by decide +kernel
theorem dLw_886 : decode code 886 = .ok (.iconst 2, 1) := by decide +kernel
theorem dLw_887 : decode code 887 = .ok (.iadd, 1) := by decide +kernel
theorem dLw_888 : decode code 888 = .ok (.iaload, 1) := by decide +kernel
theorem dLw_889 : decode code 889 = .ok (.aload_n 0, 1) := by decide +kernel
theorem dLw_890 : decode code 890 = .ok (.iload_n 3, 1) := by decide +kernel
theorem dLw_891 : decode code 891 = .ok (.iconst 3, 1) := by decide +kernel
theorem dLw_892 : decode code 892 = .ok (.iadd, 1) := by decide +kernel
theorem dLw_893 : decode code 893 = .ok (.iaload, 1) := by decide +kernel
theorem dLw_894 : decode code 894 = .ok (.ifCond .eq 7, 3) := by decide +kernel
theorem dLw_897 : decode code 897 = .ok (.iconst 1, 1) := by decide +kernel
theorem dLw_898 : decode code 898 = .ok (.goto 4, 3) := by decide +kernel
theorem dLw_901 : decode code 901 = .ok (.iconst 0, 1) := by decide +kernel
theorem dLw_902 : decode code 902 = .ok (.invokevirtual 93, 3) := by decide +kernel
theorem dLw_905 : decode code 905 = .ok (.aload_n 2, 1) := by decide +kernel
theorem dLw_906 : decode code 906 = .ok (.aload_n 0, 1) := by decide +kernel
theorem dLw_907 : decode code 907 = .ok (.iload_n 3, 1) := by decide +kernel
theorem dLw_908 : decode code 908 = .ok (.iconst 1, 1) := by decide +kernel
theorem dLw_909 : decode code 909 = .ok (.iadd, 1) := by decide +kernel
theorem dLw_910 : decode code 910 = .ok (.iaload, 1) := by decide +kernel
theorem dLw_911 : decode code 911 = .ok (.aload_n 0, 1) := by decide +kernel
theorem dLw_912 : decode code 912 = .ok (.iload_n 3, 1) := by decide +kernel
theorem dLw_913 : decode code 913 = .ok (.iconst 2, 1) := by decide +kernel
theorem dLw_914 : decode code 914 = .ok (.iadd, 1) := by decide +kernel
theorem dLw_915 : decode code 915 = .ok (.iaload, 1) := by decide +kernel
theorem dLw_916 : decode code 916 = .ok (.aload_n 0, 1) := by decide +kernel
theorem dLw_917 : decode code 917 = .ok (.iload_n 3, 1) := by decide +kernel
theorem dLw_918 : decode code 918 = .ok (.iconst 3, 1) := by decide +kernel
theorem dLw_919 : decode code 919 = .ok (.iadd, 1) := by decide +kernel
theorem dLw_920 : decode code 920 = .ok (.iaload, 1) := by decide +kernel
theorem dLw_921 : decode code 921 = .ok (.ifCond .eq 7, 3) := by decide +kernel
theorem dLw_924 : decode code 924 = .ok (.iconst 1, 1) := by decide +kernel
theorem dLw_925 : decode code 925 = .ok (.goto 4, 3) := by decide +kernel
theorem dLw_928 : decode code 928 = .ok (.iconst 0, 1) := by decide +kernel
theorem dLw_929 : decode code 929 = .ok (.invokevirtual 96, 3) := by decide +kernel
theorem dLw_932 : decode code 932 = .ok (.if_icmp .eq 766, 3) := by decide +kernel
theorem dLw_935 : decode code 935 = .ok (.iconst 0, 1) := by decide +kernel
theorem dLw_936 : decode code 936 = .ok (.ireturn, 1) := by decide +kernel
theorem dLw_937 : decode code 937 = .ok (.aload_n 1, 1) := by decide +kernel
theorem dLw_938 : decode code 938 = .ok (.aload_n 0, 1) := by decide +kernel
theorem dLw_939 : decode code 939 = .ok (.iload_n 3, 1) := by decide +kernel
theorem dLw_940 : decode code 940 = .ok (.iconst 1, 1) := by decide +kernel
theorem dLw_941 : decode code 941 = .ok (.iadd, 1) := by decide +kernel
theorem dLw_942 : decode code 942 = .ok (.iaload, 1) := by decide +kernel
theorem dLw_943 : decode code 943 = .ok (.aload_n 0, 1) := by decide +kernel
theorem dLw_944 : decode code 944 = .ok (.iload_n 3, 1) := by decide +kernel
theorem dLw_945 : decode code 945 = .ok (.iconst 2, 1) := by decide +kernel
theorem dLw_946 : decode code 946 = .ok (.iadd, 1) := by decide +kernel
theorem dLw_947 : decode code 947 = .ok (.iaload, 1) := by decide +kernel
theorem dLw_948 : decode code 948 = .ok (.invokevirtual 97, 3) := by decide +kernel
theorem dLw_951 : decode code 951 = .ok (.aload_n 2, 1) := by decide +kernel
theorem dLw_952 : decode code 952 = .ok (.aload_n 0, 1) := by decide +kernel
theorem dLw_953 : decode code 953 = .ok (.iload_n 3, 1) := by decide +kernel
theorem dLw_954 : decode code 954 = .ok (.iconst 1, 1) := by decide +kernel
theorem dLw_955 : decode code 955 = .ok (.iadd, 1) := by decide +kernel
theorem dLw_956 : decode code 956 = .ok (.iaload, 1) := by decide +kernel
theorem dLw_957 : decode code 957 = .ok (.aload_n 0, 1) := by decide +kernel
theorem dLw_958 : decode code 958 = .ok (.iload_n 3, 1) := by decide +kernel
theorem dLw_959 : decode code 959 = .ok (.iconst 2, 1) := by decide +kernel
theorem dLw_960 : decode code 960 = .ok (.iadd, 1) := by decide +kernel
theorem dLw_961 : decode code 961 = .ok (.iaload, 1) := by decide +kernel
theorem dLw_962 : decode code 962 = .ok (.invokevirtual 100, 3) := by decide +kernel
theorem dLw_965 : decode code 965 = .ok (.if_icmp .eq 733, 3) := by decide +kernel
theorem dLw_968 : decode code 968 = .ok (.iconst 0, 1) := by decide +kernel
theorem dLw_969 : decode code 969 = .ok (.ireturn, 1) := by decide +kernel
theorem dLw_970 : decode code 970 = .ok (.aload_n 1, 1) := by decide +kernel
theorem dLw_971 : decode code 971 = .ok (.aload_n 0, 1) := by decide +kernel
theorem dLw_972 : decode code 972 = .ok (.iload_n 3, 1) := by decide +kernel
theorem dLw_973 : decode code 973 = .ok (.iconst 1, 1) := by decide +kernel
theorem dLw_974 : decode code 974 = .ok (.iadd, 1) := by decide +kernel
theorem dLw_975 : decode code 975 = .ok (.iaload, 1) := by decide +kernel
theorem dLw_976 : decode code 976 = .ok (.aload_n 0, 1) := by decide +kernel
theorem dLw_977 : decode code 977 = .ok (.iload_n 3, 1) := by decide +kernel
theorem dLw_978 : decode code 978 = .ok (.iconst 2, 1) := by decide +kernel
theorem dLw_979 : decode code 979 = .ok (.iadd, 1) := by decide +kernel
theorem dLw_980 : decode code 980 = .ok (.iaload, 1) := by decide +kernel
theorem dLw_981 : decode code 981 = .ok (.aload_n 0, 1) := by decide +kernel
theorem dLw_982 : decode code 982 = .ok (.iload_n 3, 1) := by decide +kernel
theorem dLw_983 : decode code 983 = .ok (.iconst 3, 1) := by decide +kernel
theorem dLw_984 : decode code 984 = .ok (.iadd, 1) := by decide +kernel
theorem dLw_985 : decode code 985 = .ok (.iaload, 1) := by decide +kernel
theorem dLw_986 : decode code 986 = .ok (.invokevirtual 101, 3) := by decide +kernel
theorem dLw_989 : decode code 989 = .ok (.aload_n 2, 1) := by decide +kernel
theorem dLw_990 : decode code 990 = .ok (.aload_n 0, 1) := by decide +kernel
theorem dLw_991 : decode code 991 = .ok (.iload_n 3, 1) := by decide +kernel
theorem dLw_992 : decode code 992 = .ok (.iconst 1, 1) := by decide +kernel
theorem dLw_993 : decode code 993 = .ok (.iadd, 1) := by decide +kernel
theorem dLw_994 : decode code 994 = .ok (.iaload, 1) := by decide +kernel
theorem dLw_995 : decode code 995 = .ok (.aload_n 0, 1) := by decide +kernel
theorem dLw_996 : decode code 996 = .ok (.iload_n 3, 1) := by decide +kernel
theorem dLw_997 : decode code 997 = .ok (.iconst 2, 1) := by decide +kernel
theorem dLw_998 : decode code 998 = .ok (.iadd, 1) := by decide +kernel
theorem dLw_999 : decode code 999 = .ok (.iaload, 1) := by decide +kernel
theorem dLw_1000 : decode code 1000 = .ok (.aload_n 0, 1) := by decide +kernel
theorem dLw_1001 : decode code 1001 = .ok (.iload_n 3, 1) := by decide +kernel
theorem dLw_1002 : decode code 1002 = .ok (.iconst 3, 1) := by decide +kernel
theorem dLw_1003 : decode code 1003 = .ok (.iadd, 1) := by decide +kernel
theorem dLw_1004 : decode code 1004 = .ok (.iaload, 1) := by decide +kernel
theorem dLw_1005 : decode code 1005 = .ok (.invokevirtual 104, 3) := by decide +kernel
theorem dLw_1008 : decode code 1008 = .ok (.if_icmp .eq 690, 3) := by decide +kernel
theorem dLw_1011 : decode code 1011 = .ok (.iconst 0, 1) := by decide +kernel
theorem dLw_1012 : decode code 1012 = .ok (.ireturn, 1) := by decide +kernel
theorem dLw_1013 : decode code 1013 = .ok (.aload_n 1, 1) := by decide +kernel
theorem dLw_1014 : decode code 1014 = .ok (.aload_n 0, 1) := by decide +kernel
theorem dLw_1015 : decode code 1015 = .ok (.iload_n 3, 1) := by decide +kernel
theorem dLw_1016 : decode code 1016 = .ok (.iconst 1, 1) := by decide +kernel
theorem dLw_1017 : decode code 1017 = .ok (.iadd, 1) := by decide +kernel
theorem dLw_1018 : decode code 1018 = .ok (.iaload, 1) := by decide +kernel
theorem dLw_1019 : decode code 1019 = .ok (.invokevirtual 105, 3) := by decide +kernel
theorem dLw_1022 : decode code 1022 = .ok (.aload_n 2, 1) := by decide +kernel
theorem dLw_1023 : decode code 1023 = .ok (.aload_n 0, 1) := by decide +kernel
theorem dLw_1024 : decode code 1024 = .ok (.iload_n 3, 1) := by decide +kernel
theorem dLw_1025 : decode code 1025 = .ok (.iconst 1, 1) := by decide +kernel
theorem dLw_1026 : decode code 1026 = .ok (.iadd, 1) := by decide +kernel
theorem dLw_1027 : decode code 1027 = .ok (.iaload, 1) := by decide +kernel
theorem dLw_1028 : decode code 1028 = .ok (.invokevirtual 108, 3) := by decide +kernel
theorem dLw_1031 : decode code 1031 = .ok (.if_icmp .eq 667, 3) := by decide +kernel
theorem dLw_1034 : decode code 1034 = .ok (.iconst 0, 1) := by decide +kernel
theorem dLw_1035 : decode code 1035 = .ok (.ireturn, 1) := by decide +kernel
theorem dLw_1036 : decode code 1036 = .ok (.aload_n 1, 1) := by decide +kernel
theorem dLw_1037 : decode code 1037 = .ok (.aload_n 0, 1) := by decide +kernel
theorem dLw_1038 : decode code 1038 = .ok (.iload_n 3, 1) := by decide +kernel
theorem dLw_1039 : decode code 1039 = .ok (.iconst 1, 1) := by decide +kernel
theorem dLw_1040 : decode code 1040 = .ok (.iadd, 1) := by decide +kernel
theorem dLw_1041 : decode code 1041 = .ok (.iaload, 1) := by decide +kernel
theorem dLw_1042 : decode code 1042 = .ok (.invokevirtual 109, 3) := by decide +kernel
theorem dLw_1045 : decode code 1045 = .ok (.aload_n 2, 1) := by decide +kernel
theorem dLw_1046 : decode code 1046 = .ok (.aload_n 0, 1) := by decide +kernel
theorem dLw_1047 : decode code 1047 = .ok (.iload_n 3, 1) := by decide +kernel
theorem dLw_1048 : decode code 1048 = .ok (.iconst 1, 1) := by decide +kernel
theorem dLw_1049 : decode code 1049 = .ok (.iadd, 1) := by decide +kernel
theorem dLw_1050 : decode code 1050 = .ok (.iaload, 1) := by decide +kernel
theorem dLw_1051 : decode code 1051 = .ok (.invokevirtual 113, 3) := by decide +kernel
theorem dLw_1054 : decode code 1054 = .ok (.lcmp, 1) := by decide +kernel
theorem dLw_1055 : decode code 1055 = .ok (.ifCond .eq 643, 3) := by decide +kernel
theorem dLw_1058 : decode code 1058 = .ok (.iconst 0, 1) := by decide +kernel
theorem dLw_1059 : decode code 1059 = .ok (.ireturn, 1) := by decide +kernel
theorem dLw_1060 : decode code 1060 = .ok (.aload_n 1, 1) := by decide +kernel
theorem dLw_1061 : decode code 1061 = .ok (.aload_n 0, 1) := by decide +kernel
theorem dLw_1062 : decode code 1062 = .ok (.iload_n 3, 1) := by decide +kernel
theorem dLw_1063 : decode code 1063 = .ok (.iconst 1, 1) := by decide +kernel
theorem dLw_1064 : decode code 1064 = .ok (.iadd, 1) := by decide +kernel
theorem dLw_1065 : decode code 1065 = .ok (.iaload, 1) := by decide +kernel
theorem dLw_1066 : decode code 1066 = .ok (.aload_n 0, 1) := by decide +kernel
theorem dLw_1067 : decode code 1067 = .ok (.iload_n 3, 1) := by decide +kernel
theorem dLw_1068 : decode code 1068 = .ok (.iconst 2, 1) := by decide +kernel
theorem dLw_1069 : decode code 1069 = .ok (.iadd, 1) := by decide +kernel
theorem dLw_1070 : decode code 1070 = .ok (.iaload, 1) := by decide +kernel
theorem dLw_1071 : decode code 1071 = .ok (.invokevirtual 114, 3) := by decide +kernel
theorem dLw_1074 : decode code 1074 = .ok (.aload_n 2, 1) := by decide +kernel
theorem dLw_1075 : decode code 1075 = .ok (.aload_n 0, 1) := by decide +kernel
theorem dLw_1076 : decode code 1076 = .ok (.iload_n 3, 1) := by decide +kernel
theorem dLw_1077 : decode code 1077 = .ok (.iconst 1, 1) := by decide +kernel
theorem dLw_1078 : decode code 1078 = .ok (.iadd, 1) := by decide +kernel
theorem dLw_1079 : decode code 1079 = .ok (.iaload, 1) := by decide +kernel
theorem dLw_1080 : decode code 1080 = .ok (.aload_n 0, 1) := by decide +kernel
theorem dLw_1081 : decode code 1081 = .ok (.iload_n 3, 1) := by decide +kernel
theorem dLw_1082 : decode code 1082 = .ok (.iconst 2, 1) := by decide +kernel
theorem dLw_1083 : decode code 1083 = .ok (.iadd, 1) := by decide +kernel
theorem dLw_1084 : decode code 1084 = .ok (.iaload, 1) := by decide +kernel
theorem dLw_1085 : decode code 1085 = .ok (.invokevirtual 118, 3) := by decide +kernel
theorem dLw_1088 : decode code 1088 = .ok (.lcmp, 1) := by decide +kernel
theorem dLw_1089 : decode code 1089 = .ok (.ifCond .eq 609, 3) := by decide +kernel
theorem dLw_1092 : decode code 1092 = .ok (.iconst 0, 1) := by decide +kernel
theorem dLw_1093 : decode code 1093 = .ok (.ireturn, 1) := by decide +kernel
theorem dLw_1094 : decode code 1094 = .ok (.aload_n 1, 1) := by decide +kernel
theorem dLw_1095 : decode code 1095 = .ok (.aload_n 0, 1) := by decide +kernel
theorem dLw_1096 : decode code 1096 = .ok (.iload_n 3, 1) := by decide +kernel
theorem dLw_1097 : decode code 1097 = .ok (.iconst 1, 1) := by decide +kernel
theorem dLw_1098 : decode code 1098 = .ok (.iadd, 1) := by decide +kernel
theorem dLw_1099 : decode code 1099 = .ok (.iaload, 1) := by decide +kernel
theorem dLw_1100 : decode code 1100 = .ok (.invokevirtual 119, 3) := by decide +kernel
theorem dLw_1103 : decode code 1103 = .ok (.aload_n 2, 1) := by decide +kernel
theorem dLw_1104 : decode code 1104 = .ok (.aload_n 0, 1) := by decide +kernel
theorem dLw_1105 : decode code 1105 = .ok (.iload_n 3, 1) := by decide +kernel
theorem dLw_1106 : decode code 1106 = .ok (.iconst 1, 1) := by decide +kernel
theorem dLw_1107 : decode code 1107 = .ok (.iadd, 1) := by decide +kernel
theorem dLw_1108 : decode code 1108 = .ok (.iaload, 1) := by decide +kernel
theorem dLw_1109 : decode code 1109 = .ok (.invokevirtual 122, 3) := by decide +kernel
