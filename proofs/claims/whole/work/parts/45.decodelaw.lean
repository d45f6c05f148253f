/-! decode rows of the law (printed) -/
theorem d_Lw_law_888 : decode code 888 = .ok (.iconst 0, 1) := by decide +kernel
theorem d_Lw_law_889 : decode code 889 = .ok (.ireturn, 1) := by decide +kernel
theorem d_Lw_law_890 : decode code 890 = .ok (.aload_n 1, 1) := by decide +kernel
theorem d_Lw_law_891 : decode code 891 = .ok (.aload_n 0, 1) := by decide +kernel
theorem d_Lw_law_892 : decode code 892 = .ok (.iload_n 3, 1) := by decide +kernel
theorem d_Lw_law_893 : decode code 893 = .ok (.iconst 1, 1) := by decide +kernel
theorem d_Lw_law_894 : decode code 894 = .ok (.iadd, 1) := by decide +kernel
theorem d_Lw_law_895 : decode code 895 = .ok (.iaload, 1) := by decide +kernel
theorem d_Lw_law_896 : decode code 896 = .ok (.aload_n 0, 1) := by decide +kernel
theorem d_Lw_law_897 : decode code 897 = .ok (.iload_n 3, 1) := by decide +kernel
theorem d_Lw_law_898 : decode code 898 = .ok (.iconst 2, 1) := by decide +kernel
theorem d_Lw_law_899 : decode code 899 = .ok (.iadd, 1) := by decide +kernel
theorem d_Lw_law_900 : decode code 900 = .ok (.iaload, 1) := by decide +kernel
theorem d_Lw_law_901 : decode code 901 = .ok (.aload_n 0, 1) := by decide +kernel
theorem d_Lw_law_902 : decode code 902 = .ok (.iload_n 3, 1) := by decide +kernel
theorem d_Lw_law_903 : decode code 903 = .ok (.iconst 3, 1) := by decide +kernel
theorem d_Lw_law_904 : decode code 904 = .ok (.iadd, 1) := by decide +kernel
theorem d_Lw_law_905 : decode code 905 = .ok (.iaload, 1) := by decide +kernel
theorem d_Lw_law_906 : decode code 906 = .ok (.invokevirtual 126, 3) := by decide +kernel
theorem d_Lw_law_909 : decode code 909 = .ok (.aload_n 2, 1) := by decide +kernel
theorem d_Lw_law_910 : decode code 910 = .ok (.aload_n 0, 1) := by decide +kernel
theorem d_Lw_law_911 : decode code 911 = .ok (.iload_n 3, 1) := by decide +kernel
theorem d_Lw_law_912 : decode code 912 = .ok (.iconst 1, 1) := by decide +kernel
theorem d_Lw_law_913 : decode code 913 = .ok (.iadd, 1) := by decide +kernel
theorem d_Lw_law_914 : decode code 914 = .ok (.iaload, 1) := by decide +kernel
theorem d_Lw_law_915 : decode code 915 = .ok (.aload_n 0, 1) := by decide +kernel
theorem d_Lw_law_916 : decode code 916 = .ok (.iload_n 3, 1) := by decide +kernel
theorem d_Lw_law_917 : decode code 917 = .ok (.iconst 2, 1) := by decide +kernel
theorem d_Lw_law_918 : decode code 918 = .ok (.iadd, 1) := by decide +kernel
theorem d_Lw_law_919 : decode code 919 = .ok (.iaload, 1) := by decide +kernel
theorem d_Lw_law_920 : decode code 920 = .ok (.aload_n 0, 1) := by decide +kernel
theorem d_Lw_law_921 : decode code 921 = .ok (.iload_n 3, 1) := by decide +kernel
theorem d_Lw_law_922 : decode code 922 = .ok (.iconst 3, 1) := by decide +kernel
theorem d_Lw_law_923 : decode code 923 = .ok (.iadd, 1) := by decide +kernel
theorem d_Lw_law_924 : decode code 924 = .ok (.iaload, 1) := by decide +kernel
theorem d_Lw_law_925 : decode code 925 = .ok (.invokevirtual 129, 3) := by decide +kernel
theorem d_Lw_law_928 : decode code 928 = .ok (.if_icmp .eq 257, 3) := by decide +kernel
theorem d_Lw_law_931 : decode code 931 = .ok (.iconst 0, 1) := by decide +kernel
theorem d_Lw_law_932 : decode code 932 = .ok (.ireturn, 1) := by decide +kernel
theorem d_Lw_law_933 : decode code 933 = .ok (.aload_n 1, 1) := by decide +kernel
theorem d_Lw_law_934 : decode code 934 = .ok (.aload_n 0, 1) := by decide +kernel
theorem d_Lw_law_935 : decode code 935 = .ok (.iload_n 3, 1) := by decide +kernel
theorem d_Lw_law_936 : decode code 936 = .ok (.iconst 1, 1) := by decide +kernel
theorem d_Lw_law_937 : decode code 937 = .ok (.iadd, 1) := by decide +kernel
theorem d_Lw_law_938 : decode code 938 = .ok (.iaload, 1) := by decide +kernel
theorem d_Lw_law_939 : decode code 939 = .ok (.invokevirtual 130, 3) := by decide +kernel
theorem d_Lw_law_942 : decode code 942 = .ok (.aload_n 2, 1) := by decide +kernel
theorem d_Lw_law_943 : decode code 943 = .ok (.aload_n 0, 1) := by decide +kernel
theorem d_Lw_law_944 : decode code 944 = .ok (.iload_n 3, 1) := by decide +kernel
theorem d_Lw_law_945 : decode code 945 = .ok (.iconst 1, 1) := by decide +kernel
theorem d_Lw_law_946 : decode code 946 = .ok (.iadd, 1) := by decide +kernel
theorem d_Lw_law_947 : decode code 947 = .ok (.iaload, 1) := by decide +kernel
theorem d_Lw_law_948 : decode code 948 = .ok (.invokevirtual 133, 3) := by decide +kernel
theorem d_Lw_law_951 : decode code 951 = .ok (.if_icmp .eq 234, 3) := by decide +kernel
theorem d_Lw_law_954 : decode code 954 = .ok (.iconst 0, 1) := by decide +kernel
theorem d_Lw_law_955 : decode code 955 = .ok (.ireturn, 1) := by decide +kernel
theorem d_Lw_law_956 : decode code 956 = .ok (.aload_n 1, 1) := by decide +kernel
theorem d_Lw_law_957 : decode code 957 = .ok (.aload_n 0, 1) := by decide +kernel
theorem d_Lw_law_958 : decode code 958 = .ok (.iload_n 3, 1) := by decide +kernel
theorem d_Lw_law_959 : decode code 959 = .ok (.iconst 1, 1) := by decide +kernel
theorem d_Lw_law_960 : decode code 960 = .ok (.iadd, 1) := by decide +kernel
theorem d_Lw_law_961 : decode code 961 = .ok (.iaload, 1) := by decide +kernel
theorem d_Lw_law_962 : decode code 962 = .ok (.aload_n 0, 1) := by decide +kernel
theorem d_Lw_law_963 : decode code 963 = .ok (.iload_n 3, 1) := by decide +kernel
theorem d_Lw_law_964 : decode code 964 = .ok (.iconst 2, 1) := by decide +kernel
theorem d_Lw_law_965 : decode code 965 = .ok (.iadd, 1) := by decide +kernel
theorem d_Lw_law_966 : decode code 966 = .ok (.iaload, 1) := by decide +kernel
theorem d_Lw_law_967 : decode code 967 = .ok (.aload_n 0, 1) := by decide +kernel
theorem d_Lw_law_968 : decode code 968 = .ok (.iload_n 3, 1) := by decide +kernel
theorem d_Lw_law_969 : decode code 969 = .ok (.iconst 3, 1) := by decide +kernel
theorem d_Lw_law_970 : decode code 970 = .ok (.iadd, 1) := by decide +kernel
theorem d_Lw_law_971 : decode code 971 = .ok (.iaload, 1) := by decide +kernel
theorem d_Lw_law_972 : decode code 972 = .ok (.aload_n 0, 1) := by decide +kernel
theorem d_Lw_law_973 : decode code 973 = .ok (.iload_n 3, 1) := by decide +kernel
theorem d_Lw_law_974 : decode code 974 = .ok (.iconst 4, 1) := by decide +kernel
theorem d_Lw_law_975 : decode code 975 = .ok (.iadd, 1) := by decide +kernel
theorem d_Lw_law_976 : decode code 976 = .ok (.iaload, 1) := by decide +kernel
theorem d_Lw_law_977 : decode code 977 = .ok (.invokevirtual 134, 3) := by decide +kernel
theorem d_Lw_law_980 : decode code 980 = .ok (.aload_n 2, 1) := by decide +kernel
theorem d_Lw_law_981 : decode code 981 = .ok (.aload_n 0, 1) := by decide +kernel
theorem d_Lw_law_982 : decode code 982 = .ok (.iload_n 3, 1) := by decide +kernel
theorem d_Lw_law_983 : decode code 983 = .ok (.iconst 1, 1) := by decide +kernel
theorem d_Lw_law_984 : decode code 984 = .ok (.iadd, 1) := by decide +kernel
theorem d_Lw_law_985 : decode code 985 = .ok (.iaload, 1) := by decide +kernel
theorem d_Lw_law_986 : decode code 986 = .ok (.aload_n 0, 1) := by decide +kernel
theorem d_Lw_law_987 : decode code 987 = .ok (.iload_n 3, 1) := by decide +kernel
theorem d_Lw_law_988 : decode code 988 = .ok (.iconst 2, 1) := by decide +kernel
theorem d_Lw_law_989 : decode code 989 = .ok (.iadd, 1) := by decide +kernel
theorem d_Lw_law_990 : decode code 990 = .ok (.iaload, 1) := by decide +kernel
theorem d_Lw_law_991 : decode code 991 = .ok (.aload_n 0, 1) := by decide +kernel
theorem d_Lw_law_992 : decode code 992 = .ok (.iload_n 3, 1) := by decide +kernel
theorem d_Lw_law_993 : decode code 993 = .ok (.iconst 3, 1) := by decide +kernel
theorem d_Lw_law_994 : decode code 994 = .ok (.iadd, 1) := by decide +kernel
theorem d_Lw_law_995 : decode code 995 = .ok (.iaload, 1) := by decide +kernel
theorem d_Lw_law_996 : decode code 996 = .ok (.aload_n 0, 1) := by decide +kernel
theorem d_Lw_law_997 : decode code 997 = .ok (.iload_n 3, 1) := by decide +kernel
theorem d_Lw_law_998 : decode code 998 = .ok (.iconst 4, 1) := by decide +kernel
theorem d_Lw_law_999 : decode code 999 = .ok (.iadd, 1) := by decide +kernel
theorem d_Lw_law_1000 : decode code 1000 = .ok (.iaload, 1) := by decide +kernel
theorem d_Lw_law_1001 : decode code 1001 = .ok (.invokevirtual 138, 3) := by decide +kernel
theorem d_Lw_law_1004 : decode code 1004 = .ok (.if_icmp .eq 181, 3) := by decide +kernel
theorem d_Lw_law_1007 : decode code 1007 = .ok (.iconst 0, 1) := by decide +kernel
theorem d_Lw_law_1008 : decode code 1008 = .ok (.ireturn, 1) := by decide +kernel
theorem d_Lw_law_1009 : decode code 1009 = .ok (.aload_n 1, 1) := by decide +kernel
theorem d_Lw_law_1010 : decode code 1010 = .ok (.aload_n 0, 1) := by decide +kernel
theorem d_Lw_law_1011 : decode code 1011 = .ok (.iload_n 3, 1) := by decide +kernel
theorem d_Lw_law_1012 : decode code 1012 = .ok (.iconst 1, 1) := by decide +kernel
theorem d_Lw_law_1013 : decode code 1013 = .ok (.iadd, 1) := by decide +kernel
theorem d_Lw_law_1014 : decode code 1014 = .ok (.iaload, 1) := by decide +kernel
theorem d_Lw_law_1015 : decode code 1015 = .ok (.aload_n 0, 1) := by decide +kernel
theorem d_Lw_law_1016 : decode code 1016 = .ok (.iload_n 3, 1) := by decide +kernel
theorem d_Lw_law_1017 : decode code 1017 = .ok (.iconst 2, 1) := by decide +kernel
theorem d_Lw_law_1018 : decode code 1018 = .ok (.iadd, 1) := by decide +kernel
theorem d_Lw_law_1019 : decode code 1019 = .ok (.iaload, 1) := by decide +kernel
theorem d_Lw_law_1020 : decode code 1020 = .ok (.aload_n 0, 1) := by decide +kernel
theorem d_Lw_law_1021 : decode code 1021 = .ok (.iload_n 3, 1) := by decide +kernel
theorem d_Lw_law_1022 : decode code 1022 = .ok (.iconst 3, 1) := by decide +kernel
theorem d_Lw_law_1023 : decode code 1023 = .ok (.iadd, 1) := by decide +kernel
theorem d_Lw_law_1024 : decode code 1024 = .ok (.iaload, 1) := by decide +kernel
theorem d_Lw_law_1025 : decode code 1025 = .ok (.invokevirtual 139, 3) := by decide +kernel
theorem d_Lw_law_1028 : decode code 1028 = .ok (.aload_n 2, 1) := by decide +kernel
theorem d_Lw_law_1029 : decode code 1029 = .ok (.aload_n 0, 1) := by decide +kernel
theorem d_Lw_law_1030 : decode code 1030 = .ok (.iload_n 3, 1) := by decide +kernel
theorem d_Lw_law_1031 : decode code 1031 = .ok (.iconst 1, 1) := by decide +kernel
theorem d_Lw_law_1032 : decode code 1032 = .ok (.iadd, 1) := by decide +kernel
theorem d_Lw_law_1033 : decode code 1033 = .ok (.iaload, 1) := by decide +kernel
theorem d_Lw_law_1034 : decode code 1034 = .ok (.aload_n 0, 1) := by decide +kernel
theorem d_Lw_law_1035 : decode code 1035 = .ok (.iload_n 3, 1) := by decide +kernel
theorem d_Lw_law_1036 : decode code 1036 = .ok (.iconst 2, 1) := by decide +kernel
theorem d_Lw_law_1037 : decode code 1037 = .ok (.iadd, 1) := by decide +kernel
theorem d_Lw_law_1038 : decode code 1038 = .ok (.iaload, 1) := by decide +kernel
theorem d_Lw_law_1039 : decode code 1039 = .ok (.aload_n 0, 1) := by decide +kernel
theorem d_Lw_law_1040 : decode code 1040 = .ok (.iload_n 3, 1) := by decide +kernel
theorem d_Lw_law_1041 : decode code 1041 = .ok (.iconst 3, 1) := by decide +kernel
theorem d_Lw_law_1042 : decode code 1042 = .ok (.iadd, 1) := by decide +kernel
theorem d_Lw_law_1043 : decode code 1043 = .ok (.iaload, 1) := by decide +kernel
theorem d_Lw_law_1044 : decode code 1044 = .ok (.invokevirtual 142, 3) := by decide +kernel
theorem d_Lw_law_1047 : decode code 1047 = .ok (.if_icmp .eq 138, 3) := by decide +kernel
theorem d_Lw_law_1050 : decode code 1050 = .ok (.iconst 0, 1) := by decide +kernel
theorem d_Lw_law_1051 : decode code 1051 = .ok (.ireturn, 1) := by decide +kernel
theorem d_Lw_law_1052 : decode code 1052 = .ok (.aload_n 1, 1) := by decide +kernel
theorem d_Lw_law_1053 : decode code 1053 = .ok (.aload_n 0, 1) := by decide +kernel
theorem d_Lw_law_1054 : decode code 1054 = .ok (.iload_n 3, 1) := by decide +kernel
theorem d_Lw_law_1055 : decode code 1055 = .ok (.iconst 1, 1) := by decide +kernel
theorem d_Lw_law_1056 : decode code 1056 = .ok (.iadd, 1) := by decide +kernel
theorem d_Lw_law_1057 : decode code 1057 = .ok (.iaload, 1) := by decide +kernel
theorem d_Lw_law_1058 : decode code 1058 = .ok (.aload_n 0, 1) := by decide +kernel
theorem d_Lw_law_1059 : decode code 1059 = .ok (.iload_n 3, 1) := by decide +kernel
theorem d_Lw_law_1060 : decode code 1060 = .ok (.iconst 2, 1) := by decide +kernel
theorem d_Lw_law_1061 : decode code 1061 = .ok (.iadd, 1) := by decide +kernel
theorem d_Lw_law_1062 : decode code 1062 = .ok (.iaload, 1) := by decide +kernel
theorem d_Lw_law_1063 : decode code 1063 = .ok (.aload_n 0, 1) := by decide +kernel
theorem d_Lw_law_1064 : decode code 1064 = .ok (.iload_n 3, 1) := by decide +kernel
theorem d_Lw_law_1065 : decode code 1065 = .ok (.iconst 3, 1) := by decide +kernel
theorem d_Lw_law_1066 : decode code 1066 = .ok (.iadd, 1) := by decide +kernel
theorem d_Lw_law_1067 : decode code 1067 = .ok (.iaload, 1) := by decide +kernel
theorem d_Lw_law_1068 : decode code 1068 = .ok (.aload_n 0, 1) := by decide +kernel
theorem d_Lw_law_1069 : decode code 1069 = .ok (.iload_n 3, 1) := by decide +kernel
theorem d_Lw_law_1070 : decode code 1070 = .ok (.iconst 4, 1) := by decide +kernel
theorem d_Lw_law_1071 : decode code 1071 = .ok (.iadd, 1) := by decide +kernel
theorem d_Lw_law_1072 : decode code 1072 = .ok (.iaload, 1) := by decide +kernel
theorem d_Lw_law_1073 : decode code 1073 = .ok (.aload_n 0, 1) := by decide +kernel
theorem d_Lw_law_1074 : decode code 1074 = .ok (.iload_n 3, 1) := by decide +kernel
theorem d_Lw_law_1075 : decode code 1075 = .ok (.iconst 5, 1) := by decide +kernel
theorem d_Lw_law_1076 : decode code 1076 = .ok (.iadd, 1) := by decide +kernel
theorem d_Lw_law_1077 : decode code 1077 = .ok (.iaload, 1) := by decide +kernel
theorem d_Lw_law_1078 : decode code 1078 = .ok (.invokevirtual 143, 3) := by decide +kernel
theorem d_Lw_law_1081 : decode code 1081 = .ok (.aload_n 2, 1) := by decide +kernel
theorem d_Lw_law_1082 : decode code 1082 = .ok (.aload_n 0, 1) := by decide +kernel
theorem d_Lw_law_1083 : decode code 1083 = .ok (.iload_n 3, 1) := by decide +kernel
theorem d_Lw_law_1084 : decode code 1084 = .ok (.iconst 1, 1) := by decide +kernel
theorem d_Lw_law_1085 : decode code 1085 = .ok (.iadd, 1) := by decide +kernel
theorem d_Lw_law_1086 : decode code 1086 = .ok (.iaload, 1) := by decide +kernel
theorem d_Lw_law_1087 : decode code 1087 = .ok (.aload_n 0, 1) := by decide +kernel
theorem d_Lw_law_1088 : decode code 1088 = .ok (.iload_n 3, 1) := by decide +kernel
theorem d_Lw_law_1089 : decode code 1089 = .ok (.iconst 2, 1) := by decide +kernel
theorem d_Lw_law_1090 : decode code 1090 = .ok (.iadd, 1) := by decide +kernel
theorem d_Lw_law_1091 : decode code 1091 = .ok (.iaload, 1) := by decide +kernel
theorem d_Lw_law_1092 : decode code 1092 = .ok (.aload_n 0, 1) := by decide +kernel
theorem d_Lw_law_1093 : decode code 1093 = .ok (.iload_n 3, 1) := by decide +kernel
theorem d_Lw_law_1094 : decode code 1094 = .ok (.iconst 3, 1) := by decide +kernel
theorem d_Lw_law_1095 : decode code 1095 = .ok (.iadd, 1) := by decide +kernel
theorem d_Lw_law_1096 : decode code 1096 = .ok (.iaload, 1) := by decide +kernel
theorem d_Lw_law_1097 : decode code 1097 = .ok (.aload_n 0, 1) := by decide +kernel
theorem d_Lw_law_1098 : decode code 1098 = .ok (.iload_n 3, 1) := by decide +kernel
theorem d_Lw_law_1099 : decode code 1099 = .ok (.iconst 4, 1) := by decide +kernel
theorem d_Lw_law_1100 : decode code 1100 = .ok (.iadd, 1) := by decide +kernel
theorem d_Lw_law_1101 : decode code 1101 = .ok (.iaload, 1) := by decide +kernel
theorem d_Lw_law_1102 : decode code 1102 = .ok (.aload_n 0, 1) := by decide +kernel
theorem d_Lw_law_1103 : decode code 1103 = .ok (.iload_n 3, 1) := by decide +kernel
theorem d_Lw_law_1104 : decode code 1104 = .ok (.iconst 5, 1) := by decide +kernel
theorem d_Lw_law_1105 : decode code 1105 = .ok (.iadd, 1) := by decide +kernel
theorem d_Lw_law_1106 : decode code 1106 = .ok (.iaload, 1) := by decide +kernel
theorem d_Lw_law_1107 : decode code 1107 = .ok (.invokevirtual 147, 3) := by decide +kernel
theorem d_Lw_law_1110 : decode code 1110 = .ok (.if_icmp .eq 75, 3) := by decide +kernel
theorem d_Lw_law_1113 : decode code 1113 = .ok (.iconst 0, 1) := by decide +kernel
theorem d_Lw_law_1114 : decode code 1114 = .ok (.ireturn, 1) := by decide +kernel
theorem d_Lw_law_1115 : decode code 1115 = .ok (.aload_n 1, 1) := by decide +kernel
theorem d_Lw_law_1116 : decode code 1116 = .ok (.aload_n 0, 1) := by decide +kernel
theorem d_Lw_law_1117 : decode code 1117 = .ok (.iload_n 3, 1) := by decide +kernel
theorem d_Lw_law_1118 : decode code 1118 = .ok (.iconst 1, 1) := by decide +kernel
theorem d_Lw_law_1119 : decode code 1119 = .ok (.iadd, 1) := by decide +kernel
theorem d_Lw_law_1120 : decode code 1120 = .ok (.iaload, 1) := by decide +kernel
theorem d_Lw_law_1121 : decode code 1121 = .ok (.aload_n 0, 1) := by decide +kernel
theorem d_Lw_law_1122 : decode code 1122 = .ok (.iload_n 3, 1) := by decide +kernel
theorem d_Lw_law_1123 : decode code 1123 = .ok (.iconst 2, 1) := by decide +kernel
theorem d_Lw_law_1124 : decode code 1124 = .ok (.iadd, 1) := by decide +kernel
theorem d_Lw_law_1125 : decode code 1125 = .ok (.iaload, 1) := by decide +kernel
theorem d_Lw_law_1126 : decode code 1126 = .ok (.invokevirtual 148, 3) := by decide +kernel
theorem d_Lw_law_1129 : decode code 1129 = .ok (.aload_n 2, 1) := by decide +kernel
theorem d_Lw_law_1130 : decode code 1130 = .ok (.aload_n 0, 1) := by decide +kernel
theorem d_Lw_law_1131 : decode code 1131 = .ok (.iload_n 3, 1) := by decide +kernel
theorem d_Lw_law_1132 : decode code 1132 = .ok (.iconst 1, 1) := by decide +kernel
theorem d_Lw_law_1133 : decode code 1133 = .ok (.iadd, 1) := by decide +kernel
theorem d_Lw_law_1134 : decode code 1134 = .ok (.iaload, 1) := by decide +kernel
theorem d_Lw_law_1135 : decode code 1135 = .ok (.aload_n 0, 1) := by decide +kernel
theorem d_Lw_law_1136 : decode code 1136 = .ok (.iload_n 3, 1) := by decide +kernel
theorem d_Lw_law_1137 : decode code 1137 = .ok (.iconst 2, 1) := by decide +kernel
theorem d_Lw_law_1138 : decode code 1138 = .ok (.iadd, 1) := by decide +kernel
theorem d_Lw_law_1139 : decode code 1139 = .ok (.iaload, 1) := by decide +kernel
theorem d_Lw_law_1140 : decode code 1140 = .ok (.invokevirtual 151, 3) := by decide +kernel
theorem d_Lw_law_1143 : decode code 1143 = .ok (.if_icmp .eq 42, 3) := by decide +kernel
theorem d_Lw_law_1146 : decode code 1146 = .ok (.iconst 0, 1) := by decide +kernel
theorem d_Lw_law_1147 : decode code 1147 = .ok (.ireturn, 1) := by decide +kernel
theorem d_Lw_law_1148 : decode code 1148 = .ok (.aload_n 1, 1) := by decide +kernel
theorem d_Lw_law_1149 : decode code 1149 = .ok (.aload_n 0, 1) := by decide +kernel
theorem d_Lw_law_1150 : decode code 1150 = .ok (.iload_n 3, 1) := by decide +kernel
theorem d_Lw_law_1151 : decode code 1151 = .ok (.iconst 1, 1) := by decide +kernel
theorem d_Lw_law_1152 : decode code 1152 = .ok (.iadd, 1) := by decide +kernel
theorem d_Lw_law_1153 : decode code 1153 = .ok (.iaload, 1) := by decide +kernel
theorem d_Lw_law_1154 : decode code 1154 = .ok (.invokevirtual 152, 3) := by decide +kernel
theorem d_Lw_law_1157 : decode code 1157 = .ok (.aload_n 2, 1) := by decide +kernel
theorem d_Lw_law_1158 : decode code 1158 = .ok (.aload_n 0, 1) := by decide +kernel
theorem d_Lw_law_1159 : decode code 1159 = .ok (.iload_n 3, 1) := by decide +kernel
theorem d_Lw_law_1160 : decode code 1160 = .ok (.iconst 1, 1) := by decide +kernel
theorem d_Lw_law_1161 : decode code 1161 = .ok (.iadd, 1) := by decide +kernel
theorem d_Lw_law_1162 : decode code 1162 = .ok (.iaload, 1) := by decide +kernel
theorem d_Lw_law_1163 : decode code 1163 = .ok (.invokevirtual 155, 3) := by decide +kernel
theorem d_Lw_law_1166 : decode code 1166 = .ok (.if_icmp .eq 19, 3) := by decide +kernel
theorem d_Lw_law_1169 : decode code 1169 = .ok (.iconst 0, 1) := by decide +kernel
theorem d_Lw_law_1170 : decode code 1170 = .ok (.ireturn, 1) := by decide +kernel
theorem d_Lw_law_1171 : decode code 1171 = .ok (.aload_n 1, 1) := by decide +kernel
theorem d_Lw_law_1172 : decode code 1172 = .ok (.invokevirtual 156, 3) := by decide +kernel
theorem d_Lw_law_1175 : decode code 1175 = .ok (.aload_n 2, 1) := by decide +kernel
theorem d_Lw_law_1176 : decode code 1176 = .ok (.invokevirtual 160, 3) := by decide +kernel
theorem d_Lw_law_1179 : decode code 1179 = .ok (.lcmp, 1) := by decide +kernel
theorem d_Lw_law_1180 : decode code 1180 = .ok (.ifCond .eq 5, 3) := by decide +kernel
theorem d_Lw_law_1183 : decode code 1183 = .ok (.iconst 0, 1) := by decide +kernel
theorem d_Lw_law_1184 : decode code 1184 = .ok (.ireturn, 1) := by decide +kernel
theorem d_Lw_law_1185 : decode code 1185 = .ok (.iinc 3 6, 3) := by decide +kernel
theorem d_Lw_law_1188 : decode code 1188 = .ok (.goto (-1170), 3) := by decide +kernel
theorem d_Lw_law_1191 : decode code 1191 = .ok (.iconst 1, 1) := by decide +kernel
theorem d_Lw_law_1192 : decode code 1192 = .ok (.ireturn, 1) := by decide +kernel
