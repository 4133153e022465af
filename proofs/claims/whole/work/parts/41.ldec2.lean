theorem d_L_law_824 : decode code 824 = .ok (.iaload, 1) := by decide +kernel
theorem d_L_law_825 : decode code 825 = .ok (.invokevirtual 144, 3) := by decide +kernel
theorem d_L_law_828 : decode code 828 = .ok (.istore 6, 2) := by decide +kernel
theorem d_L_law_830 : decode code 830 = .ok (.aload_n 2, 1) := by decide +kernel
theorem d_L_law_831 : decode code 831 = .ok (.invokevirtual 97, 3) := by decide +kernel
theorem d_L_law_834 : decode code 834 = .ok (.iload 5, 2) := by decide +kernel
theorem d_L_law_836 : decode code 836 = .ok (.if_icmp .eq 5, 3) := by decide +kernel
theorem d_L_law_841 : decode code 841 = .ok (.iload 5, 2) := by decide +kernel
theorem d_L_law_843 : decode code 843 = .ok (.ifCond .ne 15, 3) := by decide +kernel
theorem d_L_law_846 : decode code 846 = .ok (.aload_n 3, 1) := by decide +kernel
theorem d_L_law_847 : decode code 847 = .ok (.iconst 0, 1) := by decide +kernel
theorem d_L_law_848 : decode code 848 = .ok (.laload, 1) := by decide +kernel
theorem d_L_law_849 : decode code 849 = .ok (.iload 6, 2) := by decide +kernel
theorem d_L_law_851 : decode code 851 = .ok (.i2l, 1) := by decide +kernel
theorem d_L_law_852 : decode code 852 = .ok (.lcmp, 1) := by decide +kernel
theorem d_L_law_853 : decode code 853 = .ok (.ifCond .eq 5, 3) := by decide +kernel
theorem d_L_law_858 : decode code 858 = .ok (.goto 373, 3) := by decide +kernel
theorem d_L_law_861 : decode code 861 = .ok (.aload_n 1, 1) := by decide +kernel
theorem d_L_law_862 : decode code 862 = .ok (.aload_n 0, 1) := by decide +kernel
theorem d_L_law_863 : decode code 863 = .ok (.iload 4, 2) := by decide +kernel
theorem d_L_law_865 : decode code 865 = .ok (.iconst 1, 1) := by decide +kernel
theorem d_L_law_866 : decode code 866 = .ok (.iadd, 1) := by decide +kernel
theorem d_L_law_867 : decode code 867 = .ok (.iaload, 1) := by decide +kernel
theorem d_L_law_868 : decode code 868 = .ok (.aload_n 3, 1) := by decide +kernel
theorem d_L_law_869 : decode code 869 = .ok (.invokestatic 145, 3) := by decide +kernel
theorem d_L_law_872 : decode code 872 = .ok (.istore 5, 2) := by decide +kernel
theorem d_L_law_874 : decode code 874 = .ok (.aload_n 2, 1) := by decide +kernel
theorem d_L_law_875 : decode code 875 = .ok (.aload_n 0, 1) := by decide +kernel
theorem d_L_law_876 : decode code 876 = .ok (.iload 4, 2) := by decide +kernel
theorem d_L_law_878 : decode code 878 = .ok (.iconst 1, 1) := by decide +kernel
theorem d_L_law_879 : decode code 879 = .ok (.iadd, 1) := by decide +kernel
theorem d_L_law_880 : decode code 880 = .ok (.iaload, 1) := by decide +kernel
theorem d_L_law_881 : decode code 881 = .ok (.invokevirtual 147, 3) := by decide +kernel
theorem d_L_law_884 : decode code 884 = .ok (.istore 6, 2) := by decide +kernel
theorem d_L_law_886 : decode code 886 = .ok (.aload_n 2, 1) := by decide +kernel
theorem d_L_law_887 : decode code 887 = .ok (.invokevirtual 97, 3) := by decide +kernel
theorem d_L_law_890 : decode code 890 = .ok (.iload 5, 2) := by decide +kernel
theorem d_L_law_892 : decode code 892 = .ok (.if_icmp .eq 5, 3) := by decide +kernel
theorem d_L_law_897 : decode code 897 = .ok (.iload 5, 2) := by decide +kernel
theorem d_L_law_899 : decode code 899 = .ok (.ifCond .ne 15, 3) := by decide +kernel
theorem d_L_law_902 : decode code 902 = .ok (.aload_n 3, 1) := by decide +kernel
theorem d_L_law_903 : decode code 903 = .ok (.iconst 0, 1) := by decide +kernel
theorem d_L_law_904 : decode code 904 = .ok (.laload, 1) := by decide +kernel
theorem d_L_law_905 : decode code 905 = .ok (.iload 6, 2) := by decide +kernel
theorem d_L_law_907 : decode code 907 = .ok (.i2l, 1) := by decide +kernel
theorem d_L_law_908 : decode code 908 = .ok (.lcmp, 1) := by decide +kernel
theorem d_L_law_909 : decode code 909 = .ok (.ifCond .eq 5, 3) := by decide +kernel
theorem d_L_law_914 : decode code 914 = .ok (.goto 317, 3) := by decide +kernel
theorem d_L_law_917 : decode code 917 = .ok (.aload_n 1, 1) := by decide +kernel
theorem d_L_law_918 : decode code 918 = .ok (.aload_n 3, 1) := by decide +kernel
theorem d_L_law_919 : decode code 919 = .ok (.invokestatic 148, 3) := by decide +kernel
theorem d_L_law_922 : decode code 922 = .ok (.istore 5, 2) := by decide +kernel
theorem d_L_law_924 : decode code 924 = .ok (.aload_n 2, 1) := by decide +kernel
theorem d_L_law_925 : decode code 925 = .ok (.invokevirtual 150, 3) := by decide +kernel
theorem d_L_law_928 : decode code 928 = .ok (.lstore 6, 2) := by decide +kernel
theorem d_L_law_930 : decode code 930 = .ok (.aload_n 2, 1) := by decide +kernel
theorem d_L_law_931 : decode code 931 = .ok (.invokevirtual 97, 3) := by decide +kernel
theorem d_L_law_934 : decode code 934 = .ok (.iload 5, 2) := by decide +kernel
theorem d_L_law_936 : decode code 936 = .ok (.if_icmp .eq 5, 3) := by decide +kernel
theorem d_L_law_941 : decode code 941 = .ok (.iload 5, 2) := by decide +kernel
theorem d_L_law_943 : decode code 943 = .ok (.ifCond .ne 14, 3) := by decide +kernel
theorem d_L_law_946 : decode code 946 = .ok (.aload_n 3, 1) := by decide +kernel
theorem d_L_law_947 : decode code 947 = .ok (.iconst 0, 1) := by decide +kernel
theorem d_L_law_948 : decode code 948 = .ok (.laload, 1) := by decide +kernel
theorem d_L_law_949 : decode code 949 = .ok (.lload 6, 2) := by decide +kernel
theorem d_L_law_951 : decode code 951 = .ok (.lcmp, 1) := by decide +kernel
theorem d_L_law_952 : decode code 952 = .ok (.ifCond .eq 5, 3) := by decide +kernel
theorem d_L_law_957 : decode code 957 = .ok (.goto 274, 3) := by decide +kernel
theorem d_L_law_960 : decode code 960 = .ok (.aload_n 1, 1) := by decide +kernel
theorem d_L_law_961 : decode code 961 = .ok (.invokestatic 151, 3) := by decide +kernel
theorem d_L_law_964 : decode code 964 = .ok (.istore 5, 2) := by decide +kernel
theorem d_L_law_966 : decode code 966 = .ok (.aload_n 2, 1) := by decide +kernel
theorem d_L_law_967 : decode code 967 = .ok (.invokevirtual 154, 3) := by decide +kernel
theorem d_L_law_970 : decode code 970 = .ok (.aload_n 2, 1) := by decide +kernel
theorem d_L_law_971 : decode code 971 = .ok (.invokevirtual 97, 3) := by decide +kernel
theorem d_L_law_974 : decode code 974 = .ok (.iload 5, 2) := by decide +kernel
theorem d_L_law_976 : decode code 976 = .ok (.if_icmp .eq 5, 3) := by decide +kernel
theorem d_L_law_981 : decode code 981 = .ok (.goto 250, 3) := by decide +kernel
theorem d_L_law_984 : decode code 984 = .ok (.aload_n 1, 1) := by decide +kernel
theorem d_L_law_985 : decode code 985 = .ok (.aload_n 0, 1) := by decide +kernel
theorem d_L_law_986 : decode code 986 = .ok (.iload 4, 2) := by decide +kernel
theorem d_L_law_988 : decode code 988 = .ok (.iconst 1, 1) := by decide +kernel
theorem d_L_law_989 : decode code 989 = .ok (.iadd, 1) := by decide +kernel
theorem d_L_law_990 : decode code 990 = .ok (.iaload, 1) := by decide +kernel
theorem d_L_law_991 : decode code 991 = .ok (.aload_n 3, 1) := by decide +kernel
theorem d_L_law_992 : decode code 992 = .ok (.invokestatic 155, 3) := by decide +kernel
theorem d_L_law_995 : decode code 995 = .ok (.istore 5, 2) := by decide +kernel
theorem d_L_law_997 : decode code 997 = .ok (.aload_n 2, 1) := by decide +kernel
theorem d_L_law_998 : decode code 998 = .ok (.aload_n 0, 1) := by decide +kernel
theorem d_L_law_999 : decode code 999 = .ok (.iload 4, 2) := by decide +kernel
theorem d_L_law_1001 : decode code 1001 = .ok (.iconst 1, 1) := by decide +kernel
theorem d_L_law_1002 : decode code 1002 = .ok (.iadd, 1) := by decide +kernel
theorem d_L_law_1003 : decode code 1003 = .ok (.iaload, 1) := by decide +kernel
theorem d_L_law_1004 : decode code 1004 = .ok (.invokevirtual 157, 3) := by decide +kernel
theorem d_L_law_1007 : decode code 1007 = .ok (.istore 6, 2) := by decide +kernel
theorem d_L_law_1009 : decode code 1009 = .ok (.aload_n 2, 1) := by decide +kernel
theorem d_L_law_1010 : decode code 1010 = .ok (.invokevirtual 97, 3) := by decide +kernel
theorem d_L_law_1013 : decode code 1013 = .ok (.iload 5, 2) := by decide +kernel
theorem d_L_law_1015 : decode code 1015 = .ok (.if_icmp .eq 5, 3) := by decide +kernel
theorem d_L_law_1020 : decode code 1020 = .ok (.iload 5, 2) := by decide +kernel
theorem d_L_law_1022 : decode code 1022 = .ok (.ifCond .ne 15, 3) := by decide +kernel
theorem d_L_law_1025 : decode code 1025 = .ok (.aload_n 3, 1) := by decide +kernel
theorem d_L_law_1026 : decode code 1026 = .ok (.iconst 0, 1) := by decide +kernel
theorem d_L_law_1027 : decode code 1027 = .ok (.laload, 1) := by decide +kernel
theorem d_L_law_1028 : decode code 1028 = .ok (.iload 6, 2) := by decide +kernel
theorem d_L_law_1030 : decode code 1030 = .ok (.i2l, 1) := by decide +kernel
theorem d_L_law_1031 : decode code 1031 = .ok (.lcmp, 1) := by decide +kernel
theorem d_L_law_1032 : decode code 1032 = .ok (.ifCond .eq 5, 3) := by decide +kernel
theorem d_L_law_1037 : decode code 1037 = .ok (.goto 194, 3) := by decide +kernel
theorem d_L_law_1040 : decode code 1040 = .ok (.aload_n 1, 1) := by decide +kernel
theorem d_L_law_1041 : decode code 1041 = .ok (.aload_n 0, 1) := by decide +kernel
theorem d_L_law_1042 : decode code 1042 = .ok (.iload 4, 2) := by decide +kernel
theorem d_L_law_1044 : decode code 1044 = .ok (.iconst 1, 1) := by decide +kernel
theorem d_L_law_1045 : decode code 1045 = .ok (.iadd, 1) := by decide +kernel
theorem d_L_law_1046 : decode code 1046 = .ok (.iaload, 1) := by decide +kernel
theorem d_L_law_1047 : decode code 1047 = .ok (.invokestatic 158, 3) := by decide +kernel
theorem d_L_law_1050 : decode code 1050 = .ok (.istore 5, 2) := by decide +kernel
theorem d_L_law_1052 : decode code 1052 = .ok (.aload_n 2, 1) := by decide +kernel
theorem d_L_law_1053 : decode code 1053 = .ok (.aload_n 0, 1) := by decide +kernel
theorem d_L_law_1054 : decode code 1054 = .ok (.iload 4, 2) := by decide +kernel
theorem d_L_law_1056 : decode code 1056 = .ok (.iconst 1, 1) := by decide +kernel
theorem d_L_law_1057 : decode code 1057 = .ok (.iadd, 1) := by decide +kernel
theorem d_L_law_1058 : decode code 1058 = .ok (.iaload, 1) := by decide +kernel
theorem d_L_law_1059 : decode code 1059 = .ok (.invokevirtual 160, 3) := by decide +kernel
theorem d_L_law_1062 : decode code 1062 = .ok (.aload_n 2, 1) := by decide +kernel
theorem d_L_law_1063 : decode code 1063 = .ok (.invokevirtual 97, 3) := by decide +kernel
theorem d_L_law_1066 : decode code 1066 = .ok (.iload 5, 2) := by decide +kernel
theorem d_L_law_1068 : decode code 1068 = .ok (.if_icmp .eq 5, 3) := by decide +kernel
theorem d_L_law_1073 : decode code 1073 = .ok (.goto 158, 3) := by decide +kernel
theorem d_L_law_1076 : decode code 1076 = .ok (.aload_n 1, 1) := by decide +kernel
theorem d_L_law_1077 : decode code 1077 = .ok (.aload_n 0, 1) := by decide +kernel
theorem d_L_law_1078 : decode code 1078 = .ok (.iload 4, 2) := by decide +kernel
theorem d_L_law_1080 : decode code 1080 = .ok (.iconst 1, 1) := by decide +kernel
theorem d_L_law_1081 : decode code 1081 = .ok (.iadd, 1) := by decide +kernel
theorem d_L_law_1082 : decode code 1082 = .ok (.iaload, 1) := by decide +kernel
theorem d_L_law_1083 : decode code 1083 = .ok (.aload_n 3, 1) := by decide +kernel
theorem d_L_law_1084 : decode code 1084 = .ok (.invokestatic 161, 3) := by decide +kernel
theorem d_L_law_1087 : decode code 1087 = .ok (.istore 5, 2) := by decide +kernel
theorem d_L_law_1089 : decode code 1089 = .ok (.aload_n 2, 1) := by decide +kernel
theorem d_L_law_1090 : decode code 1090 = .ok (.aload_n 0, 1) := by decide +kernel
theorem d_L_law_1091 : decode code 1091 = .ok (.iload 4, 2) := by decide +kernel
theorem d_L_law_1093 : decode code 1093 = .ok (.iconst 1, 1) := by decide +kernel
theorem d_L_law_1094 : decode code 1094 = .ok (.iadd, 1) := by decide +kernel
theorem d_L_law_1095 : decode code 1095 = .ok (.iaload, 1) := by decide +kernel
theorem d_L_law_1096 : decode code 1096 = .ok (.invokevirtual 163, 3) := by decide +kernel
theorem d_L_law_1099 : decode code 1099 = .ok (.istore 6, 2) := by decide +kernel
theorem d_L_law_1101 : decode code 1101 = .ok (.aload_n 2, 1) := by decide +kernel
theorem d_L_law_1102 : decode code 1102 = .ok (.invokevirtual 97, 3) := by decide +kernel
theorem d_L_law_1105 : decode code 1105 = .ok (.iload 5, 2) := by decide +kernel
theorem d_L_law_1107 : decode code 1107 = .ok (.if_icmp .eq 5, 3) := by decide +kernel
theorem d_L_law_1112 : decode code 1112 = .ok (.iload 5, 2) := by decide +kernel
theorem d_L_law_1114 : decode code 1114 = .ok (.ifCond .ne 15, 3) := by decide +kernel
theorem d_L_law_1117 : decode code 1117 = .ok (.aload_n 3, 1) := by decide +kernel
theorem d_L_law_1118 : decode code 1118 = .ok (.iconst 0, 1) := by decide +kernel
theorem d_L_law_1119 : decode code 1119 = .ok (.laload, 1) := by decide +kernel
theorem d_L_law_1120 : decode code 1120 = .ok (.iload 6, 2) := by decide +kernel
theorem d_L_law_1122 : decode code 1122 = .ok (.i2l, 1) := by decide +kernel
theorem d_L_law_1123 : decode code 1123 = .ok (.lcmp, 1) := by decide +kernel
theorem d_L_law_1124 : decode code 1124 = .ok (.ifCond .eq 5, 3) := by decide +kernel
theorem d_L_law_1129 : decode code 1129 = .ok (.goto 102, 3) := by decide +kernel
theorem d_L_law_1132 : decode code 1132 = .ok (.aload_n 1, 1) := by decide +kernel
theorem d_L_law_1133 : decode code 1133 = .ok (.aload_n 3, 1) := by decide +kernel
theorem d_L_law_1134 : decode code 1134 = .ok (.invokestatic 164, 3) := by decide +kernel
theorem d_L_law_1137 : decode code 1137 = .ok (.istore 5, 2) := by decide +kernel
theorem d_L_law_1139 : decode code 1139 = .ok (.aload_n 2, 1) := by decide +kernel
theorem d_L_law_1140 : decode code 1140 = .ok (.invokevirtual 166, 3) := by decide +kernel
theorem d_L_law_1143 : decode code 1143 = .ok (.istore 6, 2) := by decide +kernel
theorem d_L_law_1145 : decode code 1145 = .ok (.aload_n 2, 1) := by decide +kernel
theorem d_L_law_1146 : decode code 1146 = .ok (.invokevirtual 97, 3) := by decide +kernel
theorem d_L_law_1149 : decode code 1149 = .ok (.iload 5, 2) := by decide +kernel
theorem d_L_law_1151 : decode code 1151 = .ok (.if_icmp .eq 5, 3) := by decide +kernel
theorem d_L_law_1156 : decode code 1156 = .ok (.iload 5, 2) := by decide +kernel
theorem d_L_law_1158 : decode code 1158 = .ok (.ifCond .ne 15, 3) := by decide +kernel
theorem d_L_law_1161 : decode code 1161 = .ok (.aload_n 3, 1) := by decide +kernel
theorem d_L_law_1162 : decode code 1162 = .ok (.iconst 0, 1) := by decide +kernel
theorem d_L_law_1163 : decode code 1163 = .ok (.laload, 1) := by decide +kernel
theorem d_L_law_1164 : decode code 1164 = .ok (.iload 6, 2) := by decide +kernel
theorem d_L_law_1166 : decode code 1166 = .ok (.i2l, 1) := by decide +kernel
theorem d_L_law_1167 : decode code 1167 = .ok (.lcmp, 1) := by decide +kernel
theorem d_L_law_1168 : decode code 1168 = .ok (.ifCond .eq 5, 3) := by decide +kernel
theorem d_L_law_1173 : decode code 1173 = .ok (.goto 58, 3) := by decide +kernel
theorem d_L_law_1176 : decode code 1176 = .ok (.aload_n 1, 1) := by decide +kernel
theorem d_L_law_1177 : decode code 1177 = .ok (.aload_n 3, 1) := by decide +kernel
theorem d_L_law_1178 : decode code 1178 = .ok (.invokestatic 167, 3) := by decide +kernel
theorem d_L_law_1181 : decode code 1181 = .ok (.istore 5, 2) := by decide +kernel
theorem d_L_law_1183 : decode code 1183 = .ok (.aload_n 2, 1) := by decide +kernel
theorem d_L_law_1184 : decode code 1184 = .ok (.invokevirtual 169, 3) := by decide +kernel
theorem d_L_law_1187 : decode code 1187 = .ok (.istore 6, 2) := by decide +kernel
theorem d_L_law_1189 : decode code 1189 = .ok (.aload_n 2, 1) := by decide +kernel
theorem d_L_law_1190 : decode code 1190 = .ok (.invokevirtual 97, 3) := by decide +kernel
theorem d_L_law_1193 : decode code 1193 = .ok (.iload 5, 2) := by decide +kernel
theorem d_L_law_1195 : decode code 1195 = .ok (.if_icmp .eq 5, 3) := by decide +kernel
theorem d_L_law_1200 : decode code 1200 = .ok (.iload 5, 2) := by decide +kernel
theorem d_L_law_1202 : decode code 1202 = .ok (.ifCond .ne 15, 3) := by decide +kernel
theorem d_L_law_1205 : decode code 1205 = .ok (.aload_n 3, 1) := by decide +kernel
theorem d_L_law_1206 : decode code 1206 = .ok (.iconst 0, 1) := by decide +kernel
theorem d_L_law_1207 : decode code 1207 = .ok (.laload, 1) := by decide +kernel
theorem d_L_law_1208 : decode code 1208 = .ok (.iload 6, 2) := by decide +kernel
theorem d_L_law_1210 : decode code 1210 = .ok (.i2l, 1) := by decide +kernel
theorem d_L_law_1211 : decode code 1211 = .ok (.lcmp, 1) := by decide +kernel
theorem d_L_law_1212 : decode code 1212 = .ok (.ifCond .eq 5, 3) := by decide +kernel
theorem d_L_law_1217 : decode code 1217 = .ok (.goto 14, 3) := by decide +kernel
theorem d_L_law_1220 : decode code 1220 = .ok (.aload_n 1, 1) := by decide +kernel
theorem d_L_law_1221 : decode code 1221 = .ok (.invokevirtual 170, 3) := by decide +kernel
theorem d_L_law_1224 : decode code 1224 = .ok (.aload_n 2, 1) := by decide +kernel
theorem d_L_law_1225 : decode code 1225 = .ok (.invokevirtual 173, 3) := by decide +kernel
theorem d_L_law_1228 : decode code 1228 = .ok (.goto 3, 3) := by decide +kernel
theorem d_L_law_1231 : decode code 1231 = .ok (.iinc 4 5, 3) := by decide +kernel
theorem d_L_law_1234 : decode code 1234 = .ok (.goto (-1211), 3) := by decide +kernel
theorem d_L_law_1237 : decode code 1237 = .ok (.iconst 1, 1) := by decide +kernel
theorem d_L_law_1238 : decode code 1238 = .ok (.ireturn, 1) := by decide +kernel
