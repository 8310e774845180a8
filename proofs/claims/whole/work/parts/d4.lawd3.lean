/-! ===== the law: its instructions, 3 ===== -/
theorem d_law_905 : decode code 905 = .ok (.iadd, 1) := by decide +kernel
theorem d_law_906 : decode code 906 = .ok (.iaload, 1) := by decide +kernel
theorem d_law_907 : decode code 907 = .ok (.aload_n 0, 1) := by decide +kernel
theorem d_law_908 : decode code 908 = .ok (.iload 4, 2) := by decide +kernel
theorem d_law_910 : decode code 910 = .ok (.iconst 2, 1) := by decide +kernel
theorem d_law_911 : decode code 911 = .ok (.iadd, 1) := by decide +kernel
theorem d_law_912 : decode code 912 = .ok (.iaload, 1) := by decide +kernel
theorem d_law_913 : decode code 913 = .ok (.aload_n 0, 1) := by decide +kernel
theorem d_law_914 : decode code 914 = .ok (.iload 4, 2) := by decide +kernel
theorem d_law_916 : decode code 916 = .ok (.iconst 3, 1) := by decide +kernel
theorem d_law_917 : decode code 917 = .ok (.iadd, 1) := by decide +kernel
theorem d_law_918 : decode code 918 = .ok (.iaload, 1) := by decide +kernel
theorem d_law_919 : decode code 919 = .ok (.invokevirtual 99, 3) := by decide +kernel
theorem d_law_922 : decode code 922 = .ok (.aload_n 2, 1) := by decide +kernel
theorem d_law_923 : decode code 923 = .ok (.aload_n 0, 1) := by decide +kernel
theorem d_law_924 : decode code 924 = .ok (.iload 4, 2) := by decide +kernel
theorem d_law_926 : decode code 926 = .ok (.iconst 1, 1) := by decide +kernel
theorem d_law_927 : decode code 927 = .ok (.iadd, 1) := by decide +kernel
theorem d_law_928 : decode code 928 = .ok (.iaload, 1) := by decide +kernel
theorem d_law_929 : decode code 929 = .ok (.aload_n 0, 1) := by decide +kernel
theorem d_law_930 : decode code 930 = .ok (.iload 4, 2) := by decide +kernel
theorem d_law_932 : decode code 932 = .ok (.iconst 2, 1) := by decide +kernel
theorem d_law_933 : decode code 933 = .ok (.iadd, 1) := by decide +kernel
theorem d_law_934 : decode code 934 = .ok (.iaload, 1) := by decide +kernel
theorem d_law_935 : decode code 935 = .ok (.aload_n 0, 1) := by decide +kernel
theorem d_law_936 : decode code 936 = .ok (.iload 4, 2) := by decide +kernel
theorem d_law_938 : decode code 938 = .ok (.iconst 3, 1) := by decide +kernel
theorem d_law_939 : decode code 939 = .ok (.iadd, 1) := by decide +kernel
theorem d_law_940 : decode code 940 = .ok (.iaload, 1) := by decide +kernel
theorem d_law_941 : decode code 941 = .ok (.invokevirtual 102, 3) := by decide +kernel
theorem d_law_944 : decode code 944 = .ok (.if_icmp .eq 686, 3) := by decide +kernel
theorem d_law_947 : decode code 947 = .ok (.iconst 0, 1) := by decide +kernel
theorem d_law_948 : decode code 948 = .ok (.ireturn, 1) := by decide +kernel
theorem d_law_949 : decode code 949 = .ok (.aload_n 1, 1) := by decide +kernel
theorem d_law_950 : decode code 950 = .ok (.aload_n 0, 1) := by decide +kernel
theorem d_law_951 : decode code 951 = .ok (.iload 4, 2) := by decide +kernel
theorem d_law_953 : decode code 953 = .ok (.iconst 1, 1) := by decide +kernel
theorem d_law_954 : decode code 954 = .ok (.iadd, 1) := by decide +kernel
theorem d_law_955 : decode code 955 = .ok (.iaload, 1) := by decide +kernel
theorem d_law_956 : decode code 956 = .ok (.aload_n 0, 1) := by decide +kernel
theorem d_law_957 : decode code 957 = .ok (.iload 4, 2) := by decide +kernel
theorem d_law_959 : decode code 959 = .ok (.iconst 2, 1) := by decide +kernel
theorem d_law_960 : decode code 960 = .ok (.iadd, 1) := by decide +kernel
theorem d_law_961 : decode code 961 = .ok (.iaload, 1) := by decide +kernel
theorem d_law_962 : decode code 962 = .ok (.invokevirtual 103, 3) := by decide +kernel
theorem d_law_965 : decode code 965 = .ok (.aload_n 2, 1) := by decide +kernel
theorem d_law_966 : decode code 966 = .ok (.aload_n 0, 1) := by decide +kernel
theorem d_law_967 : decode code 967 = .ok (.iload 4, 2) := by decide +kernel
theorem d_law_969 : decode code 969 = .ok (.iconst 1, 1) := by decide +kernel
theorem d_law_970 : decode code 970 = .ok (.iadd, 1) := by decide +kernel
theorem d_law_971 : decode code 971 = .ok (.iaload, 1) := by decide +kernel
theorem d_law_972 : decode code 972 = .ok (.aload_n 0, 1) := by decide +kernel
theorem d_law_973 : decode code 973 = .ok (.iload 4, 2) := by decide +kernel
theorem d_law_975 : decode code 975 = .ok (.iconst 2, 1) := by decide +kernel
theorem d_law_976 : decode code 976 = .ok (.iadd, 1) := by decide +kernel
theorem d_law_977 : decode code 977 = .ok (.iaload, 1) := by decide +kernel
theorem d_law_978 : decode code 978 = .ok (.invokevirtual 107, 3) := by decide +kernel
theorem d_law_981 : decode code 981 = .ok (.if_icmp .eq 649, 3) := by decide +kernel
theorem d_law_984 : decode code 984 = .ok (.iconst 0, 1) := by decide +kernel
theorem d_law_985 : decode code 985 = .ok (.ireturn, 1) := by decide +kernel
theorem d_law_986 : decode code 986 = .ok (.aload_n 1, 1) := by decide +kernel
theorem d_law_987 : decode code 987 = .ok (.aload_n 0, 1) := by decide +kernel
theorem d_law_988 : decode code 988 = .ok (.iload 4, 2) := by decide +kernel
theorem d_law_990 : decode code 990 = .ok (.iconst 1, 1) := by decide +kernel
theorem d_law_991 : decode code 991 = .ok (.iadd, 1) := by decide +kernel
theorem d_law_992 : decode code 992 = .ok (.iaload, 1) := by decide +kernel
theorem d_law_993 : decode code 993 = .ok (.aload_n 0, 1) := by decide +kernel
theorem d_law_994 : decode code 994 = .ok (.iload 4, 2) := by decide +kernel
theorem d_law_996 : decode code 996 = .ok (.iconst 2, 1) := by decide +kernel
theorem d_law_997 : decode code 997 = .ok (.iadd, 1) := by decide +kernel
theorem d_law_998 : decode code 998 = .ok (.iaload, 1) := by decide +kernel
theorem d_law_999 : decode code 999 = .ok (.invokevirtual 108, 3) := by decide +kernel
theorem d_law_1002 : decode code 1002 = .ok (.aload_n 2, 1) := by decide +kernel
theorem d_law_1003 : decode code 1003 = .ok (.aload_n 0, 1) := by decide +kernel
theorem d_law_1004 : decode code 1004 = .ok (.iload 4, 2) := by decide +kernel
theorem d_law_1006 : decode code 1006 = .ok (.iconst 1, 1) := by decide +kernel
theorem d_law_1007 : decode code 1007 = .ok (.iadd, 1) := by decide +kernel
theorem d_law_1008 : decode code 1008 = .ok (.iaload, 1) := by decide +kernel
theorem d_law_1009 : decode code 1009 = .ok (.aload_n 0, 1) := by decide +kernel
theorem d_law_1010 : decode code 1010 = .ok (.iload 4, 2) := by decide +kernel
theorem d_law_1012 : decode code 1012 = .ok (.iconst 2, 1) := by decide +kernel
theorem d_law_1013 : decode code 1013 = .ok (.iadd, 1) := by decide +kernel
theorem d_law_1014 : decode code 1014 = .ok (.iaload, 1) := by decide +kernel
theorem d_law_1015 : decode code 1015 = .ok (.invokevirtual 111, 3) := by decide +kernel
theorem d_law_1018 : decode code 1018 = .ok (.if_icmp .eq 612, 3) := by decide +kernel
theorem d_law_1021 : decode code 1021 = .ok (.iconst 0, 1) := by decide +kernel
theorem d_law_1022 : decode code 1022 = .ok (.ireturn, 1) := by decide +kernel
theorem d_law_1023 : decode code 1023 = .ok (.aload_n 1, 1) := by decide +kernel
theorem d_law_1024 : decode code 1024 = .ok (.aload_n 0, 1) := by decide +kernel
theorem d_law_1025 : decode code 1025 = .ok (.iload 4, 2) := by decide +kernel
theorem d_law_1027 : decode code 1027 = .ok (.iconst 1, 1) := by decide +kernel
theorem d_law_1028 : decode code 1028 = .ok (.iadd, 1) := by decide +kernel
theorem d_law_1029 : decode code 1029 = .ok (.iaload, 1) := by decide +kernel
theorem d_law_1030 : decode code 1030 = .ok (.aload_n 0, 1) := by decide +kernel
theorem d_law_1031 : decode code 1031 = .ok (.iload 4, 2) := by decide +kernel
theorem d_law_1033 : decode code 1033 = .ok (.iconst 2, 1) := by decide +kernel
theorem d_law_1034 : decode code 1034 = .ok (.iadd, 1) := by decide +kernel
theorem d_law_1035 : decode code 1035 = .ok (.iaload, 1) := by decide +kernel
theorem d_law_1036 : decode code 1036 = .ok (.invokevirtual 112, 3) := by decide +kernel
theorem d_law_1039 : decode code 1039 = .ok (.aload_n 2, 1) := by decide +kernel
theorem d_law_1040 : decode code 1040 = .ok (.aload_n 0, 1) := by decide +kernel
theorem d_law_1041 : decode code 1041 = .ok (.iload 4, 2) := by decide +kernel
theorem d_law_1043 : decode code 1043 = .ok (.iconst 1, 1) := by decide +kernel
theorem d_law_1044 : decode code 1044 = .ok (.iadd, 1) := by decide +kernel
theorem d_law_1045 : decode code 1045 = .ok (.iaload, 1) := by decide +kernel
theorem d_law_1046 : decode code 1046 = .ok (.aload_n 0, 1) := by decide +kernel
theorem d_law_1047 : decode code 1047 = .ok (.iload 4, 2) := by decide +kernel
theorem d_law_1049 : decode code 1049 = .ok (.iconst 2, 1) := by decide +kernel
theorem d_law_1050 : decode code 1050 = .ok (.iadd, 1) := by decide +kernel
theorem d_law_1051 : decode code 1051 = .ok (.iaload, 1) := by decide +kernel
theorem d_law_1052 : decode code 1052 = .ok (.invokevirtual 115, 3) := by decide +kernel
theorem d_law_1055 : decode code 1055 = .ok (.if_icmp .eq 575, 3) := by decide +kernel
theorem d_law_1058 : decode code 1058 = .ok (.iconst 0, 1) := by decide +kernel
theorem d_law_1059 : decode code 1059 = .ok (.ireturn, 1) := by decide +kernel
theorem d_law_1060 : decode code 1060 = .ok (.aload_n 1, 1) := by decide +kernel
theorem d_law_1061 : decode code 1061 = .ok (.aload_n 0, 1) := by decide +kernel
theorem d_law_1062 : decode code 1062 = .ok (.iload 4, 2) := by decide +kernel
theorem d_law_1064 : decode code 1064 = .ok (.iconst 1, 1) := by decide +kernel
theorem d_law_1065 : decode code 1065 = .ok (.iadd, 1) := by decide +kernel
theorem d_law_1066 : decode code 1066 = .ok (.iaload, 1) := by decide +kernel
theorem d_law_1067 : decode code 1067 = .ok (.aload_n 0, 1) := by decide +kernel
theorem d_law_1068 : decode code 1068 = .ok (.iload 4, 2) := by decide +kernel
theorem d_law_1070 : decode code 1070 = .ok (.iconst 2, 1) := by decide +kernel
theorem d_law_1071 : decode code 1071 = .ok (.iadd, 1) := by decide +kernel
theorem d_law_1072 : decode code 1072 = .ok (.iaload, 1) := by decide +kernel
theorem d_law_1073 : decode code 1073 = .ok (.invokevirtual 116, 3) := by decide +kernel
theorem d_law_1076 : decode code 1076 = .ok (.aload_n 2, 1) := by decide +kernel
theorem d_law_1077 : decode code 1077 = .ok (.aload_n 0, 1) := by decide +kernel
theorem d_law_1078 : decode code 1078 = .ok (.iload 4, 2) := by decide +kernel
theorem d_law_1080 : decode code 1080 = .ok (.iconst 1, 1) := by decide +kernel
theorem d_law_1081 : decode code 1081 = .ok (.iadd, 1) := by decide +kernel
theorem d_law_1082 : decode code 1082 = .ok (.iaload, 1) := by decide +kernel
theorem d_law_1083 : decode code 1083 = .ok (.aload_n 0, 1) := by decide +kernel
theorem d_law_1084 : decode code 1084 = .ok (.iload 4, 2) := by decide +kernel
theorem d_law_1086 : decode code 1086 = .ok (.iconst 2, 1) := by decide +kernel
theorem d_law_1087 : decode code 1087 = .ok (.iadd, 1) := by decide +kernel
theorem d_law_1088 : decode code 1088 = .ok (.iaload, 1) := by decide +kernel
theorem d_law_1089 : decode code 1089 = .ok (.invokevirtual 119, 3) := by decide +kernel
theorem d_law_1092 : decode code 1092 = .ok (.if_icmp .eq 538, 3) := by decide +kernel
theorem d_law_1095 : decode code 1095 = .ok (.iconst 0, 1) := by decide +kernel
theorem d_law_1096 : decode code 1096 = .ok (.ireturn, 1) := by decide +kernel
theorem d_law_1097 : decode code 1097 = .ok (.aload_n 1, 1) := by decide +kernel
theorem d_law_1098 : decode code 1098 = .ok (.aload_n 0, 1) := by decide +kernel
theorem d_law_1099 : decode code 1099 = .ok (.iload 4, 2) := by decide +kernel
theorem d_law_1101 : decode code 1101 = .ok (.iconst 1, 1) := by decide +kernel
theorem d_law_1102 : decode code 1102 = .ok (.iadd, 1) := by decide +kernel
theorem d_law_1103 : decode code 1103 = .ok (.iaload, 1) := by decide +kernel
theorem d_law_1104 : decode code 1104 = .ok (.aload_n 0, 1) := by decide +kernel
theorem d_law_1105 : decode code 1105 = .ok (.iload 4, 2) := by decide +kernel
theorem d_law_1107 : decode code 1107 = .ok (.iconst 2, 1) := by decide +kernel
theorem d_law_1108 : decode code 1108 = .ok (.iadd, 1) := by decide +kernel
theorem d_law_1109 : decode code 1109 = .ok (.iaload, 1) := by decide +kernel
theorem d_law_1110 : decode code 1110 = .ok (.invokevirtual 120, 3) := by decide +kernel
theorem d_law_1113 : decode code 1113 = .ok (.aload_n 2, 1) := by decide +kernel
theorem d_law_1114 : decode code 1114 = .ok (.aload_n 0, 1) := by decide +kernel
theorem d_law_1115 : decode code 1115 = .ok (.iload 4, 2) := by decide +kernel
theorem d_law_1117 : decode code 1117 = .ok (.iconst 1, 1) := by decide +kernel
theorem d_law_1118 : decode code 1118 = .ok (.iadd, 1) := by decide +kernel
theorem d_law_1119 : decode code 1119 = .ok (.iaload, 1) := by decide +kernel
theorem d_law_1120 : decode code 1120 = .ok (.aload_n 0, 1) := by decide +kernel
theorem d_law_1121 : decode code 1121 = .ok (.iload 4, 2) := by decide +kernel
theorem d_law_1123 : decode code 1123 = .ok (.iconst 2, 1) := by decide +kernel
theorem d_law_1124 : decode code 1124 = .ok (.iadd, 1) := by decide +kernel
theorem d_law_1125 : decode code 1125 = .ok (.iaload, 1) := by decide +kernel
theorem d_law_1126 : decode code 1126 = .ok (.invokevirtual 123, 3) := by decide +kernel
theorem d_law_1129 : decode code 1129 = .ok (.if_icmp .eq 501, 3) := by decide +kernel
theorem d_law_1132 : decode code 1132 = .ok (.iconst 0, 1) := by decide +kernel
theorem d_law_1133 : decode code 1133 = .ok (.ireturn, 1) := by decide +kernel
theorem d_law_1134 : decode code 1134 = .ok (.aload_n 1, 1) := by decide +kernel
theorem d_law_1135 : decode code 1135 = .ok (.aload_n 0, 1) := by decide +kernel
theorem d_law_1136 : decode code 1136 = .ok (.iload 4, 2) := by decide +kernel
theorem d_law_1138 : decode code 1138 = .ok (.iconst 1, 1) := by decide +kernel
theorem d_law_1139 : decode code 1139 = .ok (.iadd, 1) := by decide +kernel
theorem d_law_1140 : decode code 1140 = .ok (.iaload, 1) := by decide +kernel
theorem d_law_1141 : decode code 1141 = .ok (.aload_n 0, 1) := by decide +kernel
theorem d_law_1142 : decode code 1142 = .ok (.iload 4, 2) := by decide +kernel
theorem d_law_1144 : decode code 1144 = .ok (.iconst 2, 1) := by decide +kernel
theorem d_law_1145 : decode code 1145 = .ok (.iadd, 1) := by decide +kernel
theorem d_law_1146 : decode code 1146 = .ok (.iaload, 1) := by decide +kernel
theorem d_law_1147 : decode code 1147 = .ok (.invokevirtual 124, 3) := by decide +kernel
theorem d_law_1150 : decode code 1150 = .ok (.aload_n 2, 1) := by decide +kernel
theorem d_law_1151 : decode code 1151 = .ok (.aload_n 0, 1) := by decide +kernel
theorem d_law_1152 : decode code 1152 = .ok (.iload 4, 2) := by decide +kernel
theorem d_law_1154 : decode code 1154 = .ok (.iconst 1, 1) := by decide +kernel
theorem d_law_1155 : decode code 1155 = .ok (.iadd, 1) := by decide +kernel
theorem d_law_1156 : decode code 1156 = .ok (.iaload, 1) := by decide +kernel
theorem d_law_1157 : decode code 1157 = .ok (.aload_n 0, 1) := by decide +kernel
theorem d_law_1158 : decode code 1158 = .ok (.iload 4, 2) := by decide +kernel
theorem d_law_1160 : decode code 1160 = .ok (.iconst 2, 1) := by decide +kernel
theorem d_law_1161 : decode code 1161 = .ok (.iadd, 1) := by decide +kernel
theorem d_law_1162 : decode code 1162 = .ok (.iaload, 1) := by decide +kernel
theorem d_law_1163 : decode code 1163 = .ok (.invokevirtual 127, 3) := by decide +kernel
theorem d_law_1166 : decode code 1166 = .ok (.if_icmp .eq 464, 3) := by decide +kernel
theorem d_law_1169 : decode code 1169 = .ok (.iconst 0, 1) := by decide +kernel
theorem d_law_1170 : decode code 1170 = .ok (.ireturn, 1) := by decide +kernel
theorem d_law_1171 : decode code 1171 = .ok (.aload_n 1, 1) := by decide +kernel
theorem d_law_1172 : decode code 1172 = .ok (.aload_n 0, 1) := by decide +kernel
theorem d_law_1173 : decode code 1173 = .ok (.iload 4, 2) := by decide +kernel
theorem d_law_1175 : decode code 1175 = .ok (.iconst 1, 1) := by decide +kernel
theorem d_law_1176 : decode code 1176 = .ok (.iadd, 1) := by decide +kernel
theorem d_law_1177 : decode code 1177 = .ok (.iaload, 1) := by decide +kernel
theorem d_law_1178 : decode code 1178 = .ok (.invokevirtual 128, 3) := by decide +kernel
theorem d_law_1181 : decode code 1181 = .ok (.aload_n 2, 1) := by decide +kernel
theorem d_law_1182 : decode code 1182 = .ok (.aload_n 0, 1) := by decide +kernel
theorem d_law_1183 : decode code 1183 = .ok (.iload 4, 2) := by decide +kernel
theorem d_law_1185 : decode code 1185 = .ok (.iconst 1, 1) := by decide +kernel
theorem d_law_1186 : decode code 1186 = .ok (.iadd, 1) := by decide +kernel
theorem d_law_1187 : decode code 1187 = .ok (.iaload, 1) := by decide +kernel
theorem d_law_1188 : decode code 1188 = .ok (.invokevirtual 131, 3) := by decide +kernel
theorem d_law_1191 : decode code 1191 = .ok (.if_icmp .eq 439, 3) := by decide +kernel
theorem d_law_1194 : decode code 1194 = .ok (.iconst 0, 1) := by decide +kernel
theorem d_law_1195 : decode code 1195 = .ok (.ireturn, 1) := by decide +kernel
theorem d_law_1196 : decode code 1196 = .ok (.aload_n 1, 1) := by decide +kernel
theorem d_law_1197 : decode code 1197 = .ok (.aload_n 0, 1) := by decide +kernel
theorem d_law_1198 : decode code 1198 = .ok (.iload 4, 2) := by decide +kernel
theorem d_law_1200 : decode code 1200 = .ok (.iconst 1, 1) := by decide +kernel
theorem d_law_1201 : decode code 1201 = .ok (.iadd, 1) := by decide +kernel
theorem d_law_1202 : decode code 1202 = .ok (.iaload, 1) := by decide +kernel
theorem d_law_1203 : decode code 1203 = .ok (.invokevirtual 132, 3) := by decide +kernel
theorem d_law_1206 : decode code 1206 = .ok (.aload_n 2, 1) := by decide +kernel
theorem d_law_1207 : decode code 1207 = .ok (.aload_n 0, 1) := by decide +kernel
theorem d_law_1208 : decode code 1208 = .ok (.iload 4, 2) := by decide +kernel
theorem d_law_1210 : decode code 1210 = .ok (.iconst 1, 1) := by decide +kernel
theorem d_law_1211 : decode code 1211 = .ok (.iadd, 1) := by decide +kernel
theorem d_law_1212 : decode code 1212 = .ok (.iaload, 1) := by decide +kernel
theorem d_law_1213 : decode code 1213 = .ok (.invokevirtual 135, 3) := by decide +kernel
theorem d_law_1216 : decode code 1216 = .ok (.if_icmp .eq 414, 3) := by decide +kernel
theorem d_law_1219 : decode code 1219 = .ok (.iconst 0, 1) := by decide +kernel
theorem d_law_1220 : decode code 1220 = .ok (.ireturn, 1) := by decide +kernel
theorem d_law_1221 : decode code 1221 = .ok (.aload_n 1, 1) := by decide +kernel
theorem d_law_1222 : decode code 1222 = .ok (.aload_n 0, 1) := by decide +kernel
theorem d_law_1223 : decode code 1223 = .ok (.iload 4, 2) := by decide +kernel
theorem d_law_1225 : decode code 1225 = .ok (.iconst 1, 1) := by decide +kernel
theorem d_law_1226 : decode code 1226 = .ok (.iadd, 1) := by decide +kernel
theorem d_law_1227 : decode code 1227 = .ok (.iaload, 1) := by decide +kernel
theorem d_law_1228 : decode code 1228 = .ok (.aload_n 0, 1) := by decide +kernel
theorem d_law_1229 : decode code 1229 = .ok (.iload 4, 2) := by decide +kernel
theorem d_law_1231 : decode code 1231 = .ok (.iconst 2, 1) := by decide +kernel
theorem d_law_1232 : decode code 1232 = .ok (.iadd, 1) := by decide +kernel
theorem d_law_1233 : decode code 1233 = .ok (.iaload, 1) := by decide +kernel
theorem d_law_1234 : decode code 1234 = .ok (.invokevirtual 136, 3) := by decide +kernel
theorem d_law_1237 : decode code 1237 = .ok (.aload_n 2, 1) := by decide +kernel
theorem d_law_1238 : decode code 1238 = .ok (.aload_n 0, 1) := by decide +kernel
theorem d_law_1239 : decode code 1239 = .ok (.iload 4, 2) := by decide +kernel
theorem d_law_1241 : decode code 1241 = .ok (.iconst 1, 1) := by decide +kernel
theorem d_law_1242 : decode code 1242 = .ok (.iadd, 1) := by decide +kernel
theorem d_law_1243 : decode code 1243 = .ok (.iaload, 1) := by decide +kernel
theorem d_law_1244 : decode code 1244 = .ok (.aload_n 0, 1) := by decide +kernel
theorem d_law_1245 : decode code 1245 = .ok (.iload 4, 2) := by decide +kernel
theorem d_law_1247 : decode code 1247 = .ok (.iconst 2, 1) := by decide +kernel
theorem d_law_1248 : decode code 1248 = .ok (.iadd, 1) := by decide +kernel
theorem d_law_1249 : decode code 1249 = .ok (.iaload, 1) := by decide +kernel
theorem d_law_1250 : decode code 1250 = .ok (.invokevirtual 139, 3) := by decide +kernel
theorem d_law_1253 : decode code 1253 = .ok (.if_icmp .eq 377, 3) := by decide +kernel
theorem d_law_1256 : decode code 1256 = .ok (.iconst 0, 1) := by decide +kernel
theorem d_law_1257 : decode code 1257 = .ok (.ireturn, 1) := by decide +kernel
theorem d_law_1258 : decode code 1258 = .ok (.aload_n 1, 1) := by decide +kernel
theorem d_law_1259 : decode code 1259 = .ok (.aload_n 0, 1) := by decide +kernel
theorem d_law_1260 : decode code 1260 = .ok (.iload 4, 2) := by decide +kernel
theorem d_law_1262 : decode code 1262 = .ok (.iconst 1, 1) := by decide +kernel
theorem d_law_1263 : decode code 1263 = .ok (.iadd, 1) := by decide +kernel
theorem d_law_1264 : decode code 1264 = .ok (.iaload, 1) := by decide +kernel
