theorem dL_law_952 : decode code 952 = .ok (.iadd, 1) := by decide +kernel
theorem dL_law_953 : decode code 953 = .ok (.iaload, 1) := by decide +kernel
theorem dL_law_954 : decode code 954 = .ok (.invokevirtual 106, 3) := by decide +kernel
theorem dL_law_957 : decode code 957 = .ok (.if_icmp .eq 722, 3) := by decide +kernel
theorem dL_law_960 : decode code 960 = .ok (.iconst 0, 1) := by decide +kernel
theorem dL_law_961 : decode code 961 = .ok (.ireturn, 1) := by decide +kernel
theorem dL_law_962 : decode code 962 = .ok (.aload_n 1, 1) := by decide +kernel
theorem dL_law_963 : decode code 963 = .ok (.aload_n 0, 1) := by decide +kernel
theorem dL_law_964 : decode code 964 = .ok (.iload_n 3, 1) := by decide +kernel
theorem dL_law_965 : decode code 965 = .ok (.iconst 1, 1) := by decide +kernel
theorem dL_law_966 : decode code 966 = .ok (.iadd, 1) := by decide +kernel
theorem dL_law_967 : decode code 967 = .ok (.iaload, 1) := by decide +kernel
theorem dL_law_968 : decode code 968 = .ok (.aload_n 0, 1) := by decide +kernel
theorem dL_law_969 : decode code 969 = .ok (.iload_n 3, 1) := by decide +kernel
theorem dL_law_970 : decode code 970 = .ok (.iconst 2, 1) := by decide +kernel
theorem dL_law_971 : decode code 971 = .ok (.iadd, 1) := by decide +kernel
theorem dL_law_972 : decode code 972 = .ok (.iaload, 1) := by decide +kernel
theorem dL_law_973 : decode code 973 = .ok (.invokevirtual 107, 3) := by decide +kernel
theorem dL_law_976 : decode code 976 = .ok (.aload_n 2, 1) := by decide +kernel
theorem dL_law_977 : decode code 977 = .ok (.aload_n 0, 1) := by decide +kernel
theorem dL_law_978 : decode code 978 = .ok (.iload_n 3, 1) := by decide +kernel
theorem dL_law_979 : decode code 979 = .ok (.iconst 1, 1) := by decide +kernel
theorem dL_law_980 : decode code 980 = .ok (.iadd, 1) := by decide +kernel
theorem dL_law_981 : decode code 981 = .ok (.iaload, 1) := by decide +kernel
theorem dL_law_982 : decode code 982 = .ok (.aload_n 0, 1) := by decide +kernel
theorem dL_law_983 : decode code 983 = .ok (.iload_n 3, 1) := by decide +kernel
theorem dL_law_984 : decode code 984 = .ok (.iconst 2, 1) := by decide +kernel
theorem dL_law_985 : decode code 985 = .ok (.iadd, 1) := by decide +kernel
theorem dL_law_986 : decode code 986 = .ok (.iaload, 1) := by decide +kernel
theorem dL_law_987 : decode code 987 = .ok (.invokevirtual 110, 3) := by decide +kernel
theorem dL_law_990 : decode code 990 = .ok (.if_icmp .eq 689, 3) := by decide +kernel
theorem dL_law_993 : decode code 993 = .ok (.iconst 0, 1) := by decide +kernel
theorem dL_law_994 : decode code 994 = .ok (.ireturn, 1) := by decide +kernel
theorem dL_law_995 : decode code 995 = .ok (.aload_n 1, 1) := by decide +kernel
theorem dL_law_996 : decode code 996 = .ok (.aload_n 0, 1) := by decide +kernel
theorem dL_law_997 : decode code 997 = .ok (.iload_n 3, 1) := by decide +kernel
theorem dL_law_998 : decode code 998 = .ok (.iconst 1, 1) := by decide +kernel
theorem dL_law_999 : decode code 999 = .ok (.iadd, 1) := by decide +kernel
theorem dL_law_1000 : decode code 1000 = .ok (.iaload, 1) := by decide +kernel
theorem dL_law_1001 : decode code 1001 = .ok (.aload_n 0, 1) := by decide +kernel
theorem dL_law_1002 : decode code 1002 = .ok (.iload_n 3, 1) := by decide +kernel
theorem dL_law_1003 : decode code 1003 = .ok (.iconst 2, 1) := by decide +kernel
theorem dL_law_1004 : decode code 1004 = .ok (.iadd, 1) := by decide +kernel
theorem dL_law_1005 : decode code 1005 = .ok (.iaload, 1) := by decide +kernel
theorem dL_law_1006 : decode code 1006 = .ok (.aload_n 0, 1) := by decide +kernel
theorem dL_law_1007 : decode code 1007 = .ok (.iload_n 3, 1) := by decide +kernel
theorem dL_law_1008 : decode code 1008 = .ok (.iconst 3, 1) := by decide +kernel
theorem dL_law_1009 : decode code 1009 = .ok (.iadd, 1) := by decide +kernel
theorem dL_law_1010 : decode code 1010 = .ok (.iaload, 1) := by decide +kernel
theorem dL_law_1011 : decode code 1011 = .ok (.invokevirtual 111, 3) := by decide +kernel
theorem dL_law_1014 : decode code 1014 = .ok (.aload_n 2, 1) := by decide +kernel
theorem dL_law_1015 : decode code 1015 = .ok (.aload_n 0, 1) := by decide +kernel
theorem dL_law_1016 : decode code 1016 = .ok (.iload_n 3, 1) := by decide +kernel
theorem dL_law_1017 : decode code 1017 = .ok (.iconst 1, 1) := by decide +kernel
theorem dL_law_1018 : decode code 1018 = .ok (.iadd, 1) := by decide +kernel
theorem dL_law_1019 : decode code 1019 = .ok (.iaload, 1) := by decide +kernel
theorem dL_law_1020 : decode code 1020 = .ok (.aload_n 0, 1) := by decide +kernel
theorem dL_law_1021 : decode code 1021 = .ok (.iload_n 3, 1) := by decide +kernel
theorem dL_law_1022 : decode code 1022 = .ok (.iconst 2, 1) := by decide +kernel
theorem dL_law_1023 : decode code 1023 = .ok (.iadd, 1) := by decide +kernel
theorem dL_law_1024 : decode code 1024 = .ok (.iaload, 1) := by decide +kernel
theorem dL_law_1025 : decode code 1025 = .ok (.aload_n 0, 1) := by decide +kernel
theorem dL_law_1026 : decode code 1026 = .ok (.iload_n 3, 1) := by decide +kernel
theorem dL_law_1027 : decode code 1027 = .ok (.iconst 3, 1) := by decide +kernel
theorem dL_law_1028 : decode code 1028 = .ok (.iadd, 1) := by decide +kernel
theorem dL_law_1029 : decode code 1029 = .ok (.iaload, 1) := by decide +kernel
theorem dL_law_1030 : decode code 1030 = .ok (.invokevirtual 115, 3) := by decide +kernel
theorem dL_law_1033 : decode code 1033 = .ok (.lcmp, 1) := by decide +kernel
theorem dL_law_1034 : decode code 1034 = .ok (.ifCond .eq 645, 3) := by decide +kernel
theorem dL_law_1037 : decode code 1037 = .ok (.iconst 0, 1) := by decide +kernel
theorem dL_law_1038 : decode code 1038 = .ok (.ireturn, 1) := by decide +kernel
theorem dL_law_1039 : decode code 1039 = .ok (.aload_n 1, 1) := by decide +kernel
theorem dL_law_1040 : decode code 1040 = .ok (.aload_n 0, 1) := by decide +kernel
theorem dL_law_1041 : decode code 1041 = .ok (.iload_n 3, 1) := by decide +kernel
theorem dL_law_1042 : decode code 1042 = .ok (.iconst 1, 1) := by decide +kernel
theorem dL_law_1043 : decode code 1043 = .ok (.iadd, 1) := by decide +kernel
theorem dL_law_1044 : decode code 1044 = .ok (.iaload, 1) := by decide +kernel
theorem dL_law_1045 : decode code 1045 = .ok (.aload_n 0, 1) := by decide +kernel
theorem dL_law_1046 : decode code 1046 = .ok (.iload_n 3, 1) := by decide +kernel
theorem dL_law_1047 : decode code 1047 = .ok (.iconst 2, 1) := by decide +kernel
theorem dL_law_1048 : decode code 1048 = .ok (.iadd, 1) := by decide +kernel
theorem dL_law_1049 : decode code 1049 = .ok (.iaload, 1) := by decide +kernel
theorem dL_law_1050 : decode code 1050 = .ok (.aload_n 0, 1) := by decide +kernel
theorem dL_law_1051 : decode code 1051 = .ok (.iload_n 3, 1) := by decide +kernel
theorem dL_law_1052 : decode code 1052 = .ok (.iconst 3, 1) := by decide +kernel
theorem dL_law_1053 : decode code 1053 = .ok (.iadd, 1) := by decide +kernel
theorem dL_law_1054 : decode code 1054 = .ok (.iaload, 1) := by decide +kernel
theorem dL_law_1055 : decode code 1055 = .ok (.invokevirtual 116, 3) := by decide +kernel
theorem dL_law_1058 : decode code 1058 = .ok (.aload_n 2, 1) := by decide +kernel
theorem dL_law_1059 : decode code 1059 = .ok (.aload_n 0, 1) := by decide +kernel
theorem dL_law_1060 : decode code 1060 = .ok (.iload_n 3, 1) := by decide +kernel
theorem dL_law_1061 : decode code 1061 = .ok (.iconst 1, 1) := by decide +kernel
theorem dL_law_1062 : decode code 1062 = .ok (.iadd, 1) := by decide +kernel
theorem dL_law_1063 : decode code 1063 = .ok (.iaload, 1) := by decide +kernel
theorem dL_law_1064 : decode code 1064 = .ok (.aload_n 0, 1) := by decide +kernel
theorem dL_law_1065 : decode code 1065 = .ok (.iload_n 3, 1) := by decide +kernel
theorem dL_law_1066 : decode code 1066 = .ok (.iconst 2, 1) := by decide +kernel
theorem dL_law_1067 : decode code 1067 = .ok (.iadd, 1) := by decide +kernel
theorem dL_law_1068 : decode code 1068 = .ok (.iaload, 1) := by decide +kernel
theorem dL_law_1069 : decode code 1069 = .ok (.aload_n 0, 1) := by decide +kernel
theorem dL_law_1070 : decode code 1070 = .ok (.iload_n 3, 1) := by decide +kernel
theorem dL_law_1071 : decode code 1071 = .ok (.iconst 3, 1) := by decide +kernel
theorem dL_law_1072 : decode code 1072 = .ok (.iadd, 1) := by decide +kernel
theorem dL_law_1073 : decode code 1073 = .ok (.iaload, 1) := by decide +kernel
theorem dL_law_1074 : decode code 1074 = .ok (.invokevirtual 119, 3) := by decide +kernel
theorem dL_law_1077 : decode code 1077 = .ok (.lcmp, 1) := by decide +kernel
theorem dL_law_1078 : decode code 1078 = .ok (.ifCond .eq 601, 3) := by decide +kernel
theorem dL_law_1081 : decode code 1081 = .ok (.iconst 0, 1) := by decide +kernel
theorem dL_law_1082 : decode code 1082 = .ok (.ireturn, 1) := by decide +kernel
theorem dL_law_1083 : decode code 1083 = .ok (.aload_n 1, 1) := by decide +kernel
theorem dL_law_1084 : decode code 1084 = .ok (.aload_n 0, 1) := by decide +kernel
theorem dL_law_1085 : decode code 1085 = .ok (.iload_n 3, 1) := by decide +kernel
theorem dL_law_1086 : decode code 1086 = .ok (.iconst 1, 1) := by decide +kernel
theorem dL_law_1087 : decode code 1087 = .ok (.iadd, 1) := by decide +kernel
theorem dL_law_1088 : decode code 1088 = .ok (.iaload, 1) := by decide +kernel
theorem dL_law_1089 : decode code 1089 = .ok (.aload_n 0, 1) := by decide +kernel
theorem dL_law_1090 : decode code 1090 = .ok (.iload_n 3, 1) := by decide +kernel
theorem dL_law_1091 : decode code 1091 = .ok (.iconst 2, 1) := by decide +kernel
theorem dL_law_1092 : decode code 1092 = .ok (.iadd, 1) := by decide +kernel
theorem dL_law_1093 : decode code 1093 = .ok (.iaload, 1) := by decide +kernel
theorem dL_law_1094 : decode code 1094 = .ok (.aload_n 0, 1) := by decide +kernel
theorem dL_law_1095 : decode code 1095 = .ok (.iload_n 3, 1) := by decide +kernel
theorem dL_law_1096 : decode code 1096 = .ok (.iconst 3, 1) := by decide +kernel
theorem dL_law_1097 : decode code 1097 = .ok (.iadd, 1) := by decide +kernel
theorem dL_law_1098 : decode code 1098 = .ok (.iaload, 1) := by decide +kernel
theorem dL_law_1099 : decode code 1099 = .ok (.invokevirtual 120, 3) := by decide +kernel
theorem dL_law_1102 : decode code 1102 = .ok (.aload_n 2, 1) := by decide +kernel
theorem dL_law_1103 : decode code 1103 = .ok (.aload_n 0, 1) := by decide +kernel
theorem dL_law_1104 : decode code 1104 = .ok (.iload_n 3, 1) := by decide +kernel
theorem dL_law_1105 : decode code 1105 = .ok (.iconst 1, 1) := by decide +kernel
theorem dL_law_1106 : decode code 1106 = .ok (.iadd, 1) := by decide +kernel
theorem dL_law_1107 : decode code 1107 = .ok (.iaload, 1) := by decide +kernel
theorem dL_law_1108 : decode code 1108 = .ok (.aload_n 0, 1) := by decide +kernel
theorem dL_law_1109 : decode code 1109 = .ok (.iload_n 3, 1) := by decide +kernel
theorem dL_law_1110 : decode code 1110 = .ok (.iconst 2, 1) := by decide +kernel
theorem dL_law_1111 : decode code 1111 = .ok (.iadd, 1) := by decide +kernel
theorem dL_law_1112 : decode code 1112 = .ok (.iaload, 1) := by decide +kernel
theorem dL_law_1113 : decode code 1113 = .ok (.aload_n 0, 1) := by decide +kernel
theorem dL_law_1114 : decode code 1114 = .ok (.iload_n 3, 1) := by decide +kernel
theorem dL_law_1115 : decode code 1115 = .ok (.iconst 3, 1) := by decide +kernel
theorem dL_law_1116 : decode code 1116 = .ok (.iadd, 1) := by decide +kernel
theorem dL_law_1117 : decode code 1117 = .ok (.iaload, 1) := by decide +kernel
theorem dL_law_1118 : decode code 1118 = .ok (.invokevirtual 123, 3) := by decide +kernel
theorem dL_law_1121 : decode code 1121 = .ok (.if_icmp .eq 558, 3) := by decide +kernel
theorem dL_law_1124 : decode code 1124 = .ok (.iconst 0, 1) := by decide +kernel
theorem dL_law_1125 : decode code 1125 = .ok (.ireturn, 1) := by decide +kernel
theorem dL_law_1126 : decode code 1126 = .ok (.aload_n 1, 1) := by decide +kernel
theorem dL_law_1127 : decode code 1127 = .ok (.aload_n 0, 1) := by decide +kernel
theorem dL_law_1128 : decode code 1128 = .ok (.iload_n 3, 1) := by decide +kernel
theorem dL_law_1129 : decode code 1129 = .ok (.iconst 1, 1) := by decide +kernel
theorem dL_law_1130 : decode code 1130 = .ok (.iadd, 1) := by decide +kernel
theorem dL_law_1131 : decode code 1131 = .ok (.iaload, 1) := by decide +kernel
theorem dL_law_1132 : decode code 1132 = .ok (.aload_n 0, 1) := by decide +kernel
theorem dL_law_1133 : decode code 1133 = .ok (.iload_n 3, 1) := by decide +kernel
theorem dL_law_1134 : decode code 1134 = .ok (.iconst 2, 1) := by decide +kernel
theorem dL_law_1135 : decode code 1135 = .ok (.iadd, 1) := by decide +kernel
theorem dL_law_1136 : decode code 1136 = .ok (.iaload, 1) := by decide +kernel
theorem dL_law_1137 : decode code 1137 = .ok (.invokevirtual 124, 3) := by decide +kernel
theorem dL_law_1140 : decode code 1140 = .ok (.aload_n 2, 1) := by decide +kernel
theorem dL_law_1141 : decode code 1141 = .ok (.aload_n 0, 1) := by decide +kernel
theorem dL_law_1142 : decode code 1142 = .ok (.iload_n 3, 1) := by decide +kernel
theorem dL_law_1143 : decode code 1143 = .ok (.iconst 1, 1) := by decide +kernel
theorem dL_law_1144 : decode code 1144 = .ok (.iadd, 1) := by decide +kernel
theorem dL_law_1145 : decode code 1145 = .ok (.iaload, 1) := by decide +kernel
theorem dL_law_1146 : decode code 1146 = .ok (.aload_n 0, 1) := by decide +kernel
theorem dL_law_1147 : decode code 1147 = .ok (.iload_n 3, 1) := by decide +kernel
theorem dL_law_1148 : decode code 1148 = .ok (.iconst 2, 1) := by decide +kernel
theorem dL_law_1149 : decode code 1149 = .ok (.iadd, 1) := by decide +kernel
theorem dL_law_1150 : decode code 1150 = .ok (.iaload, 1) := by decide +kernel
theorem dL_law_1151 : decode code 1151 = .ok (.invokevirtual 127, 3) := by decide +kernel
theorem dL_law_1154 : decode code 1154 = .ok (.if_icmp .eq 525, 3) := by decide +kernel
theorem dL_law_1157 : decode code 1157 = .ok (.iconst 0, 1) := by decide +kernel
theorem dL_law_1158 : decode code 1158 = .ok (.ireturn, 1) := by decide +kernel
theorem dL_law_1159 : decode code 1159 = .ok (.aload_n 1, 1) := by decide +kernel
theorem dL_law_1160 : decode code 1160 = .ok (.invokevirtual 128, 3) := by decide +kernel
theorem dL_law_1163 : decode code 1163 = .ok (.aload_n 2, 1) := by decide +kernel
theorem dL_law_1164 : decode code 1164 = .ok (.invokevirtual 131, 3) := by decide +kernel
theorem dL_law_1167 : decode code 1167 = .ok (.if_icmp .eq 512, 3) := by decide +kernel
theorem dL_law_1170 : decode code 1170 = .ok (.iconst 0, 1) := by decide +kernel
theorem dL_law_1171 : decode code 1171 = .ok (.ireturn, 1) := by decide +kernel
theorem dL_law_1172 : decode code 1172 = .ok (.aload_n 1, 1) := by decide +kernel
theorem dL_law_1173 : decode code 1173 = .ok (.invokevirtual 132, 3) := by decide +kernel
theorem dL_law_1176 : decode code 1176 = .ok (.aload_n 2, 1) := by decide +kernel
theorem dL_law_1177 : decode code 1177 = .ok (.invokevirtual 135, 3) := by decide +kernel
theorem dL_law_1180 : decode code 1180 = .ok (.if_icmp .eq 499, 3) := by decide +kernel
theorem dL_law_1183 : decode code 1183 = .ok (.iconst 0, 1) := by decide +kernel
theorem dL_law_1184 : decode code 1184 = .ok (.ireturn, 1) := by decide +kernel
theorem dL_law_1185 : decode code 1185 = .ok (.aload_n 1, 1) := by decide +kernel
theorem dL_law_1186 : decode code 1186 = .ok (.aload_n 0, 1) := by decide +kernel
theorem dL_law_1187 : decode code 1187 = .ok (.iload_n 3, 1) := by decide +kernel
theorem dL_law_1188 : decode code 1188 = .ok (.iconst 1, 1) := by decide +kernel
theorem dL_law_1189 : decode code 1189 = .ok (.iadd, 1) := by decide +kernel
theorem dL_law_1190 : decode code 1190 = .ok (.iaload, 1) := by decide +kernel
theorem dL_law_1191 : decode code 1191 = .ok (.aload_n 0, 1) := by decide +kernel
theorem dL_law_1192 : decode code 1192 = .ok (.iload_n 3, 1) := by decide +kernel
theorem dL_law_1193 : decode code 1193 = .ok (.iconst 2, 1) := by decide +kernel
theorem dL_law_1194 : decode code 1194 = .ok (.iadd, 1) := by decide +kernel
theorem dL_law_1195 : decode code 1195 = .ok (.iaload, 1) := by decide +kernel
theorem dL_law_1196 : decode code 1196 = .ok (.aload_n 0, 1) := by decide +kernel
theorem dL_law_1197 : decode code 1197 = .ok (.iload_n 3, 1) := by decide +kernel
theorem dL_law_1198 : decode code 1198 = .ok (.iconst 3, 1) := by decide +kernel
theorem dL_law_1199 : decode code 1199 = .ok (.iadd, 1) := by decide +kernel
theorem dL_law_1200 : decode code 1200 = .ok (.iaload, 1) := by decide +kernel
theorem dL_law_1201 : decode code 1201 = .ok (.aload_n 0, 1) := by decide +kernel
theorem dL_law_1202 : decode code 1202 = .ok (.iload_n 3, 1) := by decide +kernel
theorem dL_law_1203 : decode code 1203 = .ok (.iconst 4, 1) := by decide +kernel
theorem dL_law_1204 : decode code 1204 = .ok (.iadd, 1) := by decide +kernel
theorem dL_law_1205 : decode code 1205 = .ok (.iaload, 1) := by decide +kernel
theorem dL_law_1206 : decode code 1206 = .ok (.aload_n 0, 1) := by decide +kernel
theorem dL_law_1207 : decode code 1207 = .ok (.iload_n 3, 1) := by decide +kernel
theorem dL_law_1208 : decode code 1208 = .ok (.iconst 5, 1) := by decide +kernel
theorem dL_law_1209 : decode code 1209 = .ok (.iadd, 1) := by decide +kernel
theorem dL_law_1210 : decode code 1210 = .ok (.iaload, 1) := by decide +kernel
theorem dL_law_1211 : decode code 1211 = .ok (.aload_n 0, 1) := by decide +kernel
theorem dL_law_1212 : decode code 1212 = .ok (.iload_n 3, 1) := by decide +kernel
theorem dL_law_1213 : decode code 1213 = .ok (.bipush 6, 2) := by decide +kernel
theorem dL_law_1215 : decode code 1215 = .ok (.iadd, 1) := by decide +kernel
theorem dL_law_1216 : decode code 1216 = .ok (.iaload, 1) := by decide +kernel
theorem dL_law_1217 : decode code 1217 = .ok (.aload_n 0, 1) := by decide +kernel
theorem dL_law_1218 : decode code 1218 = .ok (.iload_n 3, 1) := by decide +kernel
theorem dL_law_1219 : decode code 1219 = .ok (.bipush 7, 2) := by decide +kernel
theorem dL_law_1221 : decode code 1221 = .ok (.iadd, 1) := by decide +kernel
theorem dL_law_1222 : decode code 1222 = .ok (.iaload, 1) := by decide +kernel
theorem dL_law_1223 : decode code 1223 = .ok (.invokevirtual 136, 3) := by decide +kernel
theorem dL_law_1226 : decode code 1226 = .ok (.aload_n 2, 1) := by decide +kernel
theorem dL_law_1227 : decode code 1227 = .ok (.aload_n 0, 1) := by decide +kernel
theorem dL_law_1228 : decode code 1228 = .ok (.iload_n 3, 1) := by decide +kernel
theorem dL_law_1229 : decode code 1229 = .ok (.iconst 1, 1) := by decide +kernel
theorem dL_law_1230 : decode code 1230 = .ok (.iadd, 1) := by decide +kernel
theorem dL_law_1231 : decode code 1231 = .ok (.iaload, 1) := by decide +kernel
theorem dL_law_1232 : decode code 1232 = .ok (.aload_n 0, 1) := by decide +kernel
theorem dL_law_1233 : decode code 1233 = .ok (.iload_n 3, 1) := by decide +kernel
theorem dL_law_1234 : decode code 1234 = .ok (.iconst 2, 1) := by decide +kernel
theorem dL_law_1235 : decode code 1235 = .ok (.iadd, 1) := by decide +kernel
theorem dL_law_1236 : decode code 1236 = .ok (.iaload, 1) := by decide +kernel
theorem dL_law_1237 : decode code 1237 = .ok (.aload_n 0, 1) := by decide +kernel
theorem dL_law_1238 : decode code 1238 = .ok (.iload_n 3, 1) := by decide +kernel
theorem dL_law_1239 : decode code 1239 = .ok (.iconst 3, 1) := by decide +kernel
theorem dL_law_1240 : decode code 1240 = .ok (.iadd, 1) := by decide +kernel
theorem dL_law_1241 : decode code 1241 = .ok (.iaload, 1) := by decide +kernel
theorem dL_law_1242 : decode code 1242 = .ok (.aload_n 0, 1) := by decide +kernel
theorem dL_law_1243 : decode code 1243 = .ok (.iload_n 3, 1) := by decide +kernel
theorem dL_law_1244 : decode code 1244 = .ok (.iconst 4, 1) := by decide +kernel
theorem dL_law_1245 : decode code 1245 = .ok (.iadd, 1) := by decide +kernel
theorem dL_law_1246 : decode code 1246 = .ok (.iaload, 1) := by decide +kernel
theorem dL_law_1247 : decode code 1247 = .ok (.aload_n 0, 1) := by decide +kernel
theorem dL_law_1248 : decode code 1248 = .ok (.iload_n 3, 1) := by decide +kernel
theorem dL_law_1249 : decode code 1249 = .ok (.iconst 5, 1) := by decide +kernel
theorem dL_law_1250 : decode code 1250 = .ok (.iadd, 1) := by decide +kernel
theorem dL_law_1251 : decode code 1251 = .ok (.iaload, 1) := by decide +kernel
theorem dL_law_1252 : decode code 1252 = .ok (.aload_n 0, 1) := by decide +kernel
theorem dL_law_1253 : decode code 1253 = .ok (.iload_n 3, 1) := by decide +kernel
theorem dL_law_1254 : decode code 1254 = .ok (.bipush 6, 2) := by decide +kernel
theorem dL_law_1256 : decode code 1256 = .ok (.iadd, 1) := by decide +kernel
theorem dL_law_1257 : decode code 1257 = .ok (.iaload, 1) := by decide +kernel
theorem dL_law_1258 : decode code 1258 = .ok (.aload_n 0, 1) := by decide +kernel
theorem dL_law_1259 : decode code 1259 = .ok (.iload_n 3, 1) := by decide +kernel
theorem dL_law_1260 : decode code 1260 = .ok (.bipush 7, 2) := by decide +kernel
theorem dL_law_1262 : decode code 1262 = .ok (.iadd, 1) := by decide +kernel
theorem dL_law_1263 : decode code 1263 = .ok (.iaload, 1) := by decide +kernel
theorem dL_law_1264 : decode code 1264 = .ok (.invokevirtual 140, 3) := by decide +kernel
theorem dL_law_1267 : decode code 1267 = .ok (.if_icmp .eq 412, 3) := by decide +kernel
theorem dL_law_1270 : decode code 1270 = .ok (.iconst 0, 1) := by decide +kernel
theorem dL_law_1271 : decode code 1271 = .ok (.ireturn, 1) := by decide +kernel
theorem dL_law_1272 : decode code 1272 = .ok (.aload_n 1, 1) := by decide +kernel
theorem dL_law_1273 : decode code 1273 = .ok (.aload_n 0, 1) := by decide +kernel
theorem dL_law_1274 : decode code 1274 = .ok (.iload_n 3, 1) := by decide +kernel
theorem dL_law_1275 : decode code 1275 = .ok (.iconst 1, 1) := by decide +kernel
theorem dL_law_1276 : decode code 1276 = .ok (.iadd, 1) := by decide +kernel
theorem dL_law_1277 : decode code 1277 = .ok (.iaload, 1) := by decide +kernel
theorem dL_law_1278 : decode code 1278 = .ok (.aload_n 0, 1) := by decide +kernel
theorem dL_law_1279 : decode code 1279 = .ok (.iload_n 3, 1) := by decide +kernel
theorem dL_law_1280 : decode code 1280 = .ok (.iconst 2, 1) := by decide +kernel
theorem dL_law_1281 : decode code 1281 = .ok (.iadd, 1) := by decide +kernel
theorem dL_law_1282 : decode code 1282 = .ok (.iaload, 1) := by decide +kernel
theorem dL_law_1283 : decode code 1283 = .ok (.aload_n 0, 1) := by decide +kernel
theorem dL_law_1284 : decode code 1284 = .ok (.iload_n 3, 1) := by decide +kernel
theorem dL_law_1285 : decode code 1285 = .ok (.iconst 3, 1) := by decide +kernel
theorem dL_law_1286 : decode code 1286 = .ok (.iadd, 1) := by decide +kernel
theorem dL_law_1287 : decode code 1287 = .ok (.iaload, 1) := by decide +kernel
theorem dL_law_1288 : decode code 1288 = .ok (.aload_n 0, 1) := by decide +kernel
theorem dL_law_1289 : decode code 1289 = .ok (.iload_n 3, 1) := by decide +kernel
theorem dL_law_1290 : decode code 1290 = .ok (.iconst 4, 1) := by decide +kernel
theorem dL_law_1291 : decode code 1291 = .ok (.iadd, 1) := by decide +kernel
theorem dL_law_1292 : decode code 1292 = .ok (.iaload, 1) := by decide +kernel
theorem dL_law_1293 : decode code 1293 = .ok (.aload_n 0, 1) := by decide +kernel
theorem dL_law_1294 : decode code 1294 = .ok (.iload_n 3, 1) := by decide +kernel
theorem dL_law_1295 : decode code 1295 = .ok (.iconst 5, 1) := by decide +kernel
theorem dL_law_1296 : decode code 1296 = .ok (.iadd, 1) := by decide +kernel
theorem dL_law_1297 : decode code 1297 = .ok (.iaload, 1) := by decide +kernel
theorem dL_law_1298 : decode code 1298 = .ok (.aload_n 0, 1) := by decide +kernel
theorem dL_law_1299 : decode code 1299 = .ok (.iload_n 3, 1) := by decide +kernel
theorem dL_law_1300 : decode code 1300 = .ok (.bipush 6, 2) := by decide +kernel
theorem dL_law_1302 : decode code 1302 = .ok (.iadd, 1) := by decide +kernel
theorem dL_law_1303 : decode code 1303 = .ok (.iaload, 1) := by decide +kernel
theorem dL_law_1304 : decode code 1304 = .ok (.aload_n 0, 1) := by decide +kernel
theorem dL_law_1305 : decode code 1305 = .ok (.iload_n 3, 1) := by decide +kernel
theorem dL_law_1306 : decode code 1306 = .ok (.bipush 7, 2) := by decide +kernel
theorem dL_law_1308 : decode code 1308 = .ok (.iadd, 1) := by decide +kernel
theorem dL_law_1309 : decode code 1309 = .ok (.iaload, 1) := by decide +kernel
theorem dL_law_1310 : decode code 1310 = .ok (.aload_n 0, 1) := by decide +kernel
theorem dL_law_1311 : decode code 1311 = .ok (.iload_n 3, 1) := by decide +kernel
theorem dL_law_1312 : decode code 1312 = .ok (.bipush 8, 2) := by decide +kernel
theorem dL_law_1314 : decode code 1314 = .ok (.iadd, 1) := by decide +kernel
theorem dL_law_1315 : decode code 1315 = .ok (.iaload, 1) := by decide +kernel
theorem dL_law_1316 : decode code 1316 = .ok (.invokevirtual 141, 3) := by decide +kernel
theorem dL_law_1319 : decode code 1319 = .ok (.aload_n 2, 1) := by decide +kernel
theorem dL_law_1320 : decode code 1320 = .ok (.aload_n 0, 1) := by decide +kernel
theorem dL_law_1321 : decode code 1321 = .ok (.iload_n 3, 1) := by decide +kernel
theorem dL_law_1322 : decode code 1322 = .ok (.iconst 1, 1) := by decide +kernel
theorem dL_law_1323 : decode code 1323 = .ok (.iadd, 1) := by decide +kernel
theorem dL_law_1324 : decode code 1324 = .ok (.iaload, 1) := by decide +kernel
theorem dL_law_1325 : decode code 1325 = .ok (.aload_n 0, 1) := by decide +kernel
theorem dL_law_1326 : decode code 1326 = .ok (.iload_n 3, 1) := by decide +kernel
theorem dL_law_1327 : decode code 1327 = .ok (.iconst 2, 1) := by decide +kernel
theorem dL_law_1328 : decode code 1328 = .ok (.iadd, 1) := by decide +kernel
theorem dL_law_1329 : decode code 1329 = .ok (.iaload, 1) := by decide +kernel
theorem dL_law_1330 : decode code 1330 = .ok (.aload_n 0, 1) := by decide +kernel
theorem dL_law_1331 : decode code 1331 = .ok (.iload_n 3, 1) := by decide +kernel
theorem dL_law_1332 : decode code 1332 = .ok (.iconst 3, 1) := by decide +kernel
theorem dL_law_1333 : decode code 1333 = .ok (.iadd, 1) := by decide +kernel
theorem dL_law_1334 : decode code 1334 = .ok (.iaload, 1) := by decide +kernel
theorem dL_law_1335 : decode code 1335 = .ok (.aload_n 0, 1) := by decide +kernel
theorem dL_law_1336 : decode code 1336 = .ok (.iload_n 3, 1) := by decide +kernel
theorem dL_law_1337 : decode code 1337 = .ok (.iconst 4, 1) := by decide +kernel
theorem dL_law_1338 : decode code 1338 = .ok (.iadd, 1) := by decide +kernel
theorem dL_law_1339 : decode code 1339 = .ok (.iaload, 1) := by decide +kernel
theorem dL_law_1340 : decode code 1340 = .ok (.aload_n 0, 1) := by decide +kernel
theorem dL_law_1341 : decode code 1341 = .ok (.iload_n 3, 1) := by decide +kernel
theorem dL_law_1342 : decode code 1342 = .ok (.iconst 5, 1) := by decide +kernel
theorem dL_law_1343 : decode code 1343 = .ok (.iadd, 1) := by decide +kernel
theorem dL_law_1344 : decode code 1344 = .ok (.iaload, 1) := by decide +kernel
theorem dL_law_1345 : decode code 1345 = .ok (.aload_n 0, 1) := by decide +kernel
theorem dL_law_1346 : decode code 1346 = .ok (.iload_n 3, 1) := by decide +kernel
theorem dL_law_1347 : decode code 1347 = .ok (.bipush 6, 2) := by decide +kernel
theorem dL_law_1349 : decode code 1349 = .ok (.iadd, 1) := by decide +kernel
theorem dL_law_1350 : decode code 1350 = .ok (.iaload, 1) := by decide +kernel
theorem dL_law_1351 : decode code 1351 = .ok (.aload_n 0, 1) := by decide +kernel
theorem dL_law_1352 : decode code 1352 = .ok (.iload_n 3, 1) := by decide +kernel
theorem dL_law_1353 : decode code 1353 = .ok (.bipush 7, 2) := by decide +kernel
theorem dL_law_1355 : decode code 1355 = .ok (.iadd, 1) := by decide +kernel
theorem dL_law_1356 : decode code 1356 = .ok (.iaload, 1) := by decide +kernel
theorem dL_law_1357 : decode code 1357 = .ok (.aload_n 0, 1) := by decide +kernel
theorem dL_law_1358 : decode code 1358 = .ok (.iload_n 3, 1) := by decide +kernel
theorem dL_law_1359 : decode code 1359 = .ok (.bipush 8, 2) := by decide +kernel
theorem dL_law_1361 : decode code 1361 = .ok (.iadd, 1) := by decide +kernel
theorem dL_law_1362 : decode code 1362 = .ok (.iaload, 1) := by decide +kernel
theorem dL_law_1363 : decode code 1363 = .ok (.invokevirtual 145, 3) := by decide +kernel
theorem dL_law_1366 : decode code 1366 = .ok (.if_icmp .eq 313, 3) := by decide +kernel
theorem dL_law_1369 : decode code 1369 = .ok (.iconst 0, 1) := by decide +kernel
theorem dL_law_1370 : decode code 1370 = .ok (.ireturn, 1) := by decide +kernel
theorem dL_law_1371 : decode code 1371 = .ok (.aload_n 1, 1) := by decide +kernel
theorem dL_law_1372 : decode code 1372 = .ok (.aload_n 0, 1) := by decide +kernel
theorem dL_law_1373 : decode code 1373 = .ok (.iload_n 3, 1) := by decide +kernel
theorem dL_law_1374 : decode code 1374 = .ok (.iconst 1, 1) := by decide +kernel
theorem dL_law_1375 : decode code 1375 = .ok (.iadd, 1) := by decide +kernel
theorem dL_law_1376 : decode code 1376 = .ok (.iaload, 1) := by decide +kernel
theorem dL_law_1377 : decode code 1377 = .ok (.aload_n 0, 1) := by decide +kernel
theorem dL_law_1378 : decode code 1378 = .ok (.iload_n 3, 1) := by decide +kernel
theorem dL_law_1379 : decode code 1379 = .ok (.iconst 2, 1) := by decide +kernel
theorem dL_law_1380 : decode code 1380 = .ok (.iadd, 1) := by decide +kernel
theorem dL_law_1381 : decode code 1381 = .ok (.iaload, 1) := by decide +kernel
theorem dL_law_1382 : decode code 1382 = .ok (.aload_n 0, 1) := by decide +kernel
theorem dL_law_1383 : decode code 1383 = .ok (.iload_n 3, 1) := by decide +kernel
theorem dL_law_1384 : decode code 1384 = .ok (.iconst 3, 1) := by decide +kernel
theorem dL_law_1385 : decode code 1385 = .ok (.iadd, 1) := by decide +kernel
theorem dL_law_1386 : decode code 1386 = .ok (.iaload, 1) := by decide +kernel
theorem dL_law_1387 : decode code 1387 = .ok (.aload_n 0, 1) := by decide +kernel
theorem dL_law_1388 : decode code 1388 = .ok (.iload_n 3, 1) := by decide +kernel
theorem dL_law_1389 : decode code 1389 = .ok (.iconst 4, 1) := by decide +kernel
theorem dL_law_1390 : decode code 1390 = .ok (.iadd, 1) := by decide +kernel
theorem dL_law_1391 : decode code 1391 = .ok (.iaload, 1) := by decide +kernel
theorem dL_law_1392 : decode code 1392 = .ok (.invokevirtual 146, 3) := by decide +kernel
theorem dL_law_1395 : decode code 1395 = .ok (.aload_n 2, 1) := by decide +kernel
theorem dL_law_1396 : decode code 1396 = .ok (.aload_n 0, 1) := by decide +kernel
theorem dL_law_1397 : decode code 1397 = .ok (.iload_n 3, 1) := by decide +kernel
theorem dL_law_1398 : decode code 1398 = .ok (.iconst 1, 1) := by decide +kernel
theorem dL_law_1399 : decode code 1399 = .ok (.iadd, 1) := by decide +kernel
theorem dL_law_1400 : decode code 1400 = .ok (.iaload, 1) := by decide +kernel
theorem dL_law_1401 : decode code 1401 = .ok (.aload_n 0, 1) := by decide +kernel
theorem dL_law_1402 : decode code 1402 = .ok (.iload_n 3, 1) := by decide +kernel
theorem dL_law_1403 : decode code 1403 = .ok (.iconst 2, 1) := by decide +kernel
theorem dL_law_1404 : decode code 1404 = .ok (.iadd, 1) := by decide +kernel
theorem dL_law_1405 : decode code 1405 = .ok (.iaload, 1) := by decide +kernel
theorem dL_law_1406 : decode code 1406 = .ok (.aload_n 0, 1) := by decide +kernel
theorem dL_law_1407 : decode code 1407 = .ok (.iload_n 3, 1) := by decide +kernel
theorem dL_law_1408 : decode code 1408 = .ok (.iconst 3, 1) := by decide +kernel
theorem dL_law_1409 : decode code 1409 = .ok (.iadd, 1) := by decide +kernel
theorem dL_law_1410 : decode code 1410 = .ok (.iaload, 1) := by decide +kernel
theorem dL_law_1411 : decode code 1411 = .ok (.aload_n 0, 1) := by decide +kernel
theorem dL_law_1412 : decode code 1412 = .ok (.iload_n 3, 1) := by decide +kernel
theorem dL_law_1413 : decode code 1413 = .ok (.iconst 4, 1) := by decide +kernel
theorem dL_law_1414 : decode code 1414 = .ok (.iadd, 1) := by decide +kernel
theorem dL_law_1415 : decode code 1415 = .ok (.iaload, 1) := by decide +kernel
theorem dL_law_1416 : decode code 1416 = .ok (.invokevirtual 149, 3) := by decide +kernel
theorem dL_law_1419 : decode code 1419 = .ok (.if_icmp .eq 260, 3) := by decide +kernel
theorem dL_law_1422 : decode code 1422 = .ok (.iconst 0, 1) := by decide +kernel
theorem dL_law_1423 : decode code 1423 = .ok (.ireturn, 1) := by decide +kernel
theorem dL_law_1424 : decode code 1424 = .ok (.aload_n 1, 1) := by decide +kernel
theorem dL_law_1425 : decode code 1425 = .ok (.aload_n 0, 1) := by decide +kernel
theorem dL_law_1426 : decode code 1426 = .ok (.iload_n 3, 1) := by decide +kernel
theorem dL_law_1427 : decode code 1427 = .ok (.iconst 1, 1) := by decide +kernel
theorem dL_law_1428 : decode code 1428 = .ok (.iadd, 1) := by decide +kernel
theorem dL_law_1429 : decode code 1429 = .ok (.iaload, 1) := by decide +kernel
theorem dL_law_1430 : decode code 1430 = .ok (.aload_n 0, 1) := by decide +kernel
theorem dL_law_1431 : decode code 1431 = .ok (.iload_n 3, 1) := by decide +kernel
theorem dL_law_1432 : decode code 1432 = .ok (.iconst 2, 1) := by decide +kernel
theorem dL_law_1433 : decode code 1433 = .ok (.iadd, 1) := by decide +kernel
theorem dL_law_1434 : decode code 1434 = .ok (.iaload, 1) := by decide +kernel
theorem dL_law_1435 : decode code 1435 = .ok (.aload_n 0, 1) := by decide +kernel
theorem dL_law_1436 : decode code 1436 = .ok (.iload_n 3, 1) := by decide +kernel
theorem dL_law_1437 : decode code 1437 = .ok (.iconst 3, 1) := by decide +kernel
theorem dL_law_1438 : decode code 1438 = .ok (.iadd, 1) := by decide +kernel
theorem dL_law_1439 : decode code 1439 = .ok (.iaload, 1) := by decide +kernel
theorem dL_law_1440 : decode code 1440 = .ok (.invokevirtual 150, 3) := by decide +kernel
theorem dL_law_1443 : decode code 1443 = .ok (.aload_n 2, 1) := by decide +kernel
theorem dL_law_1444 : decode code 1444 = .ok (.aload_n 0, 1) := by decide +kernel
theorem dL_law_1445 : decode code 1445 = .ok (.iload_n 3, 1) := by decide +kernel
theorem dL_law_1446 : decode code 1446 = .ok (.iconst 1, 1) := by decide +kernel
theorem dL_law_1447 : decode code 1447 = .ok (.iadd, 1) := by decide +kernel
theorem dL_law_1448 : decode code 1448 = .ok (.iaload, 1) := by decide +kernel
theorem dL_law_1449 : decode code 1449 = .ok (.aload_n 0, 1) := by decide +kernel
theorem dL_law_1450 : decode code 1450 = .ok (.iload_n 3, 1) := by decide +kernel
theorem dL_law_1451 : decode code 1451 = .ok (.iconst 2, 1) := by decide +kernel
theorem dL_law_1452 : decode code 1452 = .ok (.iadd, 1) := by decide +kernel
theorem dL_law_1453 : decode code 1453 = .ok (.iaload, 1) := by decide +kernel
theorem dL_law_1454 : decode code 1454 = .ok (.aload_n 0, 1) := by decide +kernel
theorem dL_law_1455 : decode code 1455 = .ok (.iload_n 3, 1) := by decide +kernel
theorem dL_law_1456 : decode code 1456 = .ok (.iconst 3, 1) := by decide +kernel
theorem dL_law_1457 : decode code 1457 = .ok (.iadd, 1) := by decide +kernel
theorem dL_law_1458 : decode code 1458 = .ok (.iaload, 1) := by decide +kernel
theorem dL_law_1459 : decode code 1459 = .ok (.invokevirtual 153, 3) := by decide +kernel
theorem dL_law_1462 : decode code 1462 = .ok (.if_icmp .eq 217, 3) := by decide +kernel
theorem dL_law_1465 : decode code 1465 = .ok (.iconst 0, 1) := by decide +kernel
theorem dL_law_1466 : decode code 1466 = .ok (.ireturn, 1) := by decide +kernel
theorem dL_law_1467 : decode code 1467 = .ok (.aload_n 1, 1) := by decide +kernel
theorem dL_law_1468 : decode code 1468 = .ok (.aload_n 0, 1) := by decide +kernel
theorem dL_law_1469 : decode code 1469 = .ok (.iload_n 3, 1) := by decide +kernel
theorem dL_law_1470 : decode code 1470 = .ok (.iconst 1, 1) := by decide +kernel
theorem dL_law_1471 : decode code 1471 = .ok (.iadd, 1) := by decide +kernel
theorem dL_law_1472 : decode code 1472 = .ok (.iaload, 1) := by decide +kernel
theorem dL_law_1473 : decode code 1473 = .ok (.aload_n 0, 1) := by decide +kernel
theorem dL_law_1474 : decode code 1474 = .ok (.iload_n 3, 1) := by decide +kernel
theorem dL_law_1475 : decode code 1475 = .ok (.iconst 2, 1) := by decide +kernel
theorem dL_law_1476 : decode code 1476 = .ok (.iadd, 1) := by decide +kernel
theorem dL_law_1477 : decode code 1477 = .ok (.iaload, 1) := by decide +kernel
theorem dL_law_1478 : decode code 1478 = .ok (.aload_n 0, 1) := by decide +kernel
theorem dL_law_1479 : decode code 1479 = .ok (.iload_n 3, 1) := by decide +kernel
theorem dL_law_1480 : decode code 1480 = .ok (.iconst 3, 1) := by decide +kernel
theorem dL_law_1481 : decode code 1481 = .ok (.iadd, 1) := by decide +kernel
theorem dL_law_1482 : decode code 1482 = .ok (.iaload, 1) := by decide +kernel
theorem dL_law_1483 : decode code 1483 = .ok (.invokevirtual 154, 3) := by decide +kernel
theorem dL_law_1486 : decode code 1486 = .ok (.aload_n 2, 1) := by decide +kernel
theorem dL_law_1487 : decode code 1487 = .ok (.aload_n 0, 1) := by decide +kernel
theorem dL_law_1488 : decode code 1488 = .ok (.iload_n 3, 1) := by decide +kernel
theorem dL_law_1489 : decode code 1489 = .ok (.iconst 1, 1) := by decide +kernel
theorem dL_law_1490 : decode code 1490 = .ok (.iadd, 1) := by decide +kernel
theorem dL_law_1491 : decode code 1491 = .ok (.iaload, 1) := by decide +kernel
theorem dL_law_1492 : decode code 1492 = .ok (.aload_n 0, 1) := by decide +kernel
theorem dL_law_1493 : decode code 1493 = .ok (.iload_n 3, 1) := by decide +kernel
theorem dL_law_1494 : decode code 1494 = .ok (.iconst 2, 1) := by decide +kernel
theorem dL_law_1495 : decode code 1495 = .ok (.iadd, 1) := by decide +kernel
theorem dL_law_1496 : decode code 1496 = .ok (.iaload, 1) := by decide +kernel
theorem dL_law_1497 : decode code 1497 = .ok (.aload_n 0, 1) := by decide +kernel
theorem dL_law_1498 : decode code 1498 = .ok (.iload_n 3, 1) := by decide +kernel
theorem dL_law_1499 : decode code 1499 = .ok (.iconst 3, 1) := by decide +kernel
theorem dL_law_1500 : decode code 1500 = .ok (.iadd, 1) := by decide +kernel
theorem dL_law_1501 : decode code 1501 = .ok (.iaload, 1) := by decide +kernel
theorem dL_law_1502 : decode code 1502 = .ok (.invokevirtual 157, 3) := by decide +kernel
theorem dL_law_1505 : decode code 1505 = .ok (.if_icmp .eq 174, 3) := by decide +kernel
theorem dL_law_1508 : decode code 1508 = .ok (.iconst 0, 1) := by decide +kernel
theorem dL_law_1509 : decode code 1509 = .ok (.ireturn, 1) := by decide +kernel
theorem dL_law_1510 : decode code 1510 = .ok (.aload_n 1, 1) := by decide +kernel
theorem dL_law_1511 : decode code 1511 = .ok (.aload_n 0, 1) := by decide +kernel
theorem dL_law_1512 : decode code 1512 = .ok (.iload_n 3, 1) := by decide +kernel
theorem dL_law_1513 : decode code 1513 = .ok (.iconst 1, 1) := by decide +kernel
theorem dL_law_1514 : decode code 1514 = .ok (.iadd, 1) := by decide +kernel
theorem dL_law_1515 : decode code 1515 = .ok (.iaload, 1) := by decide +kernel
theorem dL_law_1516 : decode code 1516 = .ok (.invokevirtual 158, 3) := by decide +kernel
theorem dL_law_1519 : decode code 1519 = .ok (.aload_n 2, 1) := by decide +kernel
theorem dL_law_1520 : decode code 1520 = .ok (.aload_n 0, 1) := by decide +kernel
theorem dL_law_1521 : decode code 1521 = .ok (.iload_n 3, 1) := by decide +kernel
theorem dL_law_1522 : decode code 1522 = .ok (.iconst 1, 1) := by decide +kernel
theorem dL_law_1523 : decode code 1523 = .ok (.iadd, 1) := by decide +kernel
theorem dL_law_1524 : decode code 1524 = .ok (.iaload, 1) := by decide +kernel
theorem dL_law_1525 : decode code 1525 = .ok (.invokevirtual 161, 3) := by decide +kernel
theorem dL_law_1528 : decode code 1528 = .ok (.if_icmp .eq 151, 3) := by decide +kernel
theorem dL_law_1531 : decode code 1531 = .ok (.iconst 0, 1) := by decide +kernel
theorem dL_law_1532 : decode code 1532 = .ok (.ireturn, 1) := by decide +kernel
theorem dL_law_1533 : decode code 1533 = .ok (.aload_n 1, 1) := by decide +kernel
theorem dL_law_1534 : decode code 1534 = .ok (.aload_n 0, 1) := by decide +kernel
theorem dL_law_1535 : decode code 1535 = .ok (.iload_n 3, 1) := by decide +kernel
theorem dL_law_1536 : decode code 1536 = .ok (.iconst 1, 1) := by decide +kernel
theorem dL_law_1537 : decode code 1537 = .ok (.iadd, 1) := by decide +kernel
theorem dL_law_1538 : decode code 1538 = .ok (.iaload, 1) := by decide +kernel
theorem dL_law_1539 : decode code 1539 = .ok (.aload_n 0, 1) := by decide +kernel
theorem dL_law_1540 : decode code 1540 = .ok (.iload_n 3, 1) := by decide +kernel
theorem dL_law_1541 : decode code 1541 = .ok (.iconst 2, 1) := by decide +kernel
theorem dL_law_1542 : decode code 1542 = .ok (.iadd, 1) := by decide +kernel
theorem dL_law_1543 : decode code 1543 = .ok (.iaload, 1) := by decide +kernel
theorem dL_law_1544 : decode code 1544 = .ok (.aload_n 0, 1) := by decide +kernel
theorem dL_law_1545 : decode code 1545 = .ok (.iload_n 3, 1) := by decide +kernel
theorem dL_law_1546 : decode code 1546 = .ok (.iconst 3, 1) := by decide +kernel
theorem dL_law_1547 : decode code 1547 = .ok (.iadd, 1) := by decide +kernel
theorem dL_law_1548 : decode code 1548 = .ok (.iaload, 1) := by decide +kernel
theorem dL_law_1549 : decode code 1549 = .ok (.aload_n 0, 1) := by decide +kernel
theorem dL_law_1550 : decode code 1550 = .ok (.iload_n 3, 1) := by decide +kernel
theorem dL_law_1551 : decode code 1551 = .ok (.iconst 4, 1) := by decide +kernel
theorem dL_law_1552 : decode code 1552 = .ok (.iadd, 1) := by decide +kernel
theorem dL_law_1553 : decode code 1553 = .ok (.iaload, 1) := by decide +kernel
theorem dL_law_1554 : decode code 1554 = .ok (.i2l, 1) := by decide +kernel
theorem dL_law_1555 : decode code 1555 = .ok (.bipush 32, 2) := by decide +kernel
theorem dL_law_1557 : decode code 1557 = .ok (.lshl, 1) := by decide +kernel
theorem dL_law_1558 : decode code 1558 = .ok (.aload_n 0, 1) := by decide +kernel
theorem dL_law_1559 : decode code 1559 = .ok (.iload_n 3, 1) := by decide +kernel
theorem dL_law_1560 : decode code 1560 = .ok (.iconst 5, 1) := by decide +kernel
theorem dL_law_1561 : decode code 1561 = .ok (.iadd, 1) := by decide +kernel
theorem dL_law_1562 : decode code 1562 = .ok (.iaload, 1) := by decide +kernel
theorem dL_law_1563 : decode code 1563 = .ok (.i2l, 1) := by decide +kernel
theorem dL_law_1564 : decode code 1564 = .ok (.ldc2_w 162, 3) := by decide +kernel
theorem dL_law_1567 : decode code 1567 = .ok (.land, 1) := by decide +kernel
theorem dL_law_1568 : decode code 1568 = .ok (.lor, 1) := by decide +kernel
theorem dL_law_1569 : decode code 1569 = .ok (.invokevirtual 164, 3) := by decide +kernel
theorem dL_law_1572 : decode code 1572 = .ok (.aload_n 2, 1) := by decide +kernel
theorem dL_law_1573 : decode code 1573 = .ok (.aload_n 0, 1) := by decide +kernel
theorem dL_law_1574 : decode code 1574 = .ok (.iload_n 3, 1) := by decide +kernel
theorem dL_law_1575 : decode code 1575 = .ok (.iconst 1, 1) := by decide +kernel
theorem dL_law_1576 : decode code 1576 = .ok (.iadd, 1) := by decide +kernel
theorem dL_law_1577 : decode code 1577 = .ok (.iaload, 1) := by decide +kernel
theorem dL_law_1578 : decode code 1578 = .ok (.aload_n 0, 1) := by decide +kernel
theorem dL_law_1579 : decode code 1579 = .ok (.iload_n 3, 1) := by decide +kernel
theorem dL_law_1580 : decode code 1580 = .ok (.iconst 2, 1) := by decide +kernel
theorem dL_law_1581 : decode code 1581 = .ok (.iadd, 1) := by decide +kernel
theorem dL_law_1582 : decode code 1582 = .ok (.iaload, 1) := by decide +kernel
theorem dL_law_1583 : decode code 1583 = .ok (.aload_n 0, 1) := by decide +kernel
theorem dL_law_1584 : decode code 1584 = .ok (.iload_n 3, 1) := by decide +kernel
theorem dL_law_1585 : decode code 1585 = .ok (.iconst 3, 1) := by decide +kernel
theorem dL_law_1586 : decode code 1586 = .ok (.iadd, 1) := by decide +kernel
theorem dL_law_1587 : decode code 1587 = .ok (.iaload, 1) := by decide +kernel
theorem dL_law_1588 : decode code 1588 = .ok (.aload_n 0, 1) := by decide +kernel
theorem dL_law_1589 : decode code 1589 = .ok (.iload_n 3, 1) := by decide +kernel
theorem dL_law_1590 : decode code 1590 = .ok (.iconst 4, 1) := by decide +kernel
theorem dL_law_1591 : decode code 1591 = .ok (.iadd, 1) := by decide +kernel
theorem dL_law_1592 : decode code 1592 = .ok (.iaload, 1) := by decide +kernel
theorem dL_law_1593 : decode code 1593 = .ok (.i2l, 1) := by decide +kernel
theorem dL_law_1594 : decode code 1594 = .ok (.bipush 32, 2) := by decide +kernel
theorem dL_law_1596 : decode code 1596 = .ok (.lshl, 1) := by decide +kernel
theorem dL_law_1597 : decode code 1597 = .ok (.aload_n 0, 1) := by decide +kernel
theorem dL_law_1598 : decode code 1598 = .ok (.iload_n 3, 1) := by decide +kernel
theorem dL_law_1599 : decode code 1599 = .ok (.iconst 5, 1) := by decide +kernel
theorem dL_law_1600 : decode code 1600 = .ok (.iadd, 1) := by decide +kernel
theorem dL_law_1601 : decode code 1601 = .ok (.iaload, 1) := by decide +kernel
theorem dL_law_1602 : decode code 1602 = .ok (.i2l, 1) := by decide +kernel
theorem dL_law_1603 : decode code 1603 = .ok (.ldc2_w 162, 3) := by decide +kernel
theorem dL_law_1606 : decode code 1606 = .ok (.land, 1) := by decide +kernel
theorem dL_law_1607 : decode code 1607 = .ok (.lor, 1) := by decide +kernel
theorem dL_law_1608 : decode code 1608 = .ok (.invokevirtual 168, 3) := by decide +kernel
theorem dL_law_1611 : decode code 1611 = .ok (.if_icmp .eq 68, 3) := by decide +kernel
theorem dL_law_1614 : decode code 1614 = .ok (.iconst 0, 1) := by decide +kernel
theorem dL_law_1615 : decode code 1615 = .ok (.ireturn, 1) := by decide +kernel
theorem dL_law_1616 : decode code 1616 = .ok (.aload_n 1, 1) := by decide +kernel
theorem dL_law_1617 : decode code 1617 = .ok (.aload_n 0, 1) := by decide +kernel
theorem dL_law_1618 : decode code 1618 = .ok (.iload_n 3, 1) := by decide +kernel
theorem dL_law_1619 : decode code 1619 = .ok (.iconst 1, 1) := by decide +kernel
theorem dL_law_1620 : decode code 1620 = .ok (.iadd, 1) := by decide +kernel
theorem dL_law_1621 : decode code 1621 = .ok (.iaload, 1) := by decide +kernel
theorem dL_law_1622 : decode code 1622 = .ok (.aload_n 0, 1) := by decide +kernel
theorem dL_law_1623 : decode code 1623 = .ok (.iload_n 3, 1) := by decide +kernel
theorem dL_law_1624 : decode code 1624 = .ok (.iconst 2, 1) := by decide +kernel
theorem dL_law_1625 : decode code 1625 = .ok (.iadd, 1) := by decide +kernel
theorem dL_law_1626 : decode code 1626 = .ok (.iaload, 1) := by decide +kernel
theorem dL_law_1627 : decode code 1627 = .ok (.aload_n 0, 1) := by decide +kernel
theorem dL_law_1628 : decode code 1628 = .ok (.iload_n 3, 1) := by decide +kernel
theorem dL_law_1629 : decode code 1629 = .ok (.iconst 3, 1) := by decide +kernel
theorem dL_law_1630 : decode code 1630 = .ok (.iadd, 1) := by decide +kernel
theorem dL_law_1631 : decode code 1631 = .ok (.iaload, 1) := by decide +kernel
theorem dL_law_1632 : decode code 1632 = .ok (.aload_n 0, 1) := by decide +kernel
theorem dL_law_1633 : decode code 1633 = .ok (.iload_n 3, 1) := by decide +kernel
theorem dL_law_1634 : decode code 1634 = .ok (.iconst 4, 1) := by decide +kernel
theorem dL_law_1635 : decode code 1635 = .ok (.iadd, 1) := by decide +kernel
theorem dL_law_1636 : decode code 1636 = .ok (.iaload, 1) := by decide +kernel
theorem dL_law_1637 : decode code 1637 = .ok (.aload_n 0, 1) := by decide +kernel
theorem dL_law_1638 : decode code 1638 = .ok (.iload_n 3, 1) := by decide +kernel
theorem dL_law_1639 : decode code 1639 = .ok (.iconst 5, 1) := by decide +kernel
theorem dL_law_1640 : decode code 1640 = .ok (.iadd, 1) := by decide +kernel
theorem dL_law_1641 : decode code 1641 = .ok (.iaload, 1) := by decide +kernel
theorem dL_law_1642 : decode code 1642 = .ok (.invokevirtual 169, 3) := by decide +kernel
theorem dL_law_1645 : decode code 1645 = .ok (.aload_n 2, 1) := by decide +kernel
theorem dL_law_1646 : decode code 1646 = .ok (.aload_n 0, 1) := by decide +kernel
theorem dL_law_1647 : decode code 1647 = .ok (.iload_n 3, 1) := by decide +kernel
theorem dL_law_1648 : decode code 1648 = .ok (.iconst 1, 1) := by decide +kernel
theorem dL_law_1649 : decode code 1649 = .ok (.iadd, 1) := by decide +kernel
theorem dL_law_1650 : decode code 1650 = .ok (.iaload, 1) := by decide +kernel
theorem dL_law_1651 : decode code 1651 = .ok (.aload_n 0, 1) := by decide +kernel
theorem dL_law_1652 : decode code 1652 = .ok (.iload_n 3, 1) := by decide +kernel
theorem dL_law_1653 : decode code 1653 = .ok (.iconst 2, 1) := by decide +kernel
theorem dL_law_1654 : decode code 1654 = .ok (.iadd, 1) := by decide +kernel
theorem dL_law_1655 : decode code 1655 = .ok (.iaload, 1) := by decide +kernel
theorem dL_law_1656 : decode code 1656 = .ok (.aload_n 0, 1) := by decide +kernel
theorem dL_law_1657 : decode code 1657 = .ok (.iload_n 3, 1) := by decide +kernel
theorem dL_law_1658 : decode code 1658 = .ok (.iconst 3, 1) := by decide +kernel
theorem dL_law_1659 : decode code 1659 = .ok (.iadd, 1) := by decide +kernel
theorem dL_law_1660 : decode code 1660 = .ok (.iaload, 1) := by decide +kernel
theorem dL_law_1661 : decode code 1661 = .ok (.aload_n 0, 1) := by decide +kernel
theorem dL_law_1662 : decode code 1662 = .ok (.iload_n 3, 1) := by decide +kernel
theorem dL_law_1663 : decode code 1663 = .ok (.iconst 4, 1) := by decide +kernel
theorem dL_law_1664 : decode code 1664 = .ok (.iadd, 1) := by decide +kernel
theorem dL_law_1665 : decode code 1665 = .ok (.iaload, 1) := by decide +kernel
theorem dL_law_1666 : decode code 1666 = .ok (.aload_n 0, 1) := by decide +kernel
theorem dL_law_1667 : decode code 1667 = .ok (.iload_n 3, 1) := by decide +kernel
theorem dL_law_1668 : decode code 1668 = .ok (.iconst 5, 1) := by decide +kernel
theorem dL_law_1669 : decode code 1669 = .ok (.iadd, 1) := by decide +kernel
theorem dL_law_1670 : decode code 1670 = .ok (.iaload, 1) := by decide +kernel
theorem dL_law_1671 : decode code 1671 = .ok (.invokevirtual 172, 3) := by decide +kernel
theorem dL_law_1674 : decode code 1674 = .ok (.if_icmp .eq 5, 3) := by decide +kernel
theorem dL_law_1677 : decode code 1677 = .ok (.iconst 0, 1) := by decide +kernel
theorem dL_law_1678 : decode code 1678 = .ok (.ireturn, 1) := by decide +kernel
theorem dL_law_1679 : decode code 1679 = .ok (.iinc 3 9, 3) := by decide +kernel
theorem dL_law_1682 : decode code 1682 = .ok (.goto (-1664), 3) := by decide +kernel
theorem dL_law_1685 : decode code 1685 = .ok (.iconst 1, 1) := by decide +kernel
theorem dL_law_1686 : decode code 1686 = .ok (.ireturn, 1) := by decide +kernel
