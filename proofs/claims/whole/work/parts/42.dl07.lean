theorem dl_1072 : decode code 1072 = .ok (.iload_n 3, 1) := by decide +kernel
theorem dl_1073 : decode code 1073 = .ok (.iconst 2, 1) := by decide +kernel
theorem dl_1074 : decode code 1074 = .ok (.iadd, 1) := by decide +kernel
theorem dl_1075 : decode code 1075 = .ok (.iaload, 1) := by decide +kernel
theorem dl_1076 : decode code 1076 = .ok (.aload_n 0, 1) := by decide +kernel
theorem dl_1077 : decode code 1077 = .ok (.iload_n 3, 1) := by decide +kernel
theorem dl_1078 : decode code 1078 = .ok (.iconst 3, 1) := by decide +kernel
theorem dl_1079 : decode code 1079 = .ok (.iadd, 1) := by decide +kernel
theorem dl_1080 : decode code 1080 = .ok (.iaload, 1) := by decide +kernel
theorem dl_1081 : decode code 1081 = .ok (.aload_n 0, 1) := by decide +kernel
theorem dl_1082 : decode code 1082 = .ok (.iload_n 3, 1) := by decide +kernel
theorem dl_1083 : decode code 1083 = .ok (.iconst 4, 1) := by decide +kernel
theorem dl_1084 : decode code 1084 = .ok (.iadd, 1) := by decide +kernel
theorem dl_1085 : decode code 1085 = .ok (.iaload, 1) := by decide +kernel
theorem dl_1086 : decode code 1086 = .ok (.invokevirtual 150, 3) := by decide +kernel
theorem dl_1089 : decode code 1089 = .ok (.aload_n 2, 1) := by decide +kernel
theorem dl_1090 : decode code 1090 = .ok (.aload_n 0, 1) := by decide +kernel
theorem dl_1091 : decode code 1091 = .ok (.iload_n 3, 1) := by decide +kernel
theorem dl_1092 : decode code 1092 = .ok (.iconst 1, 1) := by decide +kernel
theorem dl_1093 : decode code 1093 = .ok (.iadd, 1) := by decide +kernel
theorem dl_1094 : decode code 1094 = .ok (.iaload, 1) := by decide +kernel
theorem dl_1095 : decode code 1095 = .ok (.aload_n 0, 1) := by decide +kernel
theorem dl_1096 : decode code 1096 = .ok (.iload_n 3, 1) := by decide +kernel
theorem dl_1097 : decode code 1097 = .ok (.iconst 2, 1) := by decide +kernel
theorem dl_1098 : decode code 1098 = .ok (.iadd, 1) := by decide +kernel
theorem dl_1099 : decode code 1099 = .ok (.iaload, 1) := by decide +kernel
theorem dl_1100 : decode code 1100 = .ok (.aload_n 0, 1) := by decide +kernel
theorem dl_1101 : decode code 1101 = .ok (.iload_n 3, 1) := by decide +kernel
theorem dl_1102 : decode code 1102 = .ok (.iconst 3, 1) := by decide +kernel
theorem dl_1103 : decode code 1103 = .ok (.iadd, 1) := by decide +kernel
theorem dl_1104 : decode code 1104 = .ok (.iaload, 1) := by decide +kernel
theorem dl_1105 : decode code 1105 = .ok (.aload_n 0, 1) := by decide +kernel
theorem dl_1106 : decode code 1106 = .ok (.iload_n 3, 1) := by decide +kernel
theorem dl_1107 : decode code 1107 = .ok (.iconst 4, 1) := by decide +kernel
theorem dl_1108 : decode code 1108 = .ok (.iadd, 1) := by decide +kernel
theorem dl_1109 : decode code 1109 = .ok (.iaload, 1) := by decide +kernel
theorem dl_1110 : decode code 1110 = .ok (.invokevirtual 154, 3) := by decide +kernel
theorem dl_1113 : decode code 1113 = .ok (.if_icmp .eq 74, 3) := by decide +kernel
theorem dl_1116 : decode code 1116 = .ok (.iconst 0, 1) := by decide +kernel
theorem dl_1117 : decode code 1117 = .ok (.ireturn, 1) := by decide +kernel
theorem dl_1118 : decode code 1118 = .ok (.aload_n 1, 1) := by decide +kernel
theorem dl_1119 : decode code 1119 = .ok (.aload_n 0, 1) := by decide +kernel
theorem dl_1120 : decode code 1120 = .ok (.iload_n 3, 1) := by decide +kernel
theorem dl_1121 : decode code 1121 = .ok (.iconst 1, 1) := by decide +kernel
theorem dl_1122 : decode code 1122 = .ok (.iadd, 1) := by decide +kernel
theorem dl_1123 : decode code 1123 = .ok (.iaload, 1) := by decide +kernel
theorem dl_1124 : decode code 1124 = .ok (.invokevirtual 155, 3) := by decide +kernel
theorem dl_1127 : decode code 1127 = .ok (.aload_n 2, 1) := by decide +kernel
theorem dl_1128 : decode code 1128 = .ok (.aload_n 0, 1) := by decide +kernel
theorem dl_1129 : decode code 1129 = .ok (.iload_n 3, 1) := by decide +kernel
theorem dl_1130 : decode code 1130 = .ok (.iconst 1, 1) := by decide +kernel
theorem dl_1131 : decode code 1131 = .ok (.iadd, 1) := by decide +kernel
theorem dl_1132 : decode code 1132 = .ok (.iaload, 1) := by decide +kernel
theorem dl_1133 : decode code 1133 = .ok (.invokevirtual 158, 3) := by decide +kernel
theorem dl_1136 : decode code 1136 = .ok (.if_icmp .eq 51, 3) := by decide +kernel
theorem dl_1139 : decode code 1139 = .ok (.iconst 0, 1) := by decide +kernel
theorem dl_1140 : decode code 1140 = .ok (.ireturn, 1) := by decide +kernel
theorem dl_1141 : decode code 1141 = .ok (.aload_n 1, 1) := by decide +kernel
theorem dl_1142 : decode code 1142 = .ok (.aload_n 0, 1) := by decide +kernel
theorem dl_1143 : decode code 1143 = .ok (.iload_n 3, 1) := by decide +kernel
theorem dl_1144 : decode code 1144 = .ok (.iconst 1, 1) := by decide +kernel
theorem dl_1145 : decode code 1145 = .ok (.iadd, 1) := by decide +kernel
theorem dl_1146 : decode code 1146 = .ok (.iaload, 1) := by decide +kernel
theorem dl_1147 : decode code 1147 = .ok (.invokevirtual 159, 3) := by decide +kernel
theorem dl_1150 : decode code 1150 = .ok (.aload_n 2, 1) := by decide +kernel
theorem dl_1151 : decode code 1151 = .ok (.aload_n 0, 1) := by decide +kernel
theorem dl_1152 : decode code 1152 = .ok (.iload_n 3, 1) := by decide +kernel
theorem dl_1153 : decode code 1153 = .ok (.iconst 1, 1) := by decide +kernel
theorem dl_1154 : decode code 1154 = .ok (.iadd, 1) := by decide +kernel
theorem dl_1155 : decode code 1155 = .ok (.iaload, 1) := by decide +kernel
theorem dl_1156 : decode code 1156 = .ok (.invokevirtual 162, 3) := by decide +kernel
theorem dl_1159 : decode code 1159 = .ok (.if_icmp .eq 28, 3) := by decide +kernel
theorem dl_1162 : decode code 1162 = .ok (.iconst 0, 1) := by decide +kernel
theorem dl_1163 : decode code 1163 = .ok (.ireturn, 1) := by decide +kernel
theorem dl_1164 : decode code 1164 = .ok (.aload_n 1, 1) := by decide +kernel
theorem dl_1165 : decode code 1165 = .ok (.aload_n 0, 1) := by decide +kernel
theorem dl_1166 : decode code 1166 = .ok (.iload_n 3, 1) := by decide +kernel
theorem dl_1167 : decode code 1167 = .ok (.iconst 1, 1) := by decide +kernel
theorem dl_1168 : decode code 1168 = .ok (.iadd, 1) := by decide +kernel
theorem dl_1169 : decode code 1169 = .ok (.iaload, 1) := by decide +kernel
theorem dl_1170 : decode code 1170 = .ok (.invokevirtual 163, 3) := by decide +kernel
theorem dl_1173 : decode code 1173 = .ok (.aload_n 2, 1) := by decide +kernel
theorem dl_1174 : decode code 1174 = .ok (.aload_n 0, 1) := by decide +kernel
theorem dl_1175 : decode code 1175 = .ok (.iload_n 3, 1) := by decide +kernel
theorem dl_1176 : decode code 1176 = .ok (.iconst 1, 1) := by decide +kernel
theorem dl_1177 : decode code 1177 = .ok (.iadd, 1) := by decide +kernel
theorem dl_1178 : decode code 1178 = .ok (.iaload, 1) := by decide +kernel
theorem dl_1179 : decode code 1179 = .ok (.invokevirtual 166, 3) := by decide +kernel
theorem dl_1182 : decode code 1182 = .ok (.if_icmp .eq 5, 3) := by decide +kernel
theorem dl_1185 : decode code 1185 = .ok (.iconst 0, 1) := by decide +kernel
theorem dl_1186 : decode code 1186 = .ok (.ireturn, 1) := by decide +kernel
theorem dl_1187 : decode code 1187 = .ok (.iinc 3 6, 3) := by decide +kernel
theorem dl_1190 : decode code 1190 = .ok (.goto (-1172), 3) := by decide +kernel
theorem dl_1193 : decode code 1193 = .ok (.iconst 1, 1) := by decide +kernel
theorem dl_1194 : decode code 1194 = .ok (.ireturn, 1) := by decide +kernel
