/-! The tables, row by row (wip/tools/gen_tabs.py) -/
theorem f_1_9 : ev_fld 1 9 = some (1, 0, 1033) := by decide +kernel
theorem f_1_15 : ev_fld 1 15 = some (1, 1, 1034) := by decide +kernel
theorem f_1_18 : ev_fld 1 18 = some (1, 2, 1035) := by decide +kernel
theorem f_1_28 : ev_fld 1 28 = some (1, 3, 1036) := by decide +kernel
theorem f_1_21 : ev_fld 1 21 = some (1, 4, 1037) := by decide +kernel
theorem f_0_151 : ev_fld 0 151 = some (1, 4, 1038) := by decide +kernel
theorem f_6_65 : ev_fld 6 65 = some (1, 5, 1039) := by decide +kernel
theorem f_3_42 : ev_fld 3 42 = some (1, 5, 1040) := by decide +kernel
theorem f_1_25 : ev_fld 1 25 = some (1, 5, 1041) := by decide +kernel
theorem f_0_93 : ev_fld 0 93 = some (1, 5, 1042) := by decide +kernel
theorem f_3_58 : ev_fld 3 58 = some (2, 0, 1063) := by decide +kernel
theorem f_2_37 : ev_fld 2 37 = some (2, 0, 1064) := by decide +kernel
theorem f_11_119 : ev_fld 11 119 = some (2, 0, 1065) := by decide +kernel
theorem f_4_75 : ev_fld 4 75 = some (2, 0, 1066) := by decide +kernel
theorem f_9_87 : ev_fld 9 87 = some (2, 0, 1067) := by decide +kernel
theorem f_0_148 : ev_fld 0 148 = some (2, 0, 1068) := by decide +kernel
theorem f_11_69 : ev_fld 11 69 = some (2, 1, 1069) := by decide +kernel
theorem f_9_59 : ev_fld 9 59 = some (2, 1, 1070) := by decide +kernel
theorem f_2_41 : ev_fld 2 41 = some (2, 1, 1071) := by decide +kernel
theorem f_0_124 : ev_fld 0 124 = some (2, 1, 1072) := by decide +kernel
theorem f_3_82 : ev_fld 3 82 = some (2, 1, 1073) := by decide +kernel
theorem f_10_91 : ev_fld 10 91 = some (2, 1, 1074) := by decide +kernel
theorem f_4_103 : ev_fld 4 103 = some (2, 1, 1075) := by decide +kernel
theorem f_2_9 : ev_fld 2 9 = some (2, 2, 1076) := by decide +kernel
theorem f_0_172 : ev_fld 0 172 = some (2, 2, 1077) := by decide +kernel
theorem f_2_15 : ev_fld 2 15 = some (2, 3, 1078) := by decide +kernel
theorem f_9_69 : ev_fld 9 69 = some (2, 3, 1079) := by decide +kernel
theorem f_10_93 : ev_fld 10 93 = some (2, 3, 1080) := by decide +kernel
theorem f_0_157 : ev_fld 0 157 = some (2, 3, 1081) := by decide +kernel
theorem f_4_109 : ev_fld 4 109 = some (2, 3, 1082) := by decide +kernel
theorem f_11_133 : ev_fld 11 133 = some (2, 3, 1083) := by decide +kernel
theorem f_2_18 : ev_fld 2 18 = some (2, 4, 1084) := by decide +kernel
theorem f_9_80 : ev_fld 9 80 = some (2, 4, 1085) := by decide +kernel
theorem f_11_109 : ev_fld 11 109 = some (2, 4, 1086) := by decide +kernel
theorem f_3_94 : ev_fld 3 94 = some (2, 4, 1087) := by decide +kernel
theorem f_0_160 : ev_fld 0 160 = some (2, 4, 1088) := by decide +kernel
theorem f_10_107 : ev_fld 10 107 = some (2, 4, 1089) := by decide +kernel
theorem f_4_129 : ev_fld 4 129 = some (2, 4, 1090) := by decide +kernel
theorem f_2_21 : ev_fld 2 21 = some (2, 5, 1091) := by decide +kernel
theorem f_0_175 : ev_fld 0 175 = some (2, 6, 1092) := by decide +kernel
theorem f_2_66 : ev_fld 2 66 = some (2, 6, 1093) := by decide +kernel
theorem f_0_181 : ev_fld 0 181 = some (2, 7, 1094) := by decide +kernel
theorem f_2_104 : ev_fld 2 104 = some (2, 7, 1095) := by decide +kernel
theorem f_0_195 : ev_fld 0 195 = some (2, 8, 1096) := by decide +kernel
theorem f_2_121 : ev_fld 2 121 = some (2, 8, 1097) := by decide +kernel
theorem f_2_24 : ev_fld 2 24 = some (2, 9, 1098) := by decide +kernel
theorem f_0_184 : ev_fld 0 184 = some (2, 9, 1099) := by decide +kernel
theorem f_4_94 : ev_fld 4 94 = some (2, 9, 1100) := by decide +kernel
theorem f_2_28 : ev_fld 2 28 = some (2, 10, 1101) := by decide +kernel
theorem f_0_192 : ev_fld 0 192 = some (2, 10, 1102) := by decide +kernel
theorem f_2_31 : ev_fld 2 31 = some (2, 11, 1103) := by decide +kernel
theorem f_2_34 : ev_fld 2 34 = some (2, 12, 1104) := by decide +kernel
theorem f_3_9 : ev_fld 3 9 = some (3, 0, 1141) := by decide +kernel
theorem f_3_15 : ev_fld 3 15 = some (3, 1, 1142) := by decide +kernel
theorem f_3_21 : ev_fld 3 21 = some (3, 2, 1143) := by decide +kernel
theorem f_3_28 : ev_fld 3 28 = some (3, 3, 1144) := by decide +kernel
theorem f_3_32 : ev_fld 3 32 = some (3, 4, 1145) := by decide +kernel
theorem f_4_12 : ev_fld 4 12 = some (4, 0, 1165) := by decide +kernel
theorem f_4_18 : ev_fld 4 18 = some (4, 1, 1166) := by decide +kernel
theorem f_4_67 : ev_fld 4 67 = some (4, 2, 1167) := by decide +kernel
theorem f_4_82 : ev_fld 4 82 = some (4, 3, 1168) := by decide +kernel
theorem f_4_22 : ev_fld 4 22 = some (4, 4, 1169) := by decide +kernel
theorem f_4_26 : ev_fld 4 26 = some (4, 5, 1170) := by decide +kernel
theorem f_4_29 : ev_fld 4 29 = some (4, 6, 1171) := by decide +kernel
theorem f_4_32 : ev_fld 4 32 = some (4, 7, 1172) := by decide +kernel
theorem f_4_157 : ev_fld 4 157 = some (4, 8, 1173) := by decide +kernel
theorem f_4_35 : ev_fld 4 35 = some (4, 9, 1174) := by decide +kernel
theorem f_4_38 : ev_fld 4 38 = some (4, 10, 1175) := by decide +kernel
theorem f_4_41 : ev_fld 4 41 = some (4, 11, 1176) := by decide +kernel
theorem f_4_44 : ev_fld 4 44 = some (4, 12, 1177) := by decide +kernel
theorem f_4_47 : ev_fld 4 47 = some (4, 13, 1178) := by decide +kernel
theorem f_4_50 : ev_fld 4 50 = some (4, 14, 1179) := by decide +kernel
theorem f_4_53 : ev_fld 4 53 = some (4, 15, 1180) := by decide +kernel
theorem f_4_56 : ev_fld 4 56 = some (4, 16, 1181) := by decide +kernel
theorem f_4_60 : ev_fld 4 60 = some (4, 17, 1182) := by decide +kernel
theorem f_5_9 : ev_fld 5 9 = some (5, 0, 1227) := by decide +kernel
theorem f_9_66 : ev_fld 9 66 = some (5, 0, 1228) := by decide +kernel
theorem f_11_99 : ev_fld 11 99 = some (5, 0, 1229) := by decide +kernel
theorem f_0_145 : ev_fld 0 145 = some (5, 0, 1230) := by decide +kernel
theorem f_7_140 : ev_fld 7 140 = some (5, 0, 1231) := by decide +kernel
theorem f_5_19 : ev_fld 5 19 = some (5, 1, 1232) := by decide +kernel
theorem f_7_98 : ev_fld 7 98 = some (5, 1, 1233) := by decide +kernel
theorem f_0_240 : ev_fld 0 240 = some (5, 1, 1234) := by decide +kernel
theorem f_11_198 : ev_fld 11 198 = some (5, 1, 1235) := by decide +kernel
theorem f_5_15 : ev_fld 5 15 = some (5, 2, 1236) := by decide +kernel
theorem f_7_57 : ev_fld 7 57 = some (7, 0, 2018) := by decide +kernel
theorem f_7_12 : ev_fld 7 12 = some (7, 1, 2019) := by decide +kernel
theorem f_7_18 : ev_fld 7 18 = some (7, 2, 2020) := by decide +kernel
theorem f_7_75 : ev_fld 7 75 = some (7, 3, 2021) := by decide +kernel
theorem f_7_61 : ev_fld 7 61 = some (7, 4, 2022) := by decide +kernel
theorem f_7_21 : ev_fld 7 21 = some (7, 5, 2023) := by decide +kernel
theorem f_7_25 : ev_fld 7 25 = some (7, 6, 2024) := by decide +kernel
theorem f_7_29 : ev_fld 7 29 = some (7, 7, 2025) := by decide +kernel
theorem f_7_32 : ev_fld 7 32 = some (7, 8, 2026) := by decide +kernel
theorem f_7_35 : ev_fld 7 35 = some (7, 9, 2027) := by decide +kernel
theorem f_7_38 : ev_fld 7 38 = some (7, 10, 2028) := by decide +kernel
theorem f_7_42 : ev_fld 7 42 = some (7, 11, 2029) := by decide +kernel
theorem f_7_45 : ev_fld 7 45 = some (7, 12, 2030) := by decide +kernel
theorem f_7_48 : ev_fld 7 48 = some (7, 13, 2031) := by decide +kernel
theorem f_7_109 : ev_fld 7 109 = some (7, 14, 2032) := by decide +kernel
theorem f_7_51 : ev_fld 7 51 = some (7, 15, 2033) := by decide +kernel
theorem f_7_54 : ev_fld 7 54 = some (7, 16, 2034) := by decide +kernel
theorem f_6_54 : ev_fld 6 54 = some (6, 0, 2085) := by decide +kernel
theorem f_6_58 : ev_fld 6 58 = some (6, 1, 2086) := by decide +kernel
theorem f_6_62 : ev_fld 6 62 = some (6, 2, 2087) := by decide +kernel
theorem f_6_12 : ev_fld 6 12 = some (6, 3, 2088) := by decide +kernel
theorem f_6_21 : ev_fld 6 21 = some (6, 4, 2089) := by decide +kernel
theorem f_6_25 : ev_fld 6 25 = some (6, 5, 2090) := by decide +kernel
theorem f_6_28 : ev_fld 6 28 = some (6, 6, 2091) := by decide +kernel
theorem f_6_32 : ev_fld 6 32 = some (6, 7, 2092) := by decide +kernel
theorem f_6_35 : ev_fld 6 35 = some (6, 8, 2093) := by decide +kernel
theorem f_6_38 : ev_fld 6 38 = some (6, 9, 2094) := by decide +kernel
theorem f_6_42 : ev_fld 6 42 = some (6, 10, 2095) := by decide +kernel
theorem f_6_45 : ev_fld 6 45 = some (6, 11, 2096) := by decide +kernel
theorem f_6_48 : ev_fld 6 48 = some (6, 12, 2097) := by decide +kernel
theorem f_6_110 : ev_fld 6 110 = some (6, 13, 2098) := by decide +kernel
theorem f_8_11 : ev_fld 8 11 = some (8, 0, 2136) := by decide +kernel
theorem f_8_15 : ev_fld 8 15 = some (8, 1, 2137) := by decide +kernel
theorem f_8_18 : ev_fld 8 18 = some (8, 2, 2138) := by decide +kernel
theorem f_8_21 : ev_fld 8 21 = some (8, 3, 2139) := by decide +kernel
theorem f_8_28 : ev_fld 8 28 = some (8, 4, 2140) := by decide +kernel
theorem f_8_32 : ev_fld 8 32 = some (8, 5, 2141) := by decide +kernel
theorem f_8_35 : ev_fld 8 35 = some (8, 6, 2142) := by decide +kernel
theorem f_8_43 : ev_fld 8 43 = some (8, 7, 2143) := by decide +kernel
theorem f_9_49 : ev_fld 9 49 = some (9, 0, 2172) := by decide +kernel
theorem f_0_120 : ev_fld 0 120 = some (9, 0, 2173) := by decide +kernel
theorem f_9_11 : ev_fld 9 11 = some (9, 1, 2174) := by decide +kernel
theorem f_0_298 : ev_fld 0 298 = some (9, 1, 2175) := by decide +kernel
theorem f_9_18 : ev_fld 9 18 = some (9, 2, 2176) := by decide +kernel
theorem f_9_25 : ev_fld 9 25 = some (9, 3, 2177) := by decide +kernel
theorem f_9_29 : ev_fld 9 29 = some (9, 4, 2178) := by decide +kernel
theorem f_9_32 : ev_fld 9 32 = some (9, 5, 2179) := by decide +kernel
theorem f_9_35 : ev_fld 9 35 = some (9, 6, 2180) := by decide +kernel
theorem f_9_39 : ev_fld 9 39 = some (9, 7, 2181) := by decide +kernel
theorem f_9_96 : ev_fld 9 96 = some (9, 8, 2182) := by decide +kernel
theorem f_9_99 : ev_fld 9 99 = some (9, 9, 2183) := by decide +kernel
theorem f_9_43 : ev_fld 9 43 = some (9, 10, 2184) := by decide +kernel
theorem f_9_46 : ev_fld 9 46 = some (9, 11, 2185) := by decide +kernel
theorem f_11_12 : ev_fld 11 12 = some (11, 0, 2228) := by decide +kernel
theorem f_11_21 : ev_fld 11 21 = some (11, 1, 2229) := by decide +kernel
theorem f_11_25 : ev_fld 11 25 = some (11, 2, 2230) := by decide +kernel
theorem f_10_52 : ev_fld 10 52 = some (11, 3, 2231) := by decide +kernel
theorem f_11_78 : ev_fld 11 78 = some (11, 3, 2232) := by decide +kernel
theorem f_11_29 : ev_fld 11 29 = some (11, 4, 2233) := by decide +kernel
theorem f_10_49 : ev_fld 10 49 = some (11, 4, 2234) := by decide +kernel
theorem f_11_33 : ev_fld 11 33 = some (11, 5, 2235) := by decide +kernel
theorem f_10_56 : ev_fld 10 56 = some (11, 5, 2236) := by decide +kernel
theorem f_11_37 : ev_fld 11 37 = some (11, 6, 2237) := by decide +kernel
theorem f_10_70 : ev_fld 10 70 = some (11, 6, 2238) := by decide +kernel
theorem f_11_106 : ev_fld 11 106 = some (11, 7, 2239) := by decide +kernel
theorem f_10_67 : ev_fld 10 67 = some (11, 7, 3000) := by decide +kernel
theorem f_11_40 : ev_fld 11 40 = some (11, 8, 3001) := by decide +kernel
theorem f_10_109 : ev_fld 10 109 = some (11, 8, 3002) := by decide +kernel
theorem f_11_43 : ev_fld 11 43 = some (11, 9, 3003) := by decide +kernel
theorem f_11_46 : ev_fld 11 46 = some (11, 10, 3004) := by decide +kernel
theorem f_11_75 : ev_fld 11 75 = some (11, 11, 3005) := by decide +kernel
theorem f_11_50 : ev_fld 11 50 = some (11, 12, 3006) := by decide +kernel
theorem f_11_53 : ev_fld 11 53 = some (11, 13, 3007) := by decide +kernel
theorem f_11_56 : ev_fld 11 56 = some (11, 14, 3008) := by decide +kernel
theorem f_11_59 : ev_fld 11 59 = some (11, 15, 3009) := by decide +kernel
theorem f_11_62 : ev_fld 11 62 = some (11, 16, 3010) := by decide +kernel
theorem f_10_84 : ev_fld 10 84 = some (10, 0, 3050) := by decide +kernel
theorem f_0_233 : ev_fld 0 233 = some (10, 0, 3051) := by decide +kernel
theorem f_10_12 : ev_fld 10 12 = some (10, 1, 3052) := by decide +kernel
theorem f_0_244 : ev_fld 0 244 = some (10, 1, 3053) := by decide +kernel
theorem f_10_21 : ev_fld 10 21 = some (10, 2, 3054) := by decide +kernel
theorem f_10_28 : ev_fld 10 28 = some (10, 3, 3055) := by decide +kernel
theorem f_10_32 : ev_fld 10 32 = some (10, 4, 3056) := by decide +kernel
theorem f_10_36 : ev_fld 10 36 = some (10, 5, 3057) := by decide +kernel
theorem f_10_39 : ev_fld 10 39 = some (10, 6, 3058) := by decide +kernel
theorem f_10_43 : ev_fld 10 43 = some (10, 7, 3059) := by decide +kernel
theorem f_10_46 : ev_fld 10 46 = some (10, 8, 3060) := by decide +kernel
theorem f_10_164 : ev_fld 10 164 = some (10, 9, 3061) := by decide +kernel
theorem f_10_179 : ev_fld 10 179 = some (10, 10, 3062) := by decide +kernel
theorem f_0_10 : ev_fld 0 10 = some (0, 0, 3086) := by decide +kernel
theorem f_0_16 : ev_fld 0 16 = some (0, 1, 3087) := by decide +kernel
theorem f_0_154 : ev_fld 0 154 = some (0, 2, 3088) := by decide +kernel
theorem f_0_23 : ev_fld 0 23 = some (0, 3, 3089) := by decide +kernel
theorem f_0_27 : ev_fld 0 27 = some (0, 4, 3090) := by decide +kernel
theorem f_0_33 : ev_fld 0 33 = some (0, 5, 3091) := by decide +kernel
theorem f_0_40 : ev_fld 0 40 = some (0, 6, 3092) := by decide +kernel
theorem f_0_47 : ev_fld 0 47 = some (0, 7, 3093) := by decide +kernel
theorem f_0_54 : ev_fld 0 54 = some (0, 8, 3094) := by decide +kernel
theorem f_0_61 : ev_fld 0 61 = some (0, 9, 3095) := by decide +kernel
theorem f_0_68 : ev_fld 0 68 = some (0, 10, 3096) := by decide +kernel
theorem f_0_75 : ev_fld 0 75 = some (0, 11, 3097) := by decide +kernel
theorem f_12_7 : ev_fld 12 7 = some (12, 0, 6217) := by decide +kernel
theorem f_12_254 : ev_fld 12 254 = some (12, 1, 6218) := by decide +kernel
theorem f_12_13 : ev_fld 12 13 = some (12, 2, 6219) := by decide +kernel
theorem f_12_262 : ev_fld 12 262 = some (12, 3, 6220) := by decide +kernel
theorem f_12_265 : ev_fld 12 265 = some (12, 4, 6221) := by decide +kernel
theorem f_12_303 : ev_fld 12 303 = some (12, 5, 6222) := by decide +kernel
theorem f_12_306 : ev_fld 12 306 = some (12, 6, 6223) := by decide +kernel
theorem f_12_16 : ev_fld 12 16 = some (12, 7, 6224) := by decide +kernel
theorem f_12_19 : ev_fld 12 19 = some (12, 8, 6225) := by decide +kernel
theorem f_12_22 : ev_fld 12 22 = some (12, 9, 6226) := by decide +kernel
theorem f_12_25 : ev_fld 12 25 = some (12, 10, 6227) := by decide +kernel
theorem f_12_299 : ev_fld 12 299 = some (12, 11, 6228) := by decide +kernel
theorem f_12_287 : ev_fld 12 287 = some (12, 12, 6229) := by decide +kernel
theorem f_12_278 : ev_fld 12 278 = some (12, 13, 6230) := by decide +kernel
theorem f_12_28 : ev_fld 12 28 = some (12, 14, 6231) := by decide +kernel
theorem f_12_31 : ev_fld 12 31 = some (12, 15, 6232) := by decide +kernel
theorem f_12_34 : ev_fld 12 34 = some (12, 16, 6233) := by decide +kernel
theorem f_12_37 : ev_fld 12 37 = some (12, 17, 6234) := by decide +kernel
theorem f_12_40 : ev_fld 12 40 = some (12, 18, 6235) := by decide +kernel
theorem f_12_271 : ev_fld 12 271 = some (12, 19, 6236) := by decide +kernel
theorem f_12_43 : ev_fld 12 43 = some (12, 20, 6237) := by decide +kernel
theorem f_12_47 : ev_fld 12 47 = some (12, 21, 6238) := by decide +kernel
theorem f_12_50 : ev_fld 12 50 = some (12, 22, 6239) := by decide +kernel
theorem f_12_53 : ev_fld 12 53 = some (12, 23, 7000) := by decide +kernel
theorem f_12_56 : ev_fld 12 56 = some (12, 24, 7001) := by decide +kernel
theorem f_12_59 : ev_fld 12 59 = some (12, 25, 7002) := by decide +kernel
theorem f_12_63 : ev_fld 12 63 = some (12, 26, 7003) := by decide +kernel
theorem f_12_66 : ev_fld 12 66 = some (12, 27, 7004) := by decide +kernel
theorem f_12_69 : ev_fld 12 69 = some (12, 28, 7005) := by decide +kernel
theorem f_12_72 : ev_fld 12 72 = some (12, 29, 7006) := by decide +kernel
theorem f_12_75 : ev_fld 12 75 = some (12, 30, 7007) := by decide +kernel
theorem f_12_78 : ev_fld 12 78 = some (12, 31, 7008) := by decide +kernel
theorem f_12_81 : ev_fld 12 81 = some (12, 32, 7009) := by decide +kernel
theorem f_12_335 : ev_fld 12 335 = some (12, 33, 7010) := by decide +kernel
theorem f_12_84 : ev_fld 12 84 = some (12, 34, 7011) := by decide +kernel
theorem f_12_87 : ev_fld 12 87 = some (12, 35, 7012) := by decide +kernel
theorem f_12_90 : ev_fld 12 90 = some (12, 36, 7013) := by decide +kernel
theorem f_12_93 : ev_fld 12 93 = some (12, 37, 7014) := by decide +kernel
theorem f_12_96 : ev_fld 12 96 = some (12, 38, 7015) := by decide +kernel
theorem f_12_99 : ev_fld 12 99 = some (12, 39, 7016) := by decide +kernel
theorem f_12_103 : ev_fld 12 103 = some (12, 40, 7017) := by decide +kernel
theorem f_12_106 : ev_fld 12 106 = some (12, 41, 7018) := by decide +kernel
theorem f_12_375 : ev_fld 12 375 = some (12, 42, 7019) := by decide +kernel
theorem f_12_394 : ev_fld 12 394 = some (12, 43, 7020) := by decide +kernel
theorem f_12_384 : ev_fld 12 384 = some (12, 44, 7021) := by decide +kernel
theorem f_12_109 : ev_fld 12 109 = some (12, 45, 7022) := by decide +kernel
theorem f_12_112 : ev_fld 12 112 = some (12, 46, 7023) := by decide +kernel
theorem f_12_115 : ev_fld 12 115 = some (12, 47, 7024) := by decide +kernel
theorem f_12_118 : ev_fld 12 118 = some (12, 48, 7025) := by decide +kernel
theorem f_12_121 : ev_fld 12 121 = some (12, 49, 7026) := by decide +kernel
theorem f_12_124 : ev_fld 12 124 = some (12, 50, 7027) := by decide +kernel
theorem f_12_127 : ev_fld 12 127 = some (12, 51, 7028) := by decide +kernel
theorem f_12_130 : ev_fld 12 130 = some (12, 52, 7029) := by decide +kernel
theorem f_12_133 : ev_fld 12 133 = some (12, 53, 7030) := by decide +kernel
theorem f_12_136 : ev_fld 12 136 = some (12, 54, 7031) := by decide +kernel
theorem f_12_139 : ev_fld 12 139 = some (12, 55, 7032) := by decide +kernel
theorem f_12_142 : ev_fld 12 142 = some (12, 56, 7033) := by decide +kernel
theorem f_12_145 : ev_fld 12 145 = some (12, 57, 7034) := by decide +kernel
theorem f_12_148 : ev_fld 12 148 = some (12, 58, 7035) := by decide +kernel
theorem f_12_151 : ev_fld 12 151 = some (12, 59, 7036) := by decide +kernel
theorem f_12_154 : ev_fld 12 154 = some (12, 60, 7037) := by decide +kernel
theorem f_12_425 : ev_fld 12 425 = some (12, 61, 7038) := by decide +kernel
theorem f_12_157 : ev_fld 12 157 = some (12, 62, 7039) := by decide +kernel
theorem f_12_160 : ev_fld 12 160 = some (12, 63, 7040) := by decide +kernel
theorem f_12_163 : ev_fld 12 163 = some (12, 64, 7041) := by decide +kernel
theorem f_12_166 : ev_fld 12 166 = some (12, 65, 7042) := by decide +kernel
theorem f_12_169 : ev_fld 12 169 = some (12, 66, 7043) := by decide +kernel
theorem f_12_172 : ev_fld 12 172 = some (12, 67, 7044) := by decide +kernel
theorem f_12_176 : ev_fld 12 176 = some (12, 68, 7045) := by decide +kernel
theorem f_12_179 : ev_fld 12 179 = some (12, 69, 7046) := by decide +kernel
theorem f_12_182 : ev_fld 12 182 = some (12, 70, 7047) := by decide +kernel
theorem f_12_185 : ev_fld 12 185 = some (12, 71, 7048) := by decide +kernel
theorem f_12_188 : ev_fld 12 188 = some (12, 72, 7049) := by decide +kernel
theorem f_12_529 : ev_fld 12 529 = some (12, 73, 7050) := by decide +kernel
theorem f_12_535 : ev_fld 12 535 = some (12, 74, 7051) := by decide +kernel
theorem f_12_538 : ev_fld 12 538 = some (12, 75, 7052) := by decide +kernel
theorem f_12_191 : ev_fld 12 191 = some (12, 76, 7053) := by decide +kernel
theorem f_12_195 : ev_fld 12 195 = some (12, 77, 7054) := by decide +kernel
theorem f_12_198 : ev_fld 12 198 = some (12, 78, 7055) := by decide +kernel
theorem f_12_201 : ev_fld 12 201 = some (12, 79, 7056) := by decide +kernel
theorem f_12_204 : ev_fld 12 204 = some (12, 80, 7057) := by decide +kernel
theorem f_12_207 : ev_fld 12 207 = some (12, 81, 7058) := by decide +kernel
theorem f_12_210 : ev_fld 12 210 = some (12, 82, 7059) := by decide +kernel
theorem f_12_213 : ev_fld 12 213 = some (12, 83, 7060) := by decide +kernel
theorem f_12_217 : ev_fld 12 217 = some (12, 84, 7061) := by decide +kernel
theorem f_12_220 : ev_fld 12 220 = some (12, 85, 7062) := by decide +kernel
theorem f_12_223 : ev_fld 12 223 = some (12, 86, 7063) := by decide +kernel
theorem f_12_226 : ev_fld 12 226 = some (12, 87, 7064) := by decide +kernel
theorem f_12_229 : ev_fld 12 229 = some (12, 88, 7065) := by decide +kernel
theorem f_12_232 : ev_fld 12 232 = some (12, 89, 7066) := by decide +kernel
theorem f_12_235 : ev_fld 12 235 = some (12, 90, 7067) := by decide +kernel
theorem m_13_9 : ev_mth 13 9 = some (4, 0, 0, 1021, 1022, 0) := by decide +kernel
theorem m_0_1 : ev_mth 0 1 = some (1, 0, 0, 1024, 1025, 0) := by decide +kernel
theorem m_0_9 : ev_mth 0 9 = some (7, 1, 0, 1029, 1030, 0) := by decide +kernel
theorem m_1_3 : ev_mth 1 3 = some (1, 0, 0, 1032, 1025, 0) := by decide +kernel
theorem m_0_22 : ev_mth 0 22 = some (7, 2, 0, 1059, 1060, 0) := by decide +kernel
theorem m_2_3 : ev_mth 2 3 = some (1, 0, 0, 1062, 1025, 0) := by decide +kernel
theorem m_0_32 : ev_mth 0 32 = some (7, 3, 0, 1135, 1136, 0) := by decide +kernel
theorem m_3_3 : ev_mth 3 3 = some (1, 0, 0, 1138, 1025, 0) := by decide +kernel
theorem m_3_20 : ev_mth 3 20 = some (7, 2, 0, 1140, 1060, 0) := by decide +kernel
theorem m_0_39 : ev_mth 0 39 = some (7, 4, 0, 1159, 1160, 0) := by decide +kernel
theorem m_4_3 : ev_mth 4 3 = some (1, 0, 0, 1162, 1025, 0) := by decide +kernel
theorem m_4_11 : ev_mth 4 11 = some (7, 2, 0, 1164, 1060, 0) := by decide +kernel
theorem m_0_46 : ev_mth 0 46 = some (7, 5, 0, 1223, 1224, 0) := by decide +kernel
theorem m_5_3 : ev_mth 5 3 = some (1, 0, 0, 1226, 1025, 0) := by decide +kernel
theorem m_0_53 : ev_mth 0 53 = some (4, 6, 0, 2006, 2007, 0) := by decide +kernel
theorem m_6_3 : ev_mth 6 3 = some (1, 0, 0, 2009, 1025, 0) := by decide +kernel
theorem m_6_11 : ev_mth 6 11 = some (7, 7, 0, 2012, 2013, 0) := by decide +kernel
theorem m_7_3 : ev_mth 7 3 = some (1, 0, 0, 2015, 1025, 0) := by decide +kernel
theorem m_7_11 : ev_mth 7 11 = some (7, 5, 0, 2017, 1224, 0) := by decide +kernel
theorem m_6_20 : ev_mth 6 20 = some (7, 5, 0, 2072, 1224, 0) := by decide +kernel
theorem m_6_51 : ev_mth 6 51 = some (3, 8, 0, 2073, 2074, 2075) := by decide +kernel
theorem m_5_29 : ev_mth 5 29 = some (3, 9, 2, 2077, 2079, 0) := by decide +kernel
theorem m_5_35 : ev_mth 5 35 = some (3, 10, 3, 2081, 2082, 2083) := by decide +kernel
theorem m_0_60 : ev_mth 0 60 = some (7, 11, 0, 2130, 2131, 0) := by decide +kernel
theorem m_8_3 : ev_mth 8 3 = some (1, 0, 0, 2133, 1025, 0) := by decide +kernel
theorem m_8_27 : ev_mth 8 27 = some (7, 5, 0, 2135, 1224, 0) := by decide +kernel
theorem m_0_67 : ev_mth 0 67 = some (7, 12, 0, 2164, 2165, 0) := by decide +kernel
theorem m_9_3 : ev_mth 9 3 = some (1, 0, 0, 2167, 1025, 0) := by decide +kernel
theorem m_9_17 : ev_mth 9 17 = some (7, 2, 0, 2169, 1060, 0) := by decide +kernel
theorem m_9_24 : ev_mth 9 24 = some (7, 5, 0, 2171, 1224, 0) := by decide +kernel
theorem m_0_74 : ev_mth 0 74 = some (7, 13, 0, 2213, 2214, 0) := by decide +kernel
theorem m_10_3 : ev_mth 10 3 = some (1, 0, 0, 2216, 1025, 0) := by decide +kernel
theorem m_10_11 : ev_mth 10 11 = some (7, 14, 0, 2219, 2220, 0) := by decide +kernel
theorem m_11_3 : ev_mth 11 3 = some (1, 0, 0, 2222, 1025, 0) := by decide +kernel
theorem m_11_11 : ev_mth 11 11 = some (7, 2, 0, 2224, 1060, 0) := by decide +kernel
theorem m_11_20 : ev_mth 11 20 = some (7, 5, 0, 2226, 1224, 0) := by decide +kernel
theorem m_10_20 : ev_mth 10 20 = some (7, 2, 0, 3047, 1060, 0) := by decide +kernel
theorem m_10_27 : ev_mth 10 27 = some (7, 5, 0, 3049, 1224, 0) := by decide +kernel
theorem m_13_13 : ev_mth 13 13 = some (3, 15, 1, 3123, 3124, 3125) := by decide +kernel
theorem m_0_79 : ev_mth 0 79 = some (3, 16, 1, 3127, 3128, 3129) := by decide +kernel
theorem m_13_18 : ev_mth 13 18 = some (3, 17, 0, 3131, 3132, 3133) := by decide +kernel
theorem m_0_83 : ev_mth 0 83 = some (3, 18, 0, 3135, 3136, 3137) := by decide +kernel
theorem m_0_86 : ev_mth 0 86 = some (3, 19, 0, 3139, 3141, 1) := by decide +kernel
theorem m_0_97 : ev_mth 0 97 = some (3, 20, 1, 3143, 3144, 3145) := by decide +kernel
theorem m_0_304 : ev_mth 0 304 = some (0, 21, 1, 3147, 3148, 0) := by decide +kernel
theorem m_0_307 : ev_mth 0 307 = some (3, 22, 1, 3150, 3151, 3152) := by decide +kernel
theorem m_0_90 : ev_mth 0 90 = some (0, 23, 1, 3154, 3155, 0) := by decide +kernel
theorem m_0_100 : ev_mth 0 100 = some (0, 24, 1, 3157, 3158, 0) := by decide +kernel
theorem m_0_103 : ev_mth 0 103 = some (3, 25, 1, 3160, 3162, 2) := by decide +kernel
theorem m_0_301 : ev_mth 0 301 = some (3, 26, 0, 3164, 3165, 3166) := by decide +kernel
theorem m_13_23 : ev_mth 13 23 = some (3, 27, 0, 3168, 3169, 3170) := by decide +kernel
theorem m_0_106 : ev_mth 0 106 = some (3, 28, 2, 3172, 3173, 3174) := by decide +kernel
theorem m_3_25 : ev_mth 3 25 = some (3, 29, 0, 3176, 3177, 3178) := by decide +kernel
theorem m_3_36 : ev_mth 3 36 = some (0, 30, 2, 3180, 3181, 0) := by decide +kernel
theorem m_3_47 : ev_mth 3 47 = some (3, 20, 1, 3183, 3144, 3145) := by decide +kernel
theorem m_3_51 : ev_mth 3 51 = some (3, 22, 1, 3184, 3151, 3152) := by decide +kernel
theorem m_3_54 : ev_mth 3 54 = some (3, 31, 2, 3185, 3187, 3) := by decide +kernel
theorem m_3_68 : ev_mth 3 68 = some (3, 32, 1, 3189, 3191, 4) := by decide +kernel
theorem m_3_75 : ev_mth 3 75 = some (5, 33, 1, 3193, 3194, 0) := by decide +kernel
theorem m_3_78 : ev_mth 3 78 = some (3, 34, 1, 3196, 3197, 3198) := by decide +kernel
theorem m_3_72 : ev_mth 3 72 = some (3, 35, 2, 3200, 3202, 5) := by decide +kernel
theorem m_3_85 : ev_mth 3 85 = some (3, 36, 0, 3204, 3205, 3206) := by decide +kernel
theorem m_3_88 : ev_mth 3 88 = some (3, 37, 2, 3208, 3210, 6) := by decide +kernel
theorem m_3_91 : ev_mth 3 91 = some (5, 21, 1, 3212, 3148, 0) := by decide +kernel
theorem m_3_97 : ev_mth 3 97 = some (5, 24, 1, 3213, 3158, 0) := by decide +kernel
theorem m_3_100 : ev_mth 3 100 = some (3, 38, 1, 3214, 3215, 3216) := by decide +kernel
theorem m_2_44 : ev_mth 2 44 = some (3, 39, 3, 3218, 3219, 3220) := by decide +kernel
theorem m_3_61 : ev_mth 3 61 = some (3, 40, 0, 3222, 3224, 7) := by decide +kernel
theorem m_3_65 : ev_mth 3 65 = some (3, 41, 0, 3226, 3228, 8) := by decide +kernel
theorem m_3_103 : ev_mth 3 103 = some (3, 42, 2, 3230, 3231, 3232) := by decide +kernel
theorem m_3_107 : ev_mth 3 107 = some (3, 39, 3, 3234, 3219, 3220) := by decide +kernel
theorem m_0_110 : ev_mth 0 110 = some (3, 43, 1, 3235, 3236, 3237) := by decide +kernel
theorem m_2_48 : ev_mth 2 48 = some (2, 0, 5, 3239, 4000, 0) := by decide +kernel
theorem m_0_114 : ev_mth 0 114 = some (3, 44, 0, 4002, 4003, 4004) := by decide +kernel
theorem m_2_54 : ev_mth 2 54 = some (3, 45, 0, 4006, 4008, 9) := by decide +kernel
theorem m_2_69 : ev_mth 2 69 = some (0, 30, 2, 4010, 3181, 0) := by decide +kernel
theorem m_2_75 : ev_mth 2 75 = some (3, 46, 2, 4011, 4013, 10) := by decide +kernel
theorem m_2_79 : ev_mth 2 79 = some (3, 42, 2, 4015, 3231, 3232) := by decide +kernel
theorem m_2_83 : ev_mth 2 83 = some (5, 47, 2, 4016, 4017, 0) := by decide +kernel
theorem m_2_57 : ev_mth 2 57 = some (3, 48, 0, 4019, 4021, 11) := by decide +kernel
theorem m_2_88 : ev_mth 2 88 = some (0, 49, 2, 4024, 4025, 0) := by decide +kernel
theorem m_2_91 : ev_mth 2 91 = some (3, 50, 1, 4027, 4029, 12) := by decide +kernel
theorem m_2_101 : ev_mth 2 101 = some (5, 51, 2, 4031, 4032, 0) := by decide +kernel
theorem m_0_280 : ev_mth 0 280 = some (10, 52, 2, 4036, 4037, 4038) := by decide +kernel
theorem m_2_95 : ev_mth 2 95 = some (10, 52, 2, 4039, 4037, 4038) := by decide +kernel
theorem m_2_60 : ev_mth 2 60 = some (3, 53, 0, 4040, 4042, 13) := by decide +kernel
theorem m_2_107 : ev_mth 2 107 = some (3, 54, 1, 4044, 4046, 14) := by decide +kernel
theorem m_2_63 : ev_mth 2 63 = some (3, 55, 0, 4048, 4050, 15) := by decide +kernel
theorem m_2_111 : ev_mth 2 111 = some (3, 56, 0, 4052, 4054, 16) := by decide +kernel
theorem m_2_124 : ev_mth 2 124 = some (3, 57, 2, 4056, 4058, 17) := by decide +kernel
theorem m_2_127 : ev_mth 2 127 = some (0, 58, 2, 4060, 4061, 0) := by decide +kernel
theorem m_2_115 : ev_mth 2 115 = some (3, 59, 2, 4063, 4065, 18) := by decide +kernel
theorem m_2_118 : ev_mth 2 118 = some (5, 60, 2, 4067, 4068, 0) := by decide +kernel
theorem m_0_178 : ev_mth 0 178 = some (0, 47, 2, 4070, 4017, 0) := by decide +kernel
theorem m_0_117 : ev_mth 0 117 = some (3, 61, 0, 4071, 4072, 4073) := by decide +kernel
theorem m_13_27 : ev_mth 13 27 = some (3, 62, 1, 4075, 4076, 4077) := by decide +kernel
theorem m_0_126 : ev_mth 0 126 = some (0, 63, 1, 4079, 4080, 0) := by decide +kernel
theorem m_0_130 : ev_mth 0 130 = some (3, 64, 1, 4082, 4083, 4084) := by decide +kernel
theorem m_6_70 : ev_mth 6 70 = some (3, 20, 1, 4086, 3144, 3145) := by decide +kernel
theorem m_6_74 : ev_mth 6 74 = some (3, 65, 1, 4087, 4089, 19) := by decide +kernel
theorem m_6_81 : ev_mth 6 81 = some (0, 66, 1, 4091, 4092, 0) := by decide +kernel
theorem m_6_84 : ev_mth 6 84 = some (5, 21, 1, 4094, 3148, 0) := by decide +kernel
theorem m_6_78 : ev_mth 6 78 = some (3, 22, 1, 4095, 3151, 3152) := by decide +kernel
theorem m_0_134 : ev_mth 0 134 = some (3, 67, 1, 4096, 4097, 4098) := by decide +kernel
theorem m_6_87 : ev_mth 6 87 = some (3, 68, 0, 4100, 4102, 20) := by decide +kernel
theorem m_6_90 : ev_mth 6 90 = some (3, 69, 4, 4104, 4105, 4106) := by decide +kernel
theorem m_7_65 : ev_mth 7 65 = some (3, 70, 0, 4108, 4110, 21) := by decide +kernel
theorem m_7_78 : ev_mth 7 78 = some (3, 71, 1, 4112, 4113, 4114) := by decide +kernel
theorem m_7_82 : ev_mth 7 82 = some (3, 72, 2, 4116, 4118, 22) := by decide +kernel
theorem m_7_106 : ev_mth 7 106 = some (3, 73, 3, 4122, 4124, 23) := by decide +kernel
theorem m_7_86 : ev_mth 7 86 = some (3, 74, 3, 4126, 4128, 24) := by decide +kernel
theorem m_7_90 : ev_mth 7 90 = some (3, 75, 2, 4130, 4131, 4132) := by decide +kernel
theorem m_7_94 : ev_mth 7 94 = some (5, 76, 3, 4134, 4135, 0) := by decide +kernel
theorem m_0_312 : ev_mth 0 312 = some (0, 77, 1, 4137, 4138, 0) := by decide +kernel
theorem m_17_311 : ev_mth 17 311 = some (0, 78, 1, 4140, 4141, 0) := by decide +kernel
theorem m_0_217 : ev_mth 0 217 = some (3, 75, 2, 4144, 4131, 4132) := by decide +kernel
theorem m_7_68 : ev_mth 7 68 = some (3, 79, 0, 4145, 4147, 25) := by decide +kernel
theorem m_7_112 : ev_mth 7 112 = some (3, 80, 1, 4149, 4151, 26) := by decide +kernel
theorem m_7_115 : ev_mth 7 115 = some (8, 81, 2, 4153, 4154, 4155) := by decide +kernel
theorem m_7_120 : ev_mth 7 120 = some (3, 82, 1, 4156, 4158, 27) := by decide +kernel
theorem m_7_124 : ev_mth 7 124 = some (0, 83, 4, 4160, 4161, 0) := by decide +kernel
theorem m_14_13 : ev_mth 14 13 = some (0, 84, 3, 4163, 4164, 0) := by decide +kernel
theorem m_7_130 : ev_mth 7 130 = some (2, 0, 5, 4166, 4000, 0) := by decide +kernel
theorem m_7_71 : ev_mth 7 71 = some (3, 85, 1, 4167, 4169, 28) := by decide +kernel
theorem m_7_136 : ev_mth 7 136 = some (3, 10, 3, 4171, 2082, 2083) := by decide +kernel
theorem m_6_94 : ev_mth 6 94 = some (3, 86, 0, 4172, 4174, 29) := by decide +kernel
theorem m_6_139 : ev_mth 6 139 = some (3, 87, 0, 4176, 4177, 4178) := by decide +kernel
theorem m_6_132 : ev_mth 6 132 = some (3, 88, 1, 4181, 4182, 4183) := by decide +kernel
theorem m_5_23 : ev_mth 5 23 = some (2, 0, 5, 4185, 4000, 0) := by decide +kernel
theorem m_6_98 : ev_mth 6 98 = some (3, 89, 0, 4186, 4188, 30) := by decide +kernel
theorem m_6_101 : ev_mth 6 101 = some (3, 90, 0, 4190, 4192, 31) := by decide +kernel
theorem m_6_104 : ev_mth 6 104 = some (3, 91, 0, 4194, 4196, 32) := by decide +kernel
theorem m_6_136 : ev_mth 6 136 = some (8, 81, 2, 4198, 4154, 4155) := by decide +kernel
theorem m_6_107 : ev_mth 6 107 = some (3, 92, 1, 4199, 4201, 33) := by decide +kernel
theorem m_6_113 : ev_mth 6 113 = some (9, 93, 2, 4203, 4204, 4205) := by decide +kernel
theorem m_6_119 : ev_mth 6 119 = some (3, 94, 0, 4206, 4207, 4208) := by decide +kernel
theorem m_6_122 : ev_mth 6 122 = some (3, 95, 0, 4211, 4212, 4213) := by decide +kernel
theorem m_6_125 : ev_mth 6 125 = some (5, 24, 1, 4215, 3158, 0) := by decide +kernel
theorem m_6_128 : ev_mth 6 128 = some (3, 96, 1, 4216, 4217, 4218) := by decide +kernel
theorem m_0_138 : ev_mth 0 138 = some (3, 97, 0, 4220, 4221, 4222) := by decide +kernel
theorem m_0_142 : ev_mth 0 142 = some (3, 88, 1, 4224, 4182, 4183) := by decide +kernel
theorem m_13_31 : ev_mth 13 31 = some (3, 98, 1, 4225, 4226, 4227) := by decide +kernel
theorem m_13_35 : ev_mth 13 35 = some (3, 99, 2, 4229, 4230, 4231) := by decide +kernel
theorem m_0_163 : ev_mth 0 163 = some (3, 42, 2, 4233, 3231, 3232) := by decide +kernel
theorem m_13_40 : ev_mth 13 40 = some (3, 100, 2, 4234, 4235, 4236) := by decide +kernel
theorem m_0_167 : ev_mth 0 167 = some (3, 101, 1, 4238, 5000, 34) := by decide +kernel
theorem m_13_45 : ev_mth 13 45 = some (3, 102, 1, 5004, 5005, 5006) := by decide +kernel
theorem m_0_198 : ev_mth 0 198 = some (3, 103, 4, 5008, 5009, 5010) := by decide +kernel
theorem m_4_63 : ev_mth 4 63 = some (3, 104, 4, 5012, 5014, 35) := by decide +kernel
theorem m_4_85 : ev_mth 4 85 = some (3, 105, 0, 5016, 5018, 36) := by decide +kernel
theorem m_4_97 : ev_mth 4 97 = some (0, 30, 2, 5020, 3181, 0) := by decide +kernel
theorem m_4_105 : ev_mth 4 105 = some (3, 106, 2, 5021, 5023, 37) := by decide +kernel
theorem m_4_140 : ev_mth 4 140 = some (3, 42, 2, 5025, 3231, 3232) := by decide +kernel
theorem m_4_144 : ev_mth 4 144 = some (6, 46, 2, 5026, 4013, 10) := by decide +kernel
theorem m_4_112 : ev_mth 4 112 = some (6, 54, 1, 5027, 4046, 14) := by decide +kernel
theorem m_4_116 : ev_mth 4 116 = some (3, 107, 0, 5028, 5030, 38) := by decide +kernel
theorem m_4_154 : ev_mth 4 154 = some (5, 60, 2, 5032, 4068, 0) := by decide +kernel
theorem m_4_122 : ev_mth 4 122 = some (3, 108, 2, 5034, 5036, 39) := by decide +kernel
theorem m_4_126 : ev_mth 4 126 = some (0, 49, 2, 5038, 4025, 0) := by decide +kernel
theorem m_4_132 : ev_mth 4 132 = some (3, 109, 3, 5039, 5041, 40) := by decide +kernel
theorem m_4_147 : ev_mth 4 147 = some (3, 110, 1, 5043, 5045, 41) := by decide +kernel
theorem m_4_151 : ev_mth 4 151 = some (5, 111, 2, 5047, 5048, 0) := by decide +kernel
theorem m_4_136 : ev_mth 4 136 = some (5, 51, 2, 5050, 4032, 0) := by decide +kernel
theorem m_4_88 : ev_mth 4 88 = some (3, 112, 0, 5051, 5053, 42) := by decide +kernel
theorem m_4_91 : ev_mth 4 91 = some (3, 113, 0, 5055, 5057, 43) := by decide +kernel
theorem m_4_71 : ev_mth 4 71 = some (3, 114, 1, 5059, 5061, 44) := by decide +kernel
theorem m_4_160 : ev_mth 4 160 = some (0, 115, 3, 5063, 5064, 0) := by decide +kernel
theorem m_4_163 : ev_mth 4 163 = some (3, 116, 2, 5066, 5068, 45) := by decide +kernel
theorem m_4_175 : ev_mth 4 175 = some (3, 117, 4, 5070, 5072, 46) := by decide +kernel
theorem m_4_78 : ev_mth 4 78 = some (3, 118, 3, 5074, 5076, 47) := by decide +kernel
theorem m_4_166 : ev_mth 4 166 = some (3, 119, 0, 5078, 5080, 48) := by decide +kernel
theorem m_4_169 : ev_mth 4 169 = some (3, 120, 0, 5082, 5084, 49) := by decide +kernel
theorem m_4_179 : ev_mth 4 179 = some (5, 47, 2, 5086, 4017, 0) := by decide +kernel
theorem m_4_182 : ev_mth 4 182 = some (3, 121, 1, 5087, 5089, 50) := by decide +kernel
theorem m_4_172 : ev_mth 4 172 = some (3, 122, 1, 5091, 5093, 51) := by decide +kernel
theorem m_0_202 : ev_mth 0 202 = some (0, 123, 1, 5095, 5096, 0) := by decide +kernel
theorem m_13_50 : ev_mth 13 50 = some (3, 124, 1, 5098, 5099, 5100) := by decide +kernel
theorem m_0_206 : ev_mth 0 206 = some (3, 125, 0, 5102, 5104, 52) := by decide +kernel
theorem m_0_210 : ev_mth 0 210 = some (3, 126, 2, 5106, 5107, 5108) := by decide +kernel
theorem m_13_54 : ev_mth 13 54 = some (3, 127, 3, 5110, 5111, 5112) := by decide +kernel
theorem m_0_214 : ev_mth 0 214 = some (3, 128, 1, 5114, 5115, 5116) := by decide +kernel
theorem m_13_59 : ev_mth 13 59 = some (3, 129, 2, 5118, 5119, 5120) := by decide +kernel
theorem m_0_220 : ev_mth 0 220 = some (3, 71, 1, 5122, 4113, 4114) := by decide +kernel
theorem m_13_63 : ev_mth 13 63 = some (3, 130, 1, 5123, 5124, 5125) := by decide +kernel
theorem m_13_67 : ev_mth 13 67 = some (3, 131, 1, 5127, 5128, 5129) := by decide +kernel
theorem m_0_223 : ev_mth 0 223 = some (3, 132, 3, 5131, 5132, 5133) := by decide +kernel
theorem m_8_39 : ev_mth 8 39 = some (3, 133, 1, 5135, 5137, 53) := by decide +kernel
theorem m_8_53 : ev_mth 8 53 = some (3, 71, 1, 5139, 4113, 4114) := by decide +kernel
theorem m_8_46 : ev_mth 8 46 = some (3, 134, 2, 5140, 5142, 54) := by decide +kernel
theorem m_8_50 : ev_mth 8 50 = some (3, 75, 2, 5144, 4131, 4132) := by decide +kernel
theorem m_0_227 : ev_mth 0 227 = some (3, 135, 0, 5145, 5146, 5147) := by decide +kernel
theorem m_0_229 : ev_mth 0 229 = some (3, 136, 2, 5149, 5150, 5151) := by decide +kernel
theorem m_13_71 : ev_mth 13 71 = some (3, 137, 1, 5153, 5154, 5155) := by decide +kernel
theorem m_0_236 : ev_mth 0 236 = some (3, 138, 1, 5157, 5159, 55) := by decide +kernel
theorem m_0_286 : ev_mth 0 286 = some (3, 139, 2, 5161, 5162, 5163) := by decide +kernel
theorem m_9_53 : ev_mth 9 53 = some (0, 49, 2, 5165, 4025, 0) := by decide +kernel
theorem m_9_62 : ev_mth 9 62 = some (3, 140, 1, 5166, 5168, 56) := by decide +kernel
theorem m_9_72 : ev_mth 9 72 = some (5, 141, 2, 5170, 5171, 0) := by decide +kernel
theorem m_9_76 : ev_mth 9 76 = some (5, 142, 6, 5173, 5174, 0) := by decide +kernel
theorem m_0_317 : ev_mth 0 317 = some (0, 76, 3, 5176, 4135, 0) := by decide +kernel
theorem m_0_321 : ev_mth 0 321 = some (0, 141, 2, 5177, 5171, 0) := by decide +kernel
theorem m_0_248 : ev_mth 0 248 = some (3, 143, 2, 5178, 5179, 5180) := by decide +kernel
theorem m_11_65 : ev_mth 11 65 = some (3, 144, 2, 5182, 5184, 57) := by decide +kernel
theorem m_11_100 : ev_mth 11 100 = some (8, 81, 2, 5186, 4154, 4155) := by decide +kernel
theorem m_11_113 : ev_mth 11 113 = some (0, 145, 4, 5188, 5189, 0) := by decide +kernel
theorem m_11_122 : ev_mth 11 122 = some (0, 83, 4, 5191, 4161, 0) := by decide +kernel
theorem m_11_125 : ev_mth 11 125 = some (0, 49, 2, 5192, 4025, 0) := by decide +kernel
theorem m_11_71 : ev_mth 11 71 = some (3, 146, 6, 5193, 5195, 58) := by decide +kernel
theorem m_11_136 : ev_mth 11 136 = some (3, 147, 3, 5198, 5199, 5200) := by decide +kernel
theorem m_11_140 : ev_mth 11 140 = some (3, 148, 3, 5202, 5204, 59) := by decide +kernel
theorem m_11_167 : ev_mth 11 167 = some (3, 149, 1, 5206, 5207, 5208) := by decide +kernel
theorem m_11_171 : ev_mth 11 171 = some (3, 150, 1, 5210, 5211, 5212) := by decide +kernel
theorem m_11_158 : ev_mth 11 158 = some (5, 141, 2, 5214, 5171, 0) := by decide +kernel
theorem m_11_174 : ev_mth 11 174 = some (3, 151, 1, 5215, 5216, 5217) := by decide +kernel
theorem m_11_181 : ev_mth 11 181 = some (3, 152, 2, 5219, 5221, 60) := by decide +kernel
theorem m_11_185 : ev_mth 11 185 = some (3, 153, 2, 5223, 5225, 61) := by decide +kernel
theorem m_11_189 : ev_mth 11 189 = some (3, 154, 2, 5227, 5229, 62) := by decide +kernel
theorem m_11_144 : ev_mth 11 144 = some (3, 155, 4, 5231, 5233, 63) := by decide +kernel
theorem m_11_148 : ev_mth 11 148 = some (3, 156, 3, 5235, 5237, 64) := by decide +kernel
theorem m_11_152 : ev_mth 11 152 = some (3, 42, 2, 5239, 3231, 3232) := by decide +kernel
theorem m_11_155 : ev_mth 11 155 = some (3, 75, 2, 6000, 4131, 4132) := by decide +kernel
theorem m_11_161 : ev_mth 11 161 = some (0, 77, 1, 6001, 4138, 0) := by decide +kernel
theorem m_11_81 : ev_mth 11 81 = some (3, 157, 0, 6002, 6004, 65) := by decide +kernel
theorem m_11_85 : ev_mth 11 85 = some (3, 158, 1, 6006, 6008, 66) := by decide +kernel
theorem m_11_89 : ev_mth 11 89 = some (3, 159, 1, 6010, 6012, 67) := by decide +kernel
theorem m_11_128 : ev_mth 11 128 = some (3, 71, 1, 6014, 4113, 4114) := by decide +kernel
theorem m_11_93 : ev_mth 11 93 = some (3, 160, 1, 6015, 6017, 68) := by decide +kernel
theorem m_11_177 : ev_mth 11 177 = some (3, 161, 3, 6019, 6021, 69) := by decide +kernel
theorem m_11_96 : ev_mth 11 96 = some (3, 162, 0, 6023, 6025, 70) := by decide +kernel
theorem m_11_192 : ev_mth 11 192 = some (3, 163, 1, 6027, 6029, 71) := by decide +kernel
theorem m_11_195 : ev_mth 11 195 = some (3, 164, 2, 6031, 6033, 72) := by decide +kernel
theorem m_11_204 : ev_mth 11 204 = some (5, 142, 6, 6035, 5174, 0) := by decide +kernel
theorem m_0_253 : ev_mth 0 253 = some (3, 165, 2, 6037, 6038, 6039) := by decide +kernel
theorem m_10_63 : ev_mth 10 63 = some (3, 43, 1, 6041, 3236, 3237) := by decide +kernel
theorem m_10_73 : ev_mth 10 73 = some (3, 166, 1, 6042, 6044, 73) := by decide +kernel
theorem m_10_88 : ev_mth 10 88 = some (3, 149, 1, 6046, 5207, 5208) := by decide +kernel
theorem m_10_96 : ev_mth 10 96 = some (3, 167, 2, 6047, 6049, 74) := by decide +kernel
theorem m_10_104 : ev_mth 10 104 = some (3, 150, 1, 6051, 5211, 5212) := by decide +kernel
theorem m_10_112 : ev_mth 10 112 = some (5, 142, 6, 6052, 5174, 0) := by decide +kernel
theorem m_10_116 : ev_mth 10 116 = some (0, 77, 1, 6053, 4138, 0) := by decide +kernel
theorem m_10_59 : ev_mth 10 59 = some (3, 151, 1, 6054, 5216, 5217) := by decide +kernel
theorem m_10_124 : ev_mth 10 124 = some (3, 168, 4, 6056, 6058, 75) := by decide +kernel
theorem m_10_128 : ev_mth 10 128 = some (3, 42, 2, 6060, 3231, 3232) := by decide +kernel
theorem m_10_131 : ev_mth 10 131 = some (3, 75, 2, 6061, 4131, 4132) := by decide +kernel
theorem m_10_134 : ev_mth 10 134 = some (5, 51, 2, 6062, 4032, 0) := by decide +kernel
theorem m_10_138 : ev_mth 10 138 = some (5, 141, 2, 6063, 5171, 0) := by decide +kernel
theorem m_10_141 : ev_mth 10 141 = some (3, 147, 3, 6064, 5199, 5200) := by decide +kernel
theorem m_10_145 : ev_mth 10 145 = some (10, 52, 2, 6065, 4037, 4038) := by decide +kernel
theorem m_10_100 : ev_mth 10 100 = some (3, 169, 2, 6066, 6068, 76) := by decide +kernel
theorem m_10_150 : ev_mth 10 150 = some (3, 170, 5, 6070, 6072, 77) := by decide +kernel
theorem m_10_77 : ev_mth 10 77 = some (3, 171, 1, 6074, 6076, 78) := by decide +kernel
theorem m_10_157 : ev_mth 10 157 = some (3, 172, 2, 6078, 6080, 79) := by decide +kernel
theorem m_10_154 : ev_mth 10 154 = some (3, 173, 2, 6082, 6084, 80) := by decide +kernel
theorem m_10_80 : ev_mth 10 80 = some (3, 174, 1, 6086, 6088, 81) := by decide +kernel
theorem m_13_75 : ev_mth 13 75 = some (3, 175, 1, 6090, 6091, 6092) := by decide +kernel
theorem m_0_257 : ev_mth 0 257 = some (3, 176, 0, 6094, 6095, 6096) := by decide +kernel
theorem m_0_261 : ev_mth 0 261 = some (3, 177, 0, 6098, 6099, 6100) := by decide +kernel
theorem m_0_264 : ev_mth 0 264 = some (3, 178, 0, 6102, 6103, 6104) := by decide +kernel
theorem m_0_267 : ev_mth 0 267 = some (3, 179, 0, 6106, 6107, 6108) := by decide +kernel
theorem m_13_81 : ev_mth 13 81 = some (3, 180, 1, 6110, 6111, 6112) := by decide +kernel
theorem m_0_270 : ev_mth 0 270 = some (3, 181, 1, 6114, 6115, 6116) := by decide +kernel
theorem m_10_160 : ev_mth 10 160 = some (3, 176, 0, 6118, 6095, 6096) := by decide +kernel
theorem m_10_168 : ev_mth 10 168 = some (3, 182, 1, 6119, 6121, 82) := by decide +kernel
theorem m_13_86 : ev_mth 13 86 = some (3, 183, 2, 6123, 6124, 6125) := by decide +kernel
theorem m_0_274 : ev_mth 0 274 = some (3, 184, 2, 6127, 6128, 6129) := by decide +kernel
theorem m_10_171 : ev_mth 10 171 = some (3, 178, 0, 6131, 6103, 6104) := by decide +kernel
theorem m_10_176 : ev_mth 10 176 = some (3, 185, 1, 6133, 6135, 83) := by decide +kernel
theorem m_10_184 : ev_mth 10 184 = some (3, 186, 1, 6137, 6139, 84) := by decide +kernel
theorem m_13_91 : ev_mth 13 91 = some (3, 187, 0, 6142, 6143, 6144) := by decide +kernel
theorem m_13_95 : ev_mth 13 95 = some (3, 188, 2, 6147, 6148, 6149) := by decide +kernel
theorem m_0_289 : ev_mth 0 289 = some (3, 189, 0, 6151, 6152, 6153) := by decide +kernel
theorem m_9_83 : ev_mth 9 83 = some (3, 190, 1, 6155, 6157, 85) := by decide +kernel
theorem m_9_90 : ev_mth 9 90 = some (0, 191, 1, 6159, 6160, 0) := by decide +kernel
theorem m_0_292 : ev_mth 0 292 = some (3, 192, 0, 6165, 6166, 6167) := by decide +kernel
theorem m_9_102 : ev_mth 9 102 = some (3, 193, 2, 6169, 6171, 86) := by decide +kernel
theorem m_9_106 : ev_mth 9 106 = some (3, 194, 3, 6174, 6176, 87) := by decide +kernel
theorem m_9_112 : ev_mth 9 112 = some (3, 42, 2, 6178, 3231, 3232) := by decide +kernel
theorem m_9_115 : ev_mth 9 115 = some (0, 77, 1, 6179, 4138, 0) := by decide +kernel
theorem m_9_118 : ev_mth 9 118 = some (3, 195, 3, 6180, 6182, 88) := by decide +kernel
theorem m_9_122 : ev_mth 9 122 = some (3, 75, 2, 6184, 4131, 4132) := by decide +kernel
theorem m_0_295 : ev_mth 0 295 = some (3, 196, 0, 6185, 6186, 6187) := by decide +kernel
theorem m_9_125 : ev_mth 9 125 = some (3, 197, 2, 6189, 6191, 89) := by decide +kernel
theorem m_9_133 : ev_mth 9 133 = some (3, 198, 2, 6193, 6195, 90) := by decide +kernel
theorem m_9_129 : ev_mth 9 129 = some (5, 51, 2, 6197, 4032, 0) := by decide +kernel
theorem m_9_137 : ev_mth 9 137 = some (2, 0, 5, 6198, 4000, 0) := by decide +kernel
theorem m_13_99 : ev_mth 13 99 = some (3, 199, 2, 6199, 6200, 6201) := by decide +kernel
theorem m_13_12 : ev_mth 13 12 = some (4, 200, 0, 6205, 6206, 0) := by decide +kernel
theorem m_12_1 : ev_mth 12 1 = some (1, 0, 0, 6208, 1025, 0) := by decide +kernel
theorem m_12_238 : ev_mth 12 238 = some (3, 201, 1, 6213, 6215, 91) := by decide +kernel
theorem m_13_17 : ev_mth 13 17 = some (3, 202, 1, 8011, 8012, 8013) := by decide +kernel
theorem m_12_250 : ev_mth 12 250 = some (0, 203, 3, 8017, 8018, 0) := by decide +kernel
theorem m_13_22 : ev_mth 13 22 = some (3, 204, 0, 8020, 8021, 8022) := by decide +kernel
theorem m_12_258 : ev_mth 12 258 = some (0, 205, 1, 8024, 8025, 0) := by decide +kernel
theorem m_13_26 : ev_mth 13 26 = some (3, 206, 0, 8027, 8028, 8029) := by decide +kernel
theorem m_12_293 : ev_mth 12 293 = some (3, 207, 0, 8031, 8033, 92) := by decide +kernel
theorem m_12_274 : ev_mth 12 274 = some (3, 208, 0, 8035, 8037, 93) := by decide +kernel
theorem m_12_268 : ev_mth 12 268 = some (3, 209, 0, 8039, 8041, 94) := by decide +kernel
theorem m_12_284 : ev_mth 12 284 = some (0, 210, 1, 8043, 8044, 0) := by decide +kernel
theorem m_12_281 : ev_mth 12 281 = some (3, 211, 0, 8046, 8048, 95) := by decide +kernel
theorem m_12_290 : ev_mth 12 290 = some (3, 212, 1, 8050, 8052, 96) := by decide +kernel
theorem m_12_296 : ev_mth 12 296 = some (3, 213, 0, 8054, 8056, 97) := by decide +kernel
theorem m_12_309 : ev_mth 12 309 = some (3, 214, 0, 8058, 8060, 98) := by decide +kernel
theorem m_12_314 : ev_mth 12 314 = some (3, 215, 1, 8063, 8065, 99) := by decide +kernel
theorem m_12_317 : ev_mth 12 317 = some (3, 216, 1, 8067, 8069, 100) := by decide +kernel
theorem m_12_323 : ev_mth 12 323 = some (0, 217, 2, 8071, 8072, 0) := by decide +kernel
theorem m_12_320 : ev_mth 12 320 = some (3, 218, 0, 8076, 8078, 101) := by decide +kernel
theorem m_12_327 : ev_mth 12 327 = some (3, 219, 2, 8080, 8082, 102) := by decide +kernel
theorem m_13_34 : ev_mth 13 34 = some (3, 220, 1, 8084, 8085, 8086) := by decide +kernel
theorem m_13_39 : ev_mth 13 39 = some (3, 221, 2, 8088, 8089, 8090) := by decide +kernel
theorem m_13_44 : ev_mth 13 44 = some (3, 222, 2, 8092, 8093, 8094) := by decide +kernel
theorem m_13_49 : ev_mth 13 49 = some (3, 223, 1, 8098, 8099, 8100) := by decide +kernel
theorem m_12_363 : ev_mth 12 363 = some (3, 224, 0, 8102, 8104, 103) := by decide +kernel
theorem m_12_338 : ev_mth 12 338 = some (3, 225, 1, 8106, 8108, 104) := by decide +kernel
theorem m_12_341 : ev_mth 12 341 = some (3, 226, 1, 8110, 8112, 105) := by decide +kernel
theorem m_12_345 : ev_mth 12 345 = some (0, 227, 2, 8114, 8115, 0) := by decide +kernel
theorem m_12_366 : ev_mth 12 366 = some (3, 228, 3, 8117, 8119, 106) := by decide +kernel
theorem m_12_356 : ev_mth 12 356 = some (3, 229, 4, 8121, 8123, 107) := by decide +kernel
theorem m_12_348 : ev_mth 12 348 = some (3, 230, 4, 8125, 8127, 108) := by decide +kernel
theorem m_12_352 : ev_mth 12 352 = some (0, 231, 3, 8129, 8130, 0) := by decide +kernel
theorem m_12_359 : ev_mth 12 359 = some (3, 232, 3, 8132, 8134, 109) := by decide +kernel
theorem m_12_369 : ev_mth 12 369 = some (0, 233, 1, 8136, 8137, 0) := by decide +kernel
theorem m_13_53 : ev_mth 13 53 = some (3, 234, 1, 8139, 8140, 8141) := by decide +kernel
theorem m_13_30 : ev_mth 13 30 = some (3, 235, 1, 8144, 8145, 8146) := by decide +kernel
theorem m_12_461 : ev_mth 12 461 = some (3, 236, 0, 8148, 8150, 110) := by decide +kernel
theorem m_12_419 : ev_mth 12 419 = some (3, 237, 1, 8152, 8154, 111) := by decide +kernel
theorem m_12_422 : ev_mth 12 422 = some (0, 238, 1, 8156, 8157, 0) := by decide +kernel
theorem m_12_451 : ev_mth 12 451 = some (3, 239, 0, 8159, 8161, 112) := by decide +kernel
theorem m_12_464 : ev_mth 12 464 = some (3, 240, 1, 8163, 8165, 113) := by decide +kernel
theorem m_12_436 : ev_mth 12 436 = some (3, 241, 0, 8167, 8169, 114) := by decide +kernel
theorem m_12_428 : ev_mth 12 428 = some (3, 242, 1, 8171, 8173, 115) := by decide +kernel
theorem m_12_378 : ev_mth 12 378 = some (3, 243, 0, 8175, 8177, 116) := by decide +kernel
theorem m_12_432 : ev_mth 12 432 = some (3, 244, 2, 8179, 8181, 117) := by decide +kernel
theorem m_12_381 : ev_mth 12 381 = some (3, 245, 0, 8183, 8185, 118) := by decide +kernel
theorem m_12_397 : ev_mth 12 397 = some (3, 246, 2, 8187, 8189, 119) := by decide +kernel
theorem m_12_401 : ev_mth 12 401 = some (3, 247, 2, 8193, 8195, 120) := by decide +kernel
theorem m_12_405 : ev_mth 12 405 = some (3, 248, 3, 8197, 8199, 121) := by decide +kernel
theorem m_12_387 : ev_mth 12 387 = some (3, 249, 1, 8201, 8203, 122) := by decide +kernel
theorem m_12_412 : ev_mth 12 412 = some (3, 250, 0, 8205, 8207, 123) := by decide +kernel
theorem m_12_409 : ev_mth 12 409 = some (3, 251, 2, 8209, 8211, 124) := by decide +kernel
theorem m_12_415 : ev_mth 12 415 = some (3, 252, 2, 8213, 8215, 125) := by decide +kernel
theorem m_12_439 : ev_mth 12 439 = some (3, 253, 1, 8217, 8219, 126) := by decide +kernel
theorem m_12_448 : ev_mth 12 448 = some (3, 254, 1, 8221, 8223, 127) := by decide +kernel
theorem m_12_454 : ev_mth 12 454 = some (3, 255, 0, 8225, 8227, 128) := by decide +kernel
theorem m_12_445 : ev_mth 12 445 = some (3, 256, 0, 8229, 8231, 129) := by decide +kernel
theorem m_12_442 : ev_mth 12 442 = some (3, 257, 3, 8233, 8235, 130) := by decide +kernel
theorem m_12_457 : ev_mth 12 457 = some (3, 258, 2, 8237, 8239, 131) := by decide +kernel
theorem m_12_467 : ev_mth 12 467 = some (3, 259, 0, 9001, 9003, 132) := by decide +kernel
theorem m_12_473 : ev_mth 12 473 = some (3, 260, 1, 9005, 9007, 133) := by decide +kernel
theorem m_12_470 : ev_mth 12 470 = some (3, 261, 2, 9009, 9011, 134) := by decide +kernel
theorem m_13_58 : ev_mth 13 58 = some (3, 262, 3, 9013, 9014, 9015) := by decide +kernel
theorem m_13_62 : ev_mth 13 62 = some (3, 263, 2, 9018, 9019, 9020) := by decide +kernel
theorem m_13_66 : ev_mth 13 66 = some (3, 264, 1, 9022, 9023, 9024) := by decide +kernel
theorem m_13_70 : ev_mth 13 70 = some (3, 265, 1, 9026, 9027, 9028) := by decide +kernel
theorem m_12_480 : ev_mth 12 480 = some (0, 266, 3, 9031, 9032, 0) := by decide +kernel
theorem m_12_484 : ev_mth 12 484 = some (3, 267, 1, 9034, 9036, 135) := by decide +kernel
theorem m_13_74 : ev_mth 13 74 = some (3, 268, 1, 9038, 9039, 9040) := by decide +kernel
theorem m_12_526 : ev_mth 12 526 = some (3, 269, 1, 9042, 9044, 136) := by decide +kernel
theorem m_12_501 : ev_mth 12 501 = some (3, 270, 3, 9047, 9049, 137) := by decide +kernel
theorem m_12_504 : ev_mth 12 504 = some (3, 271, 3, 9051, 9053, 138) := by decide +kernel
theorem m_12_490 : ev_mth 12 490 = some (3, 272, 4, 9056, 9058, 139) := by decide +kernel
theorem m_12_497 : ev_mth 12 497 = some (0, 273, 4, 9060, 9061, 0) := by decide +kernel
theorem m_12_494 : ev_mth 12 494 = some (0, 274, 3, 9063, 9064, 0) := by decide +kernel
theorem m_12_508 : ev_mth 12 508 = some (3, 275, 4, 9066, 9068, 140) := by decide +kernel
theorem m_12_532 : ev_mth 12 532 = some (3, 276, 2, 9070, 9072, 141) := by decide +kernel
theorem m_12_523 : ev_mth 12 523 = some (3, 277, 2, 9074, 9076, 142) := by decide +kernel
theorem m_12_516 : ev_mth 12 516 = some (3, 278, 3, 9078, 9080, 143) := by decide +kernel
theorem m_12_512 : ev_mth 12 512 = some (3, 279, 5, 9082, 9084, 144) := by decide +kernel
theorem m_12_519 : ev_mth 12 519 = some (3, 280, 7, 9086, 9088, 145) := by decide +kernel
theorem m_13_78 : ev_mth 13 78 = some (3, 281, 1, 9090, 9091, 9092) := by decide +kernel
theorem m_13_85 : ev_mth 13 85 = some (3, 282, 1, 9094, 9095, 9096) := by decide +kernel
theorem m_12_541 : ev_mth 12 541 = some (3, 283, 2, 9098, 9100, 146) := by decide +kernel
theorem m_13_90 : ev_mth 13 90 = some (3, 284, 2, 9102, 9103, 9104) := by decide +kernel
theorem m_13_94 : ev_mth 13 94 = some (3, 285, 0, 9107, 9108, 9109) := by decide +kernel
theorem m_12_546 : ev_mth 12 546 = some (3, 282, 1, 9111, 9095, 9096) := by decide +kernel
theorem m_13_98 : ev_mth 13 98 = some (3, 286, 2, 9112, 9113, 9114) := by decide +kernel
theorem m_12_555 : ev_mth 12 555 = some (3, 287, 1, 9117, 9119, 147) := by decide +kernel
theorem m_12_550 : ev_mth 12 550 = some (3, 288, 3, 9121, 9123, 148) := by decide +kernel
theorem m_12_559 : ev_mth 12 559 = some (3, 289, 3, 9125, 9127, 149) := by decide +kernel
theorem m_13_102 : ev_mth 13 102 = some (3, 290, 2, 9129, 9130, 9131) := by decide +kernel
theorem me_0 : ev_mL[0]? = some (0, "<init>", "()V", prog_1_method_1_code, 1, none, true, 1023) := rfl
theorem me_1 : ev_mL[1]? = some (1, "<init>", "()V", prog_10_method_1_code, 1, none, true, 1031) := rfl
theorem me_2 : ev_mL[2]? = some (2, "<init>", "()V", prog_3_method_1_code, 1, none, true, 1061) := rfl
theorem me_3 : ev_mL[3]? = some (3, "<init>", "()V", prog_4_method_1_code, 1, none, true, 1137) := rfl
theorem me_4 : ev_mL[4]? = some (4, "<init>", "()V", prog_11_method_1_code, 1, none, true, 1161) := rfl
theorem me_5 : ev_mL[5]? = some (5, "<init>", "()V", prog_5_method_1_code, 1, none, true, 1225) := rfl
theorem me_6 : ev_mL[6]? = some (6, "<init>", "()V", prog_2_method_1_code, 2, none, true, 2008) := rfl
theorem me_7 : ev_mL[7]? = some (7, "<init>", "()V", prog_6_method_1_code, 1, none, true, 2014) := rfl
theorem me_8 : ev_mL[8]? = some (5, "becomeEmptyWord", "()V", prog_5_method_8_code, 1, none, false, 2076) := rfl
theorem me_9 : ev_mL[9]? = some (5, "sendAll", "(II)V", prog_5_method_12_code, 4, none, false, 2080) := rfl
theorem me_10 : ev_mL[10]? = some (5, "setStep", "(III)V", prog_5_method_5_code, 4, none, false, 2084) := rfl
theorem me_11 : ev_mL[11]? = some (8, "<init>", "()V", prog_7_method_1_code, 1, none, true, 2132) := rfl
theorem me_12 : ev_mL[12]? = some (9, "<init>", "()V", prog_8_method_1_code, 1, none, true, 2166) := rfl
theorem me_13 : ev_mL[13]? = some (10, "<init>", "()V", prog_12_method_1_code, 1, none, true, 2215) := rfl
theorem me_14 : ev_mL[14]? = some (11, "<init>", "()V", prog_9_method_1_code, 1, none, true, 2221) := rfl
theorem me_15 : ev_mL[15]? = some (0, "ask", "(I)I", prog_1_method_2_code, 2, some .int, false, 3126) := rfl
theorem me_16 : ev_mL[16]? = some (1, "tell", "(I)I", prog_10_method_2_code, 2, some .int, false, 3130) := rfl
theorem me_17 : ev_mL[17]? = some (0, "word", "()I", prog_1_method_3_code, 3, some .int, false, 3134) := rfl
theorem me_18 : ev_mL[18]? = some (1, "take", "()V", prog_10_method_3_code, 2, none, false, 3138) := rfl
theorem me_19 : ev_mL[19]? = some (0, "faultOfWord", "()I", prog_1_method_27_code, 2, some .int, false, 3142) := rfl
theorem me_20 : ev_mL[20]? = some (1, "signAt", "(I)I", prog_10_method_4_code, 2, some .int, false, 3146) := rfl
theorem me_21 : ev_mL[21]? = some (0, "isLetterSign", "(I)Z", prog_1_method_29_code, 1, some .boolean, false, 3149) := rfl
theorem me_22 : ev_mL[22]? = some (1, "placeAt", "(I)I", prog_10_method_5_code, 2, some .int, false, 3153) := rfl
theorem me_23 : ev_mL[23]? = some (0, "toldFault", "(I)I", prog_1_method_28_code, 1, some .int, false, 3156) := rfl
theorem me_24 : ev_mL[24]? = some (0, "letterOf", "(I)I", prog_1_method_30_code, 1, some .int, false, 3159) := rfl
theorem me_25 : ev_mL[25]? = some (0, "setWordLength", "(I)I", prog_1_method_26_code, 2, some .int, false, 3163) := rfl
theorem me_26 : ev_mL[26]? = some (4, "forgetWord", "()V", prog_11_method_2_code, 1, none, false, 3167) := rfl
theorem me_27 : ev_mL[27]? = some (0, "grammar", "()I", prog_1_method_4_code, 2, some .int, false, 3171) := rfl
theorem me_28 : ev_mL[28]? = some (3, "read", "(LGrammarGuard$Signs;LGrammarGuard$Grammar;)I", prog_4_method_2_code, 4, some .int, false, 3175) := rfl
theorem me_29 : ev_mL[29]? = some (2, "clear", "()V", prog_3_method_3_code, 1, none, false, 3179) := rfl
theorem me_30 : ev_mL[30]? = some (14, "fill", "([II)V", prog_19_method_103_code, 4, none, false, 3182) := rfl
theorem me_31 : ev_mL[31]? = some (3, "takes", "(II)Z", prog_4_method_3_code, 3, some .boolean, false, 3188) := rfl
theorem me_32 : ev_mL[32]? = some (3, "takesHead", "(I)Z", prog_4_method_4_code, 2, some .boolean, false, 3192) := rfl
theorem me_33 : ev_mL[33]? = some (0, "isNameSign", "(I)Z", prog_1_method_31_code, 1, some .boolean, false, 3195) := rfl
theorem me_34 : ev_mL[34]? = some (2, "addVariable", "(I)V", prog_3_method_4_code, 2, none, false, 3199) := rfl
theorem me_35 : ev_mL[35]? = some (3, "takesInRow", "(II)Z", prog_4_method_5_code, 3, some .boolean, false, 3203) := rfl
theorem me_36 : ev_mL[36]? = some (2, "openRule", "()V", prog_3_method_5_code, 1, none, false, 3207) := rfl
theorem me_37 : ev_mL[37]? = some (3, "takesSymbol", "(II)Z", prog_4_method_6_code, 4, some .boolean, false, 3211) := rfl
theorem me_38 : ev_mL[38]? = some (2, "addSymbol", "(I)V", prog_3_method_6_code, 3, none, false, 3217) := rfl
theorem me_39 : ev_mL[39]? = some (2, "setSymbol", "(III)V", prog_3_method_7_code, 4, none, false, 3221) := rfl
theorem me_40 : ev_mL[40]? = some (3, "firstWithoutPart", "()I", prog_4_method_7_code, 4, some .int, false, 3225) := rfl
theorem me_41 : ev_mL[41]? = some (3, "numberVariables", "()V", prog_4_method_8_code, 4, none, false, 3229) := rfl
theorem me_42 : ev_mL[42]? = some (2, "symbolAt", "(II)I", prog_3_method_2_code, 3, some .int, false, 3233) := rfl
theorem me_43 : ev_mL[43]? = some (2, "takeFrom", "(LGrammarGuard$Grammar;)V", prog_3_method_8_code, 2, none, false, 3238) := rfl
theorem me_44 : ev_mL[44]? = some (2, "learn", "()V", prog_3_method_9_code, 1, none, false, 4005) := rfl
theorem me_45 : ev_mL[45]? = some (2, "learnHeights", "()V", prog_3_method_10_code, 4, none, false, 4009) := rfl
theorem me_46 : ev_mL[46]? = some (2, "isWithin", "(II)Z", prog_3_method_11_code, 5, some .boolean, false, 4014) := rfl
theorem me_47 : ev_mL[47]? = some (0, "bitOf", "(II)I", prog_1_method_32_code, 2, some .int, false, 4018) := rfl
theorem me_48 : ev_mL[48]? = some (2, "learnShortest", "()V", prog_3_method_12_code, 3, none, false, 4022) := rfl
theorem me_49 : ev_mL[49]? = some (14, "fill", "([JJ)V", prog_19_method_101_code, 5, none, false, 4026) := rfl
theorem me_50 : ev_mL[50]? = some (2, "shortestOf", "(I)J", prog_3_method_13_code, 6, some .long, false, 4030) := rfl
theorem me_51 : ev_mL[51]? = some (0, "plus", "(JJ)J", prog_1_method_34_code, 4, some .long, false, 4033) := rfl
theorem me_52 : ev_mL[52]? = some (16, "min", "(JJ)J", prog_17_method_70_code, 4, some .long, false, 4038) := rfl
theorem me_53 : ev_mL[53]? = some (2, "learnUsed", "()V", prog_3_method_14_code, 3, none, false, 4043) := rfl
theorem me_54 : ev_mL[54]? = some (2, "variablesOf", "(I)I", prog_3_method_15_code, 5, some .int, false, 4047) := rfl
theorem me_55 : ev_mL[55]? = some (2, "learnEndless", "()V", prog_3_method_16_code, 5, none, false, 4051) := rfl
theorem me_56 : ev_mL[56]? = some (2, "findLettered", "()I", prog_3_method_17_code, 4, some .int, false, 4055) := rfl
theorem me_57 : ev_mL[57]? = some (2, "letteredSymbols", "(II)I", prog_3_method_18_code, 5, some .int, false, 4059) := rfl
theorem me_58 : ev_mL[58]? = some (2, "isLettered", "(II)Z", prog_3_method_19_code, 2, some .boolean, false, 4062) := rfl
theorem me_59 : ev_mL[59]? = some (2, "growingIn", "(II)I", prog_3_method_20_code, 8, some .int, false, 4066) := rfl
theorem me_60 : ev_mL[60]? = some (0, "closeSets", "([II)V", prog_1_method_36_code, 4, none, false, 4069) := rfl
theorem me_61 : ev_mL[61]? = some (4, "forgetGrammar", "()V", prog_11_method_3_code, 1, none, false, 4074) := rfl
theorem me_62 : ev_mL[62]? = some (0, "expression", "(I)I", prog_1_method_5_code, 3, some .int, false, 4078) := rfl
theorem me_63 : ev_mL[63]? = some (0, "isExpression", "(I)Z", prog_1_method_24_code, 1, some .boolean, false, 4081) := rfl
theorem me_64 : ev_mL[64]? = some (6, "faultIn", "(LGrammarGuard$Signs;)I", prog_2_method_2_code, 3, some .int, false, 4085) := rfl
theorem me_65 : ev_mL[65]? = some (6, "mayCome", "(I)Z", prog_2_method_3_code, 3, some .boolean, false, 4090) := rfl
theorem me_66 : ev_mL[66]? = some (6, "isPlainAtom", "(I)Z", prog_2_method_4_code, 1, some .boolean, false, 4093) := rfl
theorem me_67 : ev_mL[67]? = some (6, "build", "(LGrammarGuard$Signs;)Z", prog_2_method_5_code, 5, some .boolean, false, 4099) := rfl
theorem me_68 : ev_mL[68]? = some (6, "open", "()V", prog_2_method_7_code, 1, none, false, 4103) := rfl
theorem me_69 : ev_mL[69]? = some (7, "make", "(ILGrammarGuard$Machine;LGrammarGuard$Machine;LGrammarGuard$Machine;)Z", prog_6_method_2_code, 6, some .boolean, false, 4107) := rfl
theorem me_70 : ev_mL[70]? = some (7, "gather", "()V", prog_6_method_3_code, 3, none, false, 4111) := rfl
theorem me_71 : ev_mL[71]? = some (5, "endsIn", "(I)Z", prog_5_method_4_code, 2, some .boolean, false, 4115) := rfl
theorem me_72 : ev_mL[72]? = some (7, "placeOf", "(IJ)I", prog_6_method_6_code, 9, some .int, false, 4119) := rfl
theorem me_73 : ev_mL[73]? = some (7, "addPlace", "(IJI)I", prog_6_method_7_code, 5, some .int, false, 4125) := rfl
theorem me_74 : ev_mL[74]? = some (7, "goOn", "(IJI)I", prog_6_method_4_code, 9, some .int, false, 4129) := rfl
theorem me_75 : ev_mL[75]? = some (5, "after", "(II)I", prog_5_method_3_code, 3, some .int, false, 4133) := rfl
theorem me_76 : ev_mL[76]? = some (0, "afterSet", "(LGrammarGuard$Machine;JI)J", prog_1_method_37_code, 8, some .long, false, 4136) := rfl
theorem me_77 : ev_mL[77]? = some (17, "numberOfTrailingZeros", "(J)I", prog_16_method_49_code, 3, some .int, false, 4139) := rfl
theorem me_78 : ev_mL[78]? = some (18, "numberOfTrailingZeros", "(I)I", prog_15_method_48_code, 2, some .int, false, 4142) := rfl
theorem me_79 : ev_mL[79]? = some (7, "divide", "()V", prog_6_method_8_code, 4, none, false, 4148) := rfl
theorem me_80 : ev_mL[80]? = some (7, "isGood", "(I)Z", prog_6_method_5_code, 5, some .boolean, false, 4152) := rfl
theorem me_81 : ev_mL[81]? = some (16, "max", "(II)I", prog_17_method_65_code, 2, some .int, false, 4155) := rfl
theorem me_82 : ev_mL[82]? = some (7, "divideBy", "(I)V", prog_6_method_9_code, 5, none, false, 4159) := rfl
theorem me_83 : ev_mL[83]? = some (14, "fill", "([IIII)V", prog_19_method_104_code, 5, none, false, 4162) := rfl
theorem me_84 : ev_mL[84]? = some (14, "rangeCheck", "(III)V", prog_19_method_30_code, 3, none, false, 4165) := rfl
theorem me_85 : ev_mL[85]? = some (7, "writeTo", "(LGrammarGuard$Machine;)V", prog_6_method_10_code, 6, none, false, 4170) := rfl
theorem me_86 : ev_mL[86]? = some (6, "endItem", "()Z", prog_2_method_10_code, 1, some .boolean, false, 4175) := rfl
theorem me_87 : ev_mL[87]? = some (5, "turnRound", "()V", prog_5_method_11_code, 1, none, false, 4179) := rfl
theorem me_88 : ev_mL[88]? = some (5, "takeFrom", "(LGrammarGuard$Machine;)V", prog_5_method_6_code, 2, none, false, 4184) := rfl
theorem me_89 : ev_mL[89]? = some (6, "endRow", "()Z", prog_2_method_11_code, 2, some .boolean, false, 4189) := rfl
theorem me_90 : ev_mL[90]? = some (6, "endSum", "()Z", prog_2_method_12_code, 1, some .boolean, false, 4193) := rfl
theorem me_91 : ev_mL[91]? = some (6, "close", "()Z", prog_2_method_9_code, 1, some .boolean, false, 4197) := rfl
theorem me_92 : ev_mL[92]? = some (6, "begin", "(I)Z", prog_2_method_8_code, 2, some .boolean, false, 4202) := rfl
theorem me_93 : ev_mL[93]? = some (16, "min", "(II)I", prog_17_method_69_code, 2, some .int, false, 4205) := rfl
theorem me_94 : ev_mL[94]? = some (5, "becomeAnyLetter", "()V", prog_5_method_9_code, 1, none, false, 4209) := rfl
theorem me_95 : ev_mL[95]? = some (5, "becomeNoWord", "()V", prog_5_method_7_code, 1, none, false, 4214) := rfl
theorem me_96 : ev_mL[96]? = some (5, "becomeLetter", "(I)V", prog_5_method_10_code, 4, none, false, 4219) := rfl
theorem me_97 : ev_mL[97]? = some (6, "result", "()LGrammarGuard$Machine;", prog_2_method_6_code, 1, some (.object "GrammarGuard$Machine"), false, 4223) := rfl
theorem me_98 : ev_mL[98]? = some (0, "count", "(I)I", prog_1_method_6_code, 2, some .int, false, 4228) := rfl
theorem me_99 : ev_mL[99]? = some (0, "rule", "(II)I", prog_1_method_7_code, 4, some .int, false, 4232) := rfl
theorem me_100 : ev_mL[100]? = some (0, "variable", "(II)J", prog_1_method_8_code, 3, some .long, false, 4237) := rfl
theorem me_101 : ev_mL[101]? = some (0, "isVariable", "(I)Z", prog_1_method_23_code, 2, some .boolean, false, 5001) := rfl
theorem me_102 : ev_mL[102]? = some (0, "trees", "(I)J", prog_1_method_9_code, 2, some .long, false, 5007) := rfl
theorem me_103 : ev_mL[103]? = some (4, "ofWord", "(LGrammarGuard$Grammar;[III)J", prog_11_method_4_code, 6, some .long, false, 5011) := rfl
theorem me_104 : ev_mL[104]? = some (4, "prepare", "(LGrammarGuard$Grammar;[IIZ)V", prog_11_method_6_code, 5, none, false, 5015) := rfl
theorem me_105 : ev_mL[105]? = some (4, "countEmpty", "()V", prog_11_method_9_code, 4, none, false, 5019) := rfl
theorem me_106 : ev_mL[106]? = some (4, "isBlankRule", "(II)Z", prog_11_method_11_code, 4, some .boolean, false, 5024) := rfl
theorem me_107 : ev_mL[107]? = some (4, "closeAndFindCircles", "()I", prog_11_method_13_code, 3, some .int, false, 5031) := rfl
theorem me_108 : ev_mL[108]? = some (4, "countEmptyOnce", "(II)V", prog_11_method_10_code, 4, none, false, 5037) := rfl
theorem me_109 : ev_mL[109]? = some (4, "emptyProduct", "(III)J", prog_11_method_12_code, 7, some .long, false, 5042) := rfl
theorem me_110 : ev_mL[110]? = some (4, "emptyOf", "(I)J", prog_11_method_8_code, 2, some .long, false, 5046) := rfl
theorem me_111 : ev_mL[111]? = some (0, "times", "(JJ)J", prog_1_method_35_code, 4, some .long, false, 5049) := rfl
theorem me_112 : ev_mL[112]? = some (4, "fillLeads", "()V", prog_11_method_14_code, 3, none, false, 5054) := rfl
theorem me_113 : ev_mL[113]? = some (4, "fillUnits", "()V", prog_11_method_15_code, 7, none, false, 5058) := rfl
theorem me_114 : ev_mL[114]? = some (4, "countFrom", "(I)V", prog_11_method_16_code, 4, none, false, 5062) := rfl
theorem me_115 : ev_mL[115]? = some (4, "prefixOf", "(III)I", prog_11_method_17_code, 3, some .int, false, 5065) := rfl
theorem me_116 : ev_mL[116]? = some (4, "fillMiddles", "(II)V", prog_11_method_18_code, 8, none, false, 5069) := rfl
theorem me_117 : ev_mL[117]? = some (4, "sumOfSplits", "(IIII)J", prog_11_method_19_code, 10, some .long, false, 5073) := rfl
theorem me_118 : ev_mL[118]? = some (4, "spanOf", "(III)I", prog_11_method_7_code, 5, some .int, false, 5077) := rfl
theorem me_119 : ev_mL[119]? = some (4, "fillBase", "()V", prog_11_method_20_code, 5, none, false, 5081) := rfl
theorem me_120 : ev_mL[120]? = some (4, "solve", "()V", prog_11_method_21_code, 5, none, false, 5085) := rfl
theorem me_121 : ev_mL[121]? = some (4, "solveOnce", "(I)Z", prog_11_method_22_code, 7, some .boolean, false, 5090) := rfl
theorem me_122 : ev_mL[122]? = some (4, "fillPrefixes", "(I)V", prog_11_method_23_code, 7, none, false, 5094) := rfl
theorem me_123 : ev_mL[123]? = some (0, "toldNumber", "(J)J", prog_1_method_33_code, 2, some .long, false, 5097) := rfl
theorem me_124 : ev_mL[124]? = some (0, "treesOf", "(I)J", prog_1_method_10_code, 2, some .long, false, 5101) := rfl
theorem me_125 : ev_mL[125]? = some (0, "hasGrammar", "()Z", prog_1_method_22_code, 1, some .boolean, false, 5105) := rfl
theorem me_126 : ev_mL[126]? = some (4, "ofLength", "(LGrammarGuard$Grammar;I)J", prog_11_method_5_code, 4, some .long, false, 5109) := rfl
theorem me_127 : ev_mL[127]? = some (0, "next", "(III)I", prog_1_method_11_code, 5, some .int, false, 5113) := rfl
theorem me_128 : ev_mL[128]? = some (5, "isState", "(I)Z", prog_5_method_2_code, 2, some .boolean, false, 5117) := rfl
theorem me_129 : ev_mL[129]? = some (0, "isLast", "(II)I", prog_1_method_12_code, 4, some .int, false, 5121) := rfl
theorem me_130 : ev_mL[130]? = some (0, "has", "(I)I", prog_1_method_13_code, 5, some .int, false, 5126) := rfl
theorem me_131 : ev_mL[131]? = some (0, "apart", "(I)I", prog_1_method_14_code, 3, some .int, false, 5130) := rfl
theorem me_132 : ev_mL[132]? = some (8, "find", "(LGrammarGuard$Machine;LGrammarGuard$Machine;I)Z", prog_7_method_2_code, 7, some .boolean, false, 5134) := rfl
theorem me_133 : ev_mL[133]? = some (8, "isWanted", "(I)Z", prog_7_method_4_code, 4, some .boolean, false, 5138) := rfl
theorem me_134 : ev_mL[134]? = some (8, "addNext", "(II)I", prog_7_method_3_code, 6, some .int, false, 5143) := rfl
theorem me_135 : ev_mL[135]? = some (8, "length", "()I", prog_7_method_5_code, 4, some .int, false, 5148) := rfl
theorem me_136 : ev_mL[136]? = some (8, "write", "([II)V", prog_7_method_6_code, 5, none, false, 5152) := rfl
theorem me_137 : ev_mL[137]? = some (0, "within", "(I)I", prog_1_method_15_code, 3, some .int, false, 5156) := rfl
theorem me_138 : ev_mL[138]? = some (0, "startEnds", "(I)J", prog_1_method_25_code, 2, some .long, false, 5160) := rfl
theorem me_139 : ev_mL[139]? = some (9, "refresh", "(LGrammarGuard$Grammar;LGrammarGuard$Machine;)V", prog_8_method_2_code, 6, none, false, 5164) := rfl
theorem me_140 : ev_mL[140]? = some (9, "growBy", "(I)Z", prog_8_method_3_code, 7, some .boolean, false, 5169) := rfl
theorem me_141 : ev_mL[141]? = some (0, "rowOf", "(II)I", prog_1_method_38_code, 2, some .int, false, 5172) := rfl
theorem me_142 : ev_mL[142]? = some (0, "follow", "(LGrammarGuard$Grammar;LGrammarGuard$Machine;[JII[J)V", prog_1_method_39_code, 14, none, false, 5175) := rfl
theorem me_143 : ev_mL[143]? = some (11, "find", "(LGrammarGuard$Grammar;LGrammarGuard$Machine;)Z", prog_9_method_2_code, 5, some .boolean, false, 5181) := rfl
theorem me_144 : ev_mL[144]? = some (11, "prepare", "(LGrammarGuard$Grammar;LGrammarGuard$Machine;)V", prog_9_method_3_code, 6, none, false, 5185) := rfl
theorem me_145 : ev_mL[145]? = some (14, "fill", "([JIIJ)V", prog_19_method_102_code, 6, none, false, 5190) := rfl
theorem me_146 : ev_mL[146]? = some (11, "reach", "(IIIIJI)V", prog_9_method_10_code, 14, none, false, 5196) := rfl
theorem me_147 : ev_mL[147]? = some (11, "tripleOf", "(III)I", prog_9_method_4_code, 4, some .int, false, 5201) := rfl
theorem me_148 : ev_mL[148]? = some (11, "offer", "(IJI)V", prog_9_method_15_code, 6, none, false, 5205) := rfl
theorem me_149 : ev_mL[149]? = some (11, "variableOf", "(I)I", prog_9_method_5_code, 2, some .int, false, 5209) := rfl
theorem me_150 : ev_mL[150]? = some (11, "fromOf", "(I)I", prog_9_method_6_code, 2, some .int, false, 5213) := rfl
theorem me_151 : ev_mL[151]? = some (11, "toOf", "(I)I", prog_9_method_7_code, 2, some .int, false, 5218) := rfl
theorem me_152 : ev_mL[152]? = some (11, "rise", "(II)V", prog_9_method_17_code, 5, none, false, 5222) := rfl
theorem me_153 : ev_mL[153]? = some (11, "isLess", "(II)Z", prog_9_method_16_code, 3, some .boolean, false, 5226) := rfl
theorem me_154 : ev_mL[154]? = some (11, "sit", "(II)V", prog_9_method_18_code, 3, none, false, 5230) := rfl
theorem me_155 : ev_mL[155]? = some (11, "partOf", "(IIII)I", prog_9_method_9_code, 5, some .int, false, 5234) := rfl
theorem me_156 : ev_mL[156]? = some (11, "betters", "(IJI)Z", prog_9_method_11_code, 5, some .boolean, false, 5238) := rfl
theorem me_157 : ev_mL[157]? = some (11, "takeLeast", "()I", prog_9_method_19_code, 5, some .int, false, 6005) := rfl
theorem me_158 : ev_mL[158]? = some (11, "settle", "(I)V", prog_9_method_12_code, 2, none, false, 6009) := rfl
theorem me_159 : ev_mL[159]? = some (11, "isRoot", "(I)Z", prog_9_method_8_code, 2, some .boolean, false, 6013) := rfl
theorem me_160 : ev_mL[160]? = some (11, "spread", "(I)V", prog_9_method_13_code, 7, none, false, 6018) := rfl
theorem me_161 : ev_mL[161]? = some (11, "spreadBehind", "(III)V", prog_9_method_14_code, 8, none, false, 6022) := rfl
theorem me_162 : ev_mL[162]? = some (11, "settleGreatOnes", "()V", prog_9_method_20_code, 4, none, false, 6026) := rfl
theorem me_163 : ev_mL[163]? = some (11, "useThoseOf", "(I)Z", prog_9_method_21_code, 5, some .boolean, false, 6030) := rfl
theorem me_164 : ev_mL[164]? = some (11, "settleGreatOnesBy", "(II)V", prog_9_method_22_code, 10, none, false, 6034) := rfl
theorem me_165 : ev_mL[165]? = some (10, "hold", "(LGrammarGuard$Grammar;LGrammarGuard$Machine;)V", prog_12_method_6_code, 5, none, false, 6040) := rfl
theorem me_166 : ev_mL[166]? = some (10, "choose", "(I)V", prog_12_method_7_code, 4, none, false, 6045) := rfl
theorem me_167 : ev_mL[167]? = some (10, "fits", "(II)Z", prog_12_method_8_code, 9, some .boolean, false, 6050) := rfl
theorem me_168 : ev_mL[168]? = some (10, "leastRest", "(IIII)J", prog_12_method_9_code, 14, some .long, false, 6059) := rfl
theorem me_169 : ev_mL[169]? = some (10, "leastStates", "(II)I", prog_12_method_10_code, 10, some .int, false, 6069) := rfl
theorem me_170 : ev_mL[170]? = some (10, "leastEnd", "(IIIJI)I", prog_12_method_11_code, 13, some .int, false, 6073) := rfl
theorem me_171 : ev_mL[171]? = some (10, "markBelow", "(I)V", prog_12_method_14_code, 4, none, false, 6077) := rfl
theorem me_172 : ev_mL[172]? = some (10, "below", "(II)I", prog_12_method_13_code, 5, some .int, false, 6081) := rfl
theorem me_173 : ev_mL[173]? = some (10, "stateBefore", "(II)I", prog_12_method_12_code, 3, some .int, false, 6085) := rfl
theorem me_174 : ev_mL[174]? = some (10, "countNodes", "(I)J", prog_12_method_15_code, 6, some .long, false, 6089) := rfl
theorem me_175 : ev_mL[175]? = some (0, "witness", "(I)J", prog_1_method_16_code, 2, some .long, false, 6093) := rfl
theorem me_176 : ev_mL[176]? = some (10, "rootLength", "()J", prog_12_method_2_code, 1, some .long, false, 6097) := rfl
theorem me_177 : ev_mL[177]? = some (10, "rootHeight", "()J", prog_12_method_3_code, 1, some .long, false, 6101) := rfl
theorem me_178 : ev_mL[178]? = some (10, "rootNodes", "()J", prog_12_method_4_code, 1, some .long, false, 6105) := rfl
theorem me_179 : ev_mL[179]? = some (10, "rootEnd", "()J", prog_12_method_5_code, 1, some .long, false, 6109) := rfl
theorem me_180 : ev_mL[180]? = some (0, "letter", "(J)I", prog_1_method_17_code, 3, some .int, false, 6113) := rfl
theorem me_181 : ev_mL[181]? = some (10, "letterAt", "(J)I", prog_12_method_16_code, 7, some .int, false, 6117) := rfl
theorem me_182 : ev_mL[182]? = some (10, "symbolOfLetter", "(I)I", prog_12_method_17_code, 6, some .int, false, 6122) := rfl
theorem me_183 : ev_mL[183]? = some (0, "node", "(JI)J", prog_1_method_18_code, 4, some .long, false, 6126) := rfl
theorem me_184 : ev_mL[184]? = some (10, "tellNode", "(JI)J", prog_12_method_18_code, 5, some .long, false, 6130) := rfl
theorem me_185 : ev_mL[185]? = some (10, "tripleOfNode", "(J)I", prog_12_method_19_code, 5, some .int, false, 6136) := rfl
theorem me_186 : ev_mL[186]? = some (10, "belowWithNode", "(I)I", prog_12_method_20_code, 5, some .int, false, 6140) := rfl
theorem me_187 : ev_mL[187]? = some (0, "copy", "()I", prog_1_method_19_code, 3, some .int, false, 6145) := rfl
theorem me_188 : ev_mL[188]? = some (0, "product", "(II)J", prog_1_method_20_code, 4, some .long, false, 6150) := rfl
theorem me_189 : ev_mL[189]? = some (9, "countFertile", "()J", prog_8_method_4_code, 1, some .long, false, 6154) := rfl
theorem me_190 : ev_mL[190]? = some (9, "countBits", "([J)J", prog_8_method_5_code, 6, some .long, false, 6158) := rfl
theorem me_191 : ev_mL[191]? = some (17, "bitCount", "(J)I", prog_16_method_50_code, 2, some .int, false, 6161) := rfl
theorem me_192 : ev_mL[192]? = some (9, "countStanding", "()J", prog_8_method_6_code, 4, some .long, false, 6168) := rfl
theorem me_193 : ev_mL[193]? = some (9, "stand", "(IJ)V", prog_8_method_7_code, 4, none, false, 6172) := rfl
theorem me_194 : ev_mL[194]? = some (9, "standBelow", "(IIJ)V", prog_8_method_8_code, 14, none, false, 6177) := rfl
theorem me_195 : ev_mL[195]? = some (9, "passes", "(IIJ)Z", prog_8_method_9_code, 8, some .boolean, false, 6183) := rfl
theorem me_196 : ev_mL[196]? = some (9, "countWays", "()J", prog_8_method_10_code, 5, some .long, false, 6188) := rfl
theorem me_197 : ev_mL[197]? = some (9, "waysFrom", "(II)J", prog_8_method_11_code, 6, some .long, false, 6192) := rfl
theorem me_198 : ev_mL[198]? = some (9, "addWays", "(II)V", prog_8_method_12_code, 8, none, false, 6196) := rfl
theorem me_199 : ev_mL[199]? = some (0, "meets", "(II)I", prog_1_method_21_code, 7, some .int, false, 6202) := rfl
theorem me_200 : ev_mL[200]? = some (12, "<init>", "()V", prog_14_method_1_code, 1, none, true, 6207) := rfl
set_option maxRecDepth 100000 in
theorem me_201 : ev_mL[201]? = some (12, "oneState", "(I)V", prog_14_method_36_code, 3, none, false, 6216) := rfl
set_option maxRecDepth 100000 in
theorem me_202 : ev_mL[202]? = some (12, "ask", "(I)I", prog_14_method_6_code, 2, some .int, false, 8014) := rfl
set_option maxRecDepth 100000 in
theorem me_203 : ev_mL[203]? = some (12, "isIn", "(JJJ)Z", prog_14_method_3_code, 6, some .boolean, false, 8019) := rfl
set_option maxRecDepth 100000 in
theorem me_204 : ev_mL[204]? = some (12, "word", "()I", prog_14_method_8_code, 4, some .int, false, 8023) := rfl
set_option maxRecDepth 100000 in
theorem me_205 : ev_mL[205]? = some (12, "isLetter", "(I)Z", prog_14_method_7_code, 1, some .boolean, false, 8026) := rfl
set_option maxRecDepth 100000 in
theorem me_206 : ev_mL[206]? = some (12, "grammar", "()I", prog_14_method_16_code, 4, some .int, false, 8030) := rfl
set_option maxRecDepth 100000 in
theorem me_207 : ev_mL[207]? = some (12, "readPart", "()V", prog_14_method_14_code, 4, none, false, 8034) := rfl
set_option maxRecDepth 100000 in
theorem me_208 : ev_mL[208]? = some (12, "sign", "()I", prog_14_method_10_code, 1, some .int, false, 8038) := rfl
set_option maxRecDepth 100000 in
theorem me_209 : ev_mL[209]? = some (12, "skip", "()V", prog_14_method_9_code, 1, none, false, 8042) := rfl
set_option maxRecDepth 100000 in
theorem me_210 : ev_mL[210]? = some (12, "isVariable", "(I)Z", prog_14_method_12_code, 1, some .boolean, false, 8045) := rfl
set_option maxRecDepth 100000 in
theorem me_211 : ev_mL[211]? = some (12, "wrong", "()V", prog_14_method_11_code, 1, none, false, 8049) := rfl
set_option maxRecDepth 100000 in
theorem me_212 : ev_mL[212]? = some (12, "readAlternative", "(I)V", prog_14_method_13_code, 4, none, false, 8053) := rfl
set_option maxRecDepth 100000 in
theorem me_213 : ev_mL[213]? = some (12, "findVariables", "()V", prog_14_method_15_code, 6, none, false, 8057) := rfl
set_option maxRecDepth 100000 in
theorem me_214 : ev_mL[214]? = some (12, "lookAtVariables", "()V", prog_14_method_20_code, 6, none, false, 8061) := rfl
set_option maxRecDepth 100000 in
theorem me_215 : ev_mL[215]? = some (12, "lookAtRule", "(I)Z", prog_14_method_21_code, 11, some .boolean, false, 8066) := rfl
set_option maxRecDepth 100000 in
theorem me_216 : ev_mL[216]? = some (12, "isGood", "(I)Z", prog_14_method_19_code, 5, some .boolean, false, 8070) := rfl
set_option maxRecDepth 100000 in
theorem me_217 : ev_mL[217]? = some (12, "sum", "(JJ)J", prog_14_method_4_code, 4, some .long, false, 8073) := rfl
set_option maxRecDepth 100000 in
theorem me_218 : ev_mL[218]? = some (12, "findEndless", "()V", prog_14_method_22_code, 7, none, false, 8079) := rfl
set_option maxRecDepth 100000 in
theorem me_219 : ev_mL[219]? = some (12, "isBeside", "(II)Z", prog_14_method_23_code, 6, some .boolean, false, 8083) := rfl
set_option maxRecDepth 100000 in
theorem me_220 : ev_mL[220]? = some (12, "count", "(I)I", prog_14_method_17_code, 2, some .int, false, 8087) := rfl
set_option maxRecDepth 100000 in
theorem me_221 : ev_mL[221]? = some (12, "rule", "(II)I", prog_14_method_18_code, 3, some .int, false, 8091) := rfl
set_option maxRecDepth 100000 in
theorem me_222 : ev_mL[222]? = some (12, "variable", "(II)J", prog_14_method_24_code, 3, some .long, false, 8095) := rfl
set_option maxRecDepth 100000 in
theorem me_223 : ev_mL[223]? = some (12, "trees", "(I)J", prog_14_method_34_code, 4, some .long, false, 8101) := rfl
set_option maxRecDepth 100000 in
theorem me_224 : ev_mL[224]? = some (12, "countEmpty", "()V", prog_14_method_27_code, 9, none, false, 8105) := rfl
set_option maxRecDepth 100000 in
theorem me_225 : ev_mL[225]? = some (12, "isEmptyRule", "(I)Z", prog_14_method_26_code, 5, some .boolean, false, 8109) := rfl
set_option maxRecDepth 100000 in
theorem me_226 : ev_mL[226]? = some (12, "putInOrder", "([Z)V", prog_14_method_25_code, 6, none, false, 8113) := rfl
set_option maxRecDepth 100000 in
theorem me_227 : ev_mL[227]? = some (12, "times", "(JJ)J", prog_14_method_5_code, 4, some .long, false, 8116) := rfl
set_option maxRecDepth 100000 in
theorem me_228 : ev_mL[228]? = some (12, "countStretch", "(IIZ)V", prog_14_method_31_code, 11, none, false, 8120) := rfl
set_option maxRecDepth 100000 in
theorem me_229 : ev_mL[229]? = some (12, "ownTrees", "(IIIZ)J", prog_14_method_29_code, 14, some .long, false, 8124) := rfl
set_option maxRecDepth 100000 in
theorem me_230 : ev_mL[230]? = some (12, "stretchTrees", "(IIIZ)J", prog_14_method_30_code, 5, some .long, false, 8128) := rfl
set_option maxRecDepth 100000 in
theorem me_231 : ev_mL[231]? = some (12, "cell", "(III)I", prog_14_method_28_code, 3, some .int, false, 8131) := rfl
set_option maxRecDepth 100000 in
theorem me_232 : ev_mL[232]? = some (12, "solve", "(IIZ)V", prog_14_method_32_code, 11, none, false, 8135) := rfl
set_option maxRecDepth 100000 in
theorem me_233 : ev_mL[233]? = some (12, "told", "(J)J", prog_14_method_33_code, 2, some .long, false, 8138) := rfl
set_option maxRecDepth 100000 in
theorem me_234 : ev_mL[234]? = some (12, "treesOf", "(I)J", prog_14_method_35_code, 3, some .long, false, 8142) := rfl
set_option maxRecDepth 100000 in
theorem me_235 : ev_mL[235]? = some (12, "expression", "(I)I", prog_14_method_60_code, 5, some .int, false, 8147) := rfl
set_option maxRecDepth 100000 in
theorem me_236 : ev_mL[236]? = some (12, "lookThrough", "()I", prog_14_method_53_code, 7, some .int, false, 8151) := rfl
set_option maxRecDepth 100000 in
theorem me_237 : ev_mL[237]? = some (12, "isAtom", "(I)Z", prog_14_method_51_code, 2, some .boolean, false, 8155) := rfl
set_option maxRecDepth 100000 in
theorem me_238 : ev_mL[238]? = some (12, "isBehind", "(I)Z", prog_14_method_52_code, 1, some .boolean, false, 8158) := rfl
set_option maxRecDepth 100000 in
theorem me_239 : ev_mL[239]? = some (12, "openLevel", "()V", prog_14_method_54_code, 1, none, false, 8162) := rfl
set_option maxRecDepth 100000 in
theorem me_240 : ev_mL[240]? = some (12, "makeSign", "(I)V", prog_14_method_59_code, 4, none, false, 8166) := rfl
set_option maxRecDepth 100000 in
theorem me_241 : ev_mL[241]? = some (12, "endItem", "()V", prog_14_method_55_code, 4, none, false, 8170) := rfl
set_option maxRecDepth 100000 in
theorem me_242 : ev_mL[242]? = some (12, "complement", "(I)I", prog_14_method_46_code, 5, some .int, false, 8174) := rfl
set_option maxRecDepth 100000 in
theorem me_243 : ev_mL[243]? = some (12, "newMachine", "()I", prog_14_method_37_code, 1, some .int, false, 8178) := rfl
set_option maxRecDepth 100000 in
theorem me_244 : ev_mL[244]? = some (12, "behind", "(II)I", prog_14_method_44_code, 9, some .int, false, 8182) := rfl
set_option maxRecDepth 100000 in
theorem me_245 : ev_mL[245]? = some (12, "beginPlaces", "()V", prog_14_method_39_code, 2, none, false, 8186) := rfl
set_option maxRecDepth 100000 in
theorem me_246 : ev_mL[246]? = some (12, "place", "(IJ)I", prog_14_method_40_code, 8, some .int, false, 8190) := rfl
set_option maxRecDepth 100000 in
theorem me_247 : ev_mL[247]? = some (12, "hasLast", "(IJ)Z", prog_14_method_42_code, 5, some .boolean, false, 8196) := rfl
set_option maxRecDepth 100000 in
theorem me_248 : ev_mL[248]? = some (12, "ahead", "(IJI)J", prog_14_method_41_code, 8, some .long, false, 8200) := rfl
set_option maxRecDepth 100000 in
theorem me_249 : ev_mL[249]? = some (12, "makeLeast", "(I)V", prog_14_method_49_code, 4, none, false, 8204) := rfl
set_option maxRecDepth 100000 in
theorem me_250 : ev_mL[250]? = some (12, "partAgain", "()I", prog_14_method_48_code, 5, some .int, false, 8208) := rfl
set_option maxRecDepth 100000 in
theorem me_251 : ev_mL[251]? = some (12, "isLikeChief", "(II)Z", prog_14_method_47_code, 4, some .boolean, false, 8212) := rfl
set_option maxRecDepth 100000 in
theorem me_252 : ev_mL[252]? = some (12, "number", "(II)V", prog_14_method_50_code, 8, none, false, 8216) := rfl
set_option maxRecDepth 100000 in
theorem me_253 : ev_mL[253]? = some (12, "simple", "(I)I", prog_14_method_38_code, 6, some .int, false, 8220) := rfl
set_option maxRecDepth 100000 in
theorem me_254 : ev_mL[254]? = some (12, "beginItem", "(I)V", prog_14_method_58_code, 3, none, false, 8224) := rfl
set_option maxRecDepth 100000 in
theorem me_255 : ev_mL[255]? = some (12, "endSum", "()V", prog_14_method_57_code, 2, none, false, 8228) := rfl
set_option maxRecDepth 100000 in
theorem me_256 : ev_mL[256]? = some (12, "endRow", "()V", prog_14_method_56_code, 3, none, false, 8232) := rfl
set_option maxRecDepth 100000 in
theorem me_257 : ev_mL[257]? = some (12, "joined", "(III)I", prog_14_method_43_code, 10, some .int, false, 8236) := rfl
set_option maxRecDepth 100000 in
theorem me_258 : ev_mL[258]? = some (12, "again", "(IZ)I", prog_14_method_45_code, 9, some .int, false, 9000) := rfl
set_option maxRecDepth 100000 in
theorem me_259 : ev_mL[259]? = some (12, "tidy", "()V", prog_14_method_62_code, 3, none, false, 9004) := rfl
set_option maxRecDepth 100000 in
theorem me_260 : ev_mL[260]? = some (12, "need", "(I)V", prog_14_method_63_code, 2, none, false, 9008) := rfl
set_option maxRecDepth 100000 in
theorem me_261 : ev_mL[261]? = some (12, "copyMachine", "(II)V", prog_14_method_61_code, 4, none, false, 9012) := rfl
set_option maxRecDepth 100000 in
theorem me_262 : ev_mL[262]? = some (12, "next", "(III)I", prog_14_method_64_code, 5, some .int, false, 9016) := rfl
set_option maxRecDepth 100000 in
theorem me_263 : ev_mL[263]? = some (12, "isLast", "(II)I", prog_14_method_65_code, 3, some .int, false, 9021) := rfl
set_option maxRecDepth 100000 in
theorem me_264 : ev_mL[264]? = some (12, "has", "(I)I", prog_14_method_66_code, 4, some .int, false, 9025) := rfl
set_option maxRecDepth 100000 in
theorem me_265 : ev_mL[265]? = some (12, "apart", "(I)I", prog_14_method_68_code, 8, some .int, false, 9029) := rfl
set_option maxRecDepth 100000 in
theorem me_266 : ev_mL[266]? = some (12, "isWanted", "(IZZ)Z", prog_14_method_67_code, 3, some .boolean, false, 9033) := rfl
set_option maxRecDepth 100000 in
theorem me_267 : ev_mL[267]? = some (12, "takeWay", "(I)I", prog_14_method_69_code, 5, some .int, false, 9037) := rfl
set_option maxRecDepth 100000 in
theorem me_268 : ev_mL[268]? = some (12, "within", "(I)I", prog_14_method_82_code, 6, some .int, false, 9041) := rfl
set_option maxRecDepth 100000 in
theorem me_269 : ev_mL[269]? = some (12, "findTriples", "(I)V", prog_14_method_74_code, 4, none, false, 9045) := rfl
set_option maxRecDepth 100000 in
theorem me_270 : ev_mL[270]? = some (12, "goOver", "(IIZ)V", prog_14_method_75_code, 7, none, false, 9050) := rfl
set_option maxRecDepth 100000 in
theorem me_271 : ev_mL[271]? = some (12, "goAlong", "(III)V", prog_14_method_72_code, 14, none, false, 9054) := rfl
set_option maxRecDepth 100000 in
theorem me_272 : ev_mL[272]? = some (12, "better", "(IJII)V", prog_14_method_73_code, 6, none, false, 9059) := rfl
set_option maxRecDepth 100000 in
theorem me_273 : ev_mL[273]? = some (12, "isLess", "(JIJI)Z", prog_14_method_71_code, 6, some .boolean, false, 9062) := rfl
set_option maxRecDepth 100000 in
theorem me_274 : ev_mL[274]? = some (12, "triple", "(III)I", prog_14_method_70_code, 3, some .int, false, 9065) := rfl
set_option maxRecDepth 100000 in
theorem me_275 : ev_mL[275]? = some (12, "takeWays", "(IIIZ)Z", prog_14_method_76_code, 11, some .boolean, false, 9069) := rfl
set_option maxRecDepth 100000 in
theorem me_276 : ev_mL[276]? = some (12, "chooseAll", "(II)V", prog_14_method_81_code, 12, none, false, 9073) := rfl
set_option maxRecDepth 100000 in
theorem me_277 : ev_mL[277]? = some (12, "chooseTree", "(II)V", prog_14_method_79_code, 13, none, false, 9077) := rfl
set_option maxRecDepth 100000 in
theorem me_278 : ev_mL[278]? = some (12, "goBack", "(III)V", prog_14_method_77_code, 13, none, false, 9081) := rfl
set_option maxRecDepth 100000 in
theorem me_279 : ev_mL[279]? = some (12, "restBetter", "(IIIIJ)V", prog_14_method_78_code, 12, none, false, 9085) := rfl
set_option maxRecDepth 100000 in
theorem me_280 : ev_mL[280]? = some (12, "isOnBest", "(IIIIIJJ)Z", prog_14_method_80_code, 17, some .boolean, false, 9089) := rfl
set_option maxRecDepth 100000 in
theorem me_281 : ev_mL[281]? = some (12, "witness", "(I)J", prog_14_method_83_code, 2, some .long, false, 9093) := rfl
set_option maxRecDepth 100000 in
theorem me_282 : ev_mL[282]? = some (12, "letter", "(J)I", prog_14_method_85_code, 11, some .int, false, 9097) := rfl
set_option maxRecDepth 100000 in
theorem me_283 : ev_mL[283]? = some (12, "partOf", "(II)I", prog_14_method_84_code, 4, some .int, false, 9101) := rfl
set_option maxRecDepth 100000 in
theorem me_284 : ev_mL[284]? = some (12, "node", "(JI)J", prog_14_method_86_code, 12, some .long, false, 9105) := rfl
set_option maxRecDepth 100000 in
theorem me_285 : ev_mL[285]? = some (12, "copy", "()I", prog_14_method_87_code, 3, some .int, false, 9110) := rfl
set_option maxRecDepth 100000 in
theorem me_286 : ev_mL[286]? = some (12, "product", "(II)J", prog_14_method_91_code, 7, some .long, false, 9115) := rfl
set_option maxRecDepth 100000 in
theorem me_287 : ev_mL[287]? = some (12, "countStanding", "(I)J", prog_14_method_90_code, 5, some .long, false, 9120) := rfl
set_option maxRecDepth 100000 in
theorem me_288 : ev_mL[288]? = some (12, "standIn", "(III)I", prog_14_method_89_code, 15, some .int, false, 9124) := rfl
set_option maxRecDepth 100000 in
theorem me_289 : ev_mL[289]? = some (12, "countWays", "(III)J", prog_14_method_88_code, 11, some .long, false, 9128) := rfl
set_option maxRecDepth 100000 in
theorem me_290 : ev_mL[290]? = some (12, "meets", "(II)I", prog_14_method_92_code, 4, some .int, false, 9132) := rfl
