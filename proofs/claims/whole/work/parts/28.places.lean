/-! Places (wip/tools/gen_shape.py) -/
theorem sh_all {c o : Nat} {s : Nat × Nat × Nat × Nat} (hA : (List.range shp.length).all (fun a => decide (shp[a]? = some (c, 0, 0, 0) → shp[a + o]? = some s)) = true) {a : Nat} (h : shp[a]? = some (c, 0, 0, 0)) : shp[a + o]? = some s := of_decide_eq_true (List.all_eq_true.mp hA a (List.mem_range.mpr (List.getElem?_eq_some_iff.mp h).1)) h
theorem sr_of {b s n c : Nat} (hA : (List.range n).all (fun k => decide (shp[b + s * k]? = some (c, 0, 0, 0))) = true) {i : Int} (h0 : 0 ≤ i) (h1 : i < n) : shp[b + s * i.toNat]? = some (c, 0, 0, 0) := of_decide_eq_true (List.all_eq_true.mp hA i.toNat (List.mem_range.mpr (by omega)))
theorem sx_0 : shp[0]? = some (5, 0, 0, 0) := by decide +kernel
theorem sx_1 : shp[1]? = some (6, 0, 0, 0) := by decide +kernel
theorem sx_2 : shp[2]? = some (0, 300, 0, 0) := by decide +kernel
theorem sx_3 : shp[3]? = some (0, 300, 0, 0) := by decide +kernel
theorem sx_4 : shp[4]? = some (0, 300, 0, 0) := by decide +kernel
theorem sx_5 : shp[5]? = some (0, 40, 0, 0) := by decide +kernel
theorem sx_6 : shp[6]? = some (7, 0, 0, 0) := by decide +kernel
theorem sx_7 : shp[7]? = some (0, 10, 0, 0) := by decide +kernel
theorem sx_8 : shp[8]? = some (0, 30, 0, 0) := by decide +kernel
theorem sx_9 : shp[9]? = some (0, 30, 0, 0) := by decide +kernel
theorem sx_10 : shp[10]? = some (0, 180, 0, 0) := by decide +kernel
theorem sx_11 : shp[11]? = some (1, 10, 0, 0) := by decide +kernel
theorem sx_12 : shp[12]? = some (0, 10, 0, 0) := by decide +kernel
theorem sx_13 : shp[13]? = some (0, 10, 0, 0) := by decide +kernel
theorem sx_14 : shp[14]? = some (0, 10, 0, 0) := by decide +kernel
theorem sx_15 : shp[15]? = some (7, 0, 0, 0) := by decide +kernel
theorem sx_16 : shp[16]? = some (0, 10, 0, 0) := by decide +kernel
theorem sx_17 : shp[17]? = some (0, 30, 0, 0) := by decide +kernel
theorem sx_18 : shp[18]? = some (0, 30, 0, 0) := by decide +kernel
theorem sx_19 : shp[19]? = some (0, 180, 0, 0) := by decide +kernel
theorem sx_20 : shp[20]? = some (1, 10, 0, 0) := by decide +kernel
theorem sx_21 : shp[21]? = some (0, 10, 0, 0) := by decide +kernel
theorem sx_22 : shp[22]? = some (0, 10, 0, 0) := by decide +kernel
theorem sx_23 : shp[23]? = some (0, 10, 0, 0) := by decide +kernel
theorem sx_24 : shp[24]? = some (8, 0, 0, 0) := by decide +kernel
theorem sx_25 : shp[25]? = some (0, 26, 0, 0) := by decide +kernel
theorem sx_26 : shp[26]? = some (0, 26, 0, 0) := by decide +kernel
theorem sx_27 : shp[27]? = some (7, 0, 0, 0) := by decide +kernel
theorem sx_28 : shp[28]? = some (0, 10, 0, 0) := by decide +kernel
theorem sx_29 : shp[29]? = some (0, 30, 0, 0) := by decide +kernel
theorem sx_30 : shp[30]? = some (0, 30, 0, 0) := by decide +kernel
theorem sx_31 : shp[31]? = some (0, 180, 0, 0) := by decide +kernel
theorem sx_32 : shp[32]? = some (1, 10, 0, 0) := by decide +kernel
theorem sx_33 : shp[33]? = some (0, 10, 0, 0) := by decide +kernel
theorem sx_34 : shp[34]? = some (0, 10, 0, 0) := by decide +kernel
theorem sx_35 : shp[35]? = some (0, 10, 0, 0) := by decide +kernel
theorem sx_36 : shp[36]? = some (9, 0, 0, 0) := by decide +kernel
theorem sx_37 : shp[37]? = some (7, 0, 0, 0) := by decide +kernel
theorem sx_38 : shp[38]? = some (0, 10, 0, 0) := by decide +kernel
theorem sx_39 : shp[39]? = some (0, 30, 0, 0) := by decide +kernel
theorem sx_40 : shp[40]? = some (0, 30, 0, 0) := by decide +kernel
theorem sx_41 : shp[41]? = some (0, 180, 0, 0) := by decide +kernel
theorem sx_42 : shp[42]? = some (1, 10, 0, 0) := by decide +kernel
theorem sx_43 : shp[43]? = some (0, 10, 0, 0) := by decide +kernel
theorem sx_44 : shp[44]? = some (0, 10, 0, 0) := by decide +kernel
theorem sx_45 : shp[45]? = some (0, 10, 0, 0) := by decide +kernel
theorem sx_46 : shp[46]? = some (0, 40, 0, 0) := by decide +kernel
theorem sx_47 : shp[47]? = some (1, 10, 0, 0) := by decide +kernel
theorem sx_48 : shp[48]? = some (1, 210, 0, 0) := by decide +kernel
theorem sx_49 : shp[49]? = some (1, 100, 0, 0) := by decide +kernel
theorem sx_50 : shp[50]? = some (0, 10, 0, 0) := by decide +kernel
theorem sx_51 : shp[51]? = some (1, 16810, 0, 0) := by decide +kernel
theorem sx_52 : shp[52]? = some (1, 8610, 0, 0) := by decide +kernel
theorem sx_53 : shp[53]? = some (1, 210, 0, 0) := by decide +kernel
theorem sx_54 : shp[54]? = some (1, 10, 0, 0) := by decide +kernel
theorem sx_55 : shp[55]? = some (1, 10, 0, 0) := by decide +kernel
theorem sx_56 : shp[56]? = some (1, 10, 0, 0) := by decide +kernel
theorem sx_57 : shp[57]? = some (1, 41, 0, 0) := by decide +kernel
theorem sx_58 : shp[58]? = some (3, 2, 1, 2) := by decide +kernel
theorem sx_59 : shp[59]? = some (10, 0, 0, 0) := by decide +kernel
theorem sx_60 : shp[60]? = some (0, 400, 0, 0) := by decide +kernel
theorem sx_61 : shp[61]? = some (10, 0, 0, 0) := by decide +kernel
theorem sx_62 : shp[62]? = some (0, 400, 0, 0) := by decide +kernel
theorem sx_63 : shp[63]? = some (11, 0, 0, 0) := by decide +kernel
theorem sx_64 : shp[64]? = some (12, 0, 0, 0) := by decide +kernel
theorem sx_65 : shp[65]? = some (10, 0, 0, 0) := by decide +kernel
theorem sx_66 : shp[66]? = some (0, 400, 0, 0) := by decide +kernel
theorem sx_67 : shp[67]? = some (0, 2000, 0, 0) := by decide +kernel
theorem sx_68 : shp[68]? = some (1, 2000, 0, 0) := by decide +kernel
theorem sx_69 : shp[69]? = some (0, 20000, 0, 0) := by decide +kernel
theorem sx_70 : shp[70]? = some (0, 4096, 0, 0) := by decide +kernel
theorem sx_71 : shp[71]? = some (0, 2000, 0, 0) := by decide +kernel
theorem sx_72 : shp[72]? = some (2, 2000, 0, 0) := by decide +kernel
theorem sx_73 : shp[73]? = some (0, 2000, 0, 0) := by decide +kernel
theorem sx_74 : shp[74]? = some (0, 2000, 0, 0) := by decide +kernel
theorem sx_75 : shp[75]? = some (0, 1681, 0, 0) := by decide +kernel
theorem sx_76 : shp[76]? = some (0, 40, 0, 0) := by decide +kernel
theorem sx_77 : shp[77]? = some (0, 40, 0, 0) := by decide +kernel
theorem sx_78 : shp[78]? = some (10, 0, 0, 0) := by decide +kernel
theorem sx_79 : shp[79]? = some (0, 400, 0, 0) := by decide +kernel
theorem sx_80 : shp[80]? = some (10, 0, 0, 0) := by decide +kernel
theorem sx_81 : shp[81]? = some (0, 400, 0, 0) := by decide +kernel
theorem sx_82 : shp[82]? = some (3, 16, 7, 6) := by decide +kernel
theorem sx_83 : shp[83]? = some (3, 16, 8, 6) := by decide +kernel
theorem sx_84 : shp[84]? = some (3, 16, 9, 6) := by decide +kernel
theorem sx_85 : shp[85]? = some (2, 16, 0, 0) := by decide +kernel
theorem sx_86 : shp[86]? = some (2, 16, 0, 0) := by decide +kernel
theorem sx_87 : shp[87]? = some (2, 16, 0, 0) := by decide +kernel
theorem sx_88 : shp[88]? = some (2, 16, 0, 0) := by decide +kernel
theorem sx_89 : shp[89]? = some (10, 0, 0, 0) := by decide +kernel
theorem sx_90 : shp[90]? = some (0, 400, 0, 0) := by decide +kernel
theorem sx_91 : shp[91]? = some (10, 0, 0, 0) := by decide +kernel
theorem sx_92 : shp[92]? = some (0, 400, 0, 0) := by decide +kernel
theorem sx_93 : shp[93]? = some (10, 0, 0, 0) := by decide +kernel
theorem sx_94 : shp[94]? = some (0, 400, 0, 0) := by decide +kernel
theorem sx_95 : shp[95]? = some (10, 0, 0, 0) := by decide +kernel
theorem sx_96 : shp[96]? = some (0, 400, 0, 0) := by decide +kernel
theorem sx_97 : shp[97]? = some (10, 0, 0, 0) := by decide +kernel
theorem sx_98 : shp[98]? = some (0, 400, 0, 0) := by decide +kernel
theorem sx_99 : shp[99]? = some (10, 0, 0, 0) := by decide +kernel
theorem sx_100 : shp[100]? = some (0, 400, 0, 0) := by decide +kernel
theorem sx_101 : shp[101]? = some (10, 0, 0, 0) := by decide +kernel
theorem sx_102 : shp[102]? = some (0, 400, 0, 0) := by decide +kernel
theorem sx_103 : shp[103]? = some (10, 0, 0, 0) := by decide +kernel
theorem sx_104 : shp[104]? = some (0, 400, 0, 0) := by decide +kernel
theorem sx_105 : shp[105]? = some (10, 0, 0, 0) := by decide +kernel
theorem sx_106 : shp[106]? = some (0, 400, 0, 0) := by decide +kernel
theorem sx_107 : shp[107]? = some (10, 0, 0, 0) := by decide +kernel
theorem sx_108 : shp[108]? = some (0, 400, 0, 0) := by decide +kernel
theorem sx_109 : shp[109]? = some (10, 0, 0, 0) := by decide +kernel
theorem sx_110 : shp[110]? = some (0, 400, 0, 0) := by decide +kernel
theorem sx_111 : shp[111]? = some (10, 0, 0, 0) := by decide +kernel
theorem sx_112 : shp[112]? = some (0, 400, 0, 0) := by decide +kernel
theorem sx_113 : shp[113]? = some (10, 0, 0, 0) := by decide +kernel
theorem sx_114 : shp[114]? = some (0, 400, 0, 0) := by decide +kernel
theorem sx_115 : shp[115]? = some (10, 0, 0, 0) := by decide +kernel
theorem sx_116 : shp[116]? = some (0, 400, 0, 0) := by decide +kernel
theorem sx_117 : shp[117]? = some (10, 0, 0, 0) := by decide +kernel
theorem sx_118 : shp[118]? = some (0, 400, 0, 0) := by decide +kernel
theorem sx_119 : shp[119]? = some (10, 0, 0, 0) := by decide +kernel
theorem sx_120 : shp[120]? = some (0, 400, 0, 0) := by decide +kernel
theorem sx_121 : shp[121]? = some (10, 0, 0, 0) := by decide +kernel
theorem sx_122 : shp[122]? = some (0, 400, 0, 0) := by decide +kernel
theorem sx_123 : shp[123]? = some (10, 0, 0, 0) := by decide +kernel
theorem sx_124 : shp[124]? = some (0, 400, 0, 0) := by decide +kernel
theorem sx_125 : shp[125]? = some (10, 0, 0, 0) := by decide +kernel
theorem sx_126 : shp[126]? = some (0, 400, 0, 0) := by decide +kernel
theorem sx_127 : shp[127]? = some (10, 0, 0, 0) := by decide +kernel
theorem sx_128 : shp[128]? = some (0, 400, 0, 0) := by decide +kernel
theorem sx_129 : shp[129]? = some (10, 0, 0, 0) := by decide +kernel
theorem sx_130 : shp[130]? = some (0, 400, 0, 0) := by decide +kernel
theorem sx_131 : shp[131]? = some (10, 0, 0, 0) := by decide +kernel
theorem sx_132 : shp[132]? = some (0, 400, 0, 0) := by decide +kernel
theorem sx_133 : shp[133]? = some (10, 0, 0, 0) := by decide +kernel
theorem sx_134 : shp[134]? = some (0, 400, 0, 0) := by decide +kernel
theorem sx_135 : shp[135]? = some (10, 0, 0, 0) := by decide +kernel
theorem sx_136 : shp[136]? = some (0, 400, 0, 0) := by decide +kernel
theorem sx_137 : shp[137]? = some (10, 0, 0, 0) := by decide +kernel
theorem sx_138 : shp[138]? = some (0, 400, 0, 0) := by decide +kernel
theorem sx_139 : shp[139]? = some (10, 0, 0, 0) := by decide +kernel
theorem sx_140 : shp[140]? = some (0, 400, 0, 0) := by decide +kernel
theorem sx_141 : shp[141]? = some (10, 0, 0, 0) := by decide +kernel
theorem sx_142 : shp[142]? = some (0, 400, 0, 0) := by decide +kernel
theorem sx_143 : shp[143]? = some (10, 0, 0, 0) := by decide +kernel
theorem sx_144 : shp[144]? = some (0, 400, 0, 0) := by decide +kernel
theorem sx_145 : shp[145]? = some (10, 0, 0, 0) := by decide +kernel
theorem sx_146 : shp[146]? = some (0, 400, 0, 0) := by decide +kernel
theorem sx_147 : shp[147]? = some (10, 0, 0, 0) := by decide +kernel
theorem sx_148 : shp[148]? = some (0, 400, 0, 0) := by decide +kernel
theorem sx_149 : shp[149]? = some (10, 0, 0, 0) := by decide +kernel
theorem sx_150 : shp[150]? = some (0, 400, 0, 0) := by decide +kernel
theorem sx_151 : shp[151]? = some (10, 0, 0, 0) := by decide +kernel
theorem sx_152 : shp[152]? = some (0, 400, 0, 0) := by decide +kernel
theorem sx_153 : shp[153]? = some (10, 0, 0, 0) := by decide +kernel
theorem sx_154 : shp[154]? = some (0, 400, 0, 0) := by decide +kernel
theorem sx_155 : shp[155]? = some (10, 0, 0, 0) := by decide +kernel
theorem sx_156 : shp[156]? = some (0, 400, 0, 0) := by decide +kernel
theorem sx_157 : shp[157]? = some (10, 0, 0, 0) := by decide +kernel
theorem sx_158 : shp[158]? = some (0, 400, 0, 0) := by decide +kernel
theorem sx_159 : shp[159]? = some (10, 0, 0, 0) := by decide +kernel
theorem sx_160 : shp[160]? = some (0, 400, 0, 0) := by decide +kernel
theorem sx_161 : shp[161]? = some (10, 0, 0, 0) := by decide +kernel
theorem sx_162 : shp[162]? = some (0, 400, 0, 0) := by decide +kernel
theorem sx_163 : shp[163]? = some (10, 0, 0, 0) := by decide +kernel
theorem sx_164 : shp[164]? = some (0, 400, 0, 0) := by decide +kernel
theorem sx_165 : shp[165]? = some (10, 0, 0, 0) := by decide +kernel
theorem sx_166 : shp[166]? = some (0, 400, 0, 0) := by decide +kernel
theorem sx_167 : shp[167]? = some (10, 0, 0, 0) := by decide +kernel
theorem sx_168 : shp[168]? = some (0, 400, 0, 0) := by decide +kernel
theorem sx_169 : shp[169]? = some (10, 0, 0, 0) := by decide +kernel
theorem sx_170 : shp[170]? = some (0, 400, 0, 0) := by decide +kernel
theorem sx_171 : shp[171]? = some (10, 0, 0, 0) := by decide +kernel
theorem sx_172 : shp[172]? = some (0, 400, 0, 0) := by decide +kernel
theorem sx_173 : shp[173]? = some (10, 0, 0, 0) := by decide +kernel
theorem sx_174 : shp[174]? = some (0, 400, 0, 0) := by decide +kernel
theorem sx_175 : shp[175]? = some (10, 0, 0, 0) := by decide +kernel
theorem sx_176 : shp[176]? = some (0, 400, 0, 0) := by decide +kernel
theorem sx_177 : shp[177]? = some (10, 0, 0, 0) := by decide +kernel
theorem sx_178 : shp[178]? = some (0, 400, 0, 0) := by decide +kernel
theorem sx_179 : shp[179]? = some (10, 0, 0, 0) := by decide +kernel
theorem sx_180 : shp[180]? = some (0, 400, 0, 0) := by decide +kernel
theorem sx_181 : shp[181]? = some (10, 0, 0, 0) := by decide +kernel
theorem sx_182 : shp[182]? = some (0, 400, 0, 0) := by decide +kernel
theorem sx_183 : shp[183]? = some (10, 0, 0, 0) := by decide +kernel
theorem sx_184 : shp[184]? = some (0, 400, 0, 0) := by decide +kernel
theorem sx_185 : shp[185]? = some (13, 0, 0, 0) := by decide +kernel
theorem sx_186 : shp[186]? = some (0, 1600, 0, 0) := by decide +kernel
theorem sx_187 : shp[187]? = some (0, 1600, 0, 0) := by decide +kernel
theorem sx_188 : shp[188]? = some (0, 1600, 0, 0) := by decide +kernel
theorem sx_189 : shp[189]? = some (2, 1600, 0, 0) := by decide +kernel
theorem sx_190 : shp[190]? = some (10, 0, 0, 0) := by decide +kernel
theorem sx_191 : shp[191]? = some (0, 400, 0, 0) := by decide +kernel
theorem sx_192 : shp[192]? = some (4, 2, 1, 19) := by decide +kernel
theorem sx_193 : shp[193]? = some (14, 0, 0, 0) := by decide +kernel
theorem sx_194 : shp[194]? = some (1, 400, 0, 0) := by decide +kernel
theorem sx_195 : shp[195]? = some (7, 0, 0, 0) := by decide +kernel
theorem sx_196 : shp[196]? = some (0, 10, 0, 0) := by decide +kernel
theorem sx_197 : shp[197]? = some (0, 30, 0, 0) := by decide +kernel
theorem sx_198 : shp[198]? = some (0, 30, 0, 0) := by decide +kernel
theorem sx_199 : shp[199]? = some (0, 180, 0, 0) := by decide +kernel
theorem sx_200 : shp[200]? = some (1, 10, 0, 0) := by decide +kernel
theorem sx_201 : shp[201]? = some (0, 10, 0, 0) := by decide +kernel
theorem sx_202 : shp[202]? = some (0, 10, 0, 0) := by decide +kernel
theorem sx_203 : shp[203]? = some (0, 10, 0, 0) := by decide +kernel
theorem sx_204 : shp[204]? = some (10, 0, 0, 0) := by decide +kernel
theorem sx_205 : shp[205]? = some (0, 400, 0, 0) := by decide +kernel
theorem sx_206 : shp[206]? = some (1, 7, 0, 0) := by decide +kernel
theorem sx_207 : shp[207]? = some (1, 400, 0, 0) := by decide +kernel
theorem sx_208 : shp[208]? = some (0, 400, 0, 0) := by decide +kernel
theorem sx_209 : shp[209]? = some (2, 400, 0, 0) := by decide +kernel
theorem sx_210 : shp[210]? = some (1, 40, 0, 0) := by decide +kernel
theorem sx_211 : shp[211]? = some (1, 40, 0, 0) := by decide +kernel
theorem sx_212 : shp[212]? = some (14, 0, 0, 0) := by decide +kernel
theorem sx_213 : shp[213]? = some (1, 400, 0, 0) := by decide +kernel
theorem sx_214 : shp[214]? = some (7, 0, 0, 0) := by decide +kernel
theorem sx_215 : shp[215]? = some (0, 10, 0, 0) := by decide +kernel
theorem sx_216 : shp[216]? = some (0, 30, 0, 0) := by decide +kernel
theorem sx_217 : shp[217]? = some (0, 30, 0, 0) := by decide +kernel
theorem sx_218 : shp[218]? = some (0, 180, 0, 0) := by decide +kernel
theorem sx_219 : shp[219]? = some (1, 10, 0, 0) := by decide +kernel
theorem sx_220 : shp[220]? = some (0, 10, 0, 0) := by decide +kernel
theorem sx_221 : shp[221]? = some (0, 10, 0, 0) := by decide +kernel
theorem sx_222 : shp[222]? = some (0, 10, 0, 0) := by decide +kernel
theorem sx_223 : shp[223]? = some (10, 0, 0, 0) := by decide +kernel
theorem sx_224 : shp[224]? = some (0, 400, 0, 0) := by decide +kernel
theorem sx_225 : shp[225]? = some (1, 7, 0, 0) := by decide +kernel
theorem sx_226 : shp[226]? = some (1, 400, 0, 0) := by decide +kernel
theorem sx_227 : shp[227]? = some (0, 400, 0, 0) := by decide +kernel
theorem sx_228 : shp[228]? = some (2, 400, 0, 0) := by decide +kernel
theorem sx_229 : shp[229]? = some (1, 40, 0, 0) := by decide +kernel
theorem sx_230 : shp[230]? = some (1, 40, 0, 0) := by decide +kernel
theorem sx_231 : shp[231]? = some (15, 0, 0, 0) := by decide +kernel
theorem sx_232 : shp[232]? = some (16, 0, 0, 0) := by decide +kernel
theorem sx_233 : shp[233]? = some (7, 0, 0, 0) := by decide +kernel
theorem sx_234 : shp[234]? = some (0, 10, 0, 0) := by decide +kernel
theorem sx_235 : shp[235]? = some (0, 30, 0, 0) := by decide +kernel
theorem sx_236 : shp[236]? = some (0, 30, 0, 0) := by decide +kernel
theorem sx_237 : shp[237]? = some (0, 180, 0, 0) := by decide +kernel
theorem sx_238 : shp[238]? = some (1, 10, 0, 0) := by decide +kernel
theorem sx_239 : shp[239]? = some (0, 10, 0, 0) := by decide +kernel
theorem sx_240 : shp[240]? = some (0, 10, 0, 0) := by decide +kernel
theorem sx_241 : shp[241]? = some (0, 10, 0, 0) := by decide +kernel
theorem sx_242 : shp[242]? = some (10, 0, 0, 0) := by decide +kernel
theorem sx_243 : shp[243]? = some (0, 400, 0, 0) := by decide +kernel
theorem sx_244 : shp[244]? = some (1, 16000, 0, 0) := by decide +kernel
theorem sx_245 : shp[245]? = some (0, 16000, 0, 0) := by decide +kernel
theorem sx_246 : shp[246]? = some (0, 16000, 0, 0) := by decide +kernel
theorem sx_247 : shp[247]? = some (1, 400, 0, 0) := by decide +kernel
theorem sx_248 : shp[248]? = some (0, 16000, 0, 0) := by decide +kernel
theorem sx_249 : shp[249]? = some (0, 16000, 0, 0) := by decide +kernel
theorem sx_250 : shp[250]? = some (1, 240000, 0, 0) := by decide +kernel
theorem sx_251 : shp[251]? = some (0, 240000, 0, 0) := by decide +kernel
theorem sx_252 : shp[252]? = some (0, 30, 0, 0) := by decide +kernel
theorem sx_253 : shp[253]? = some (1, 400, 0, 0) := by decide +kernel
theorem sx_254 : shp[254]? = some (1, 7, 0, 0) := by decide +kernel
theorem sx_255 : shp[255]? = some (7, 0, 0, 0) := by decide +kernel
theorem sx_256 : shp[256]? = some (0, 10, 0, 0) := by decide +kernel
theorem sx_257 : shp[257]? = some (0, 30, 0, 0) := by decide +kernel
theorem sx_258 : shp[258]? = some (0, 30, 0, 0) := by decide +kernel
theorem sx_259 : shp[259]? = some (0, 180, 0, 0) := by decide +kernel
theorem sx_260 : shp[260]? = some (1, 10, 0, 0) := by decide +kernel
theorem sx_261 : shp[261]? = some (0, 10, 0, 0) := by decide +kernel
theorem sx_262 : shp[262]? = some (0, 10, 0, 0) := by decide +kernel
theorem sx_263 : shp[263]? = some (0, 10, 0, 0) := by decide +kernel
theorem sx_264 : shp[264]? = some (10, 0, 0, 0) := by decide +kernel
theorem sx_265 : shp[265]? = some (0, 400, 0, 0) := by decide +kernel
theorem sx_266 : shp[266]? = some (0, 16000, 0, 0) := by decide +kernel
theorem sx_267 : shp[267]? = some (0, 16000, 0, 0) := by decide +kernel
theorem sx_268 : shp[268]? = some (1, 16000, 0, 0) := by decide +kernel
theorem sx_269 : shp[269]? = some (1, 7, 0, 0) := by decide +kernel
theorem sx_270 : shp[270]? = some (1, 280, 0, 0) := by decide +kernel
theorem sx_271 : shp[271]? = some (17, 0, 0, 0) := by decide +kernel
theorem sx_272 : shp[272]? = some (0, 300, 0, 0) := by decide +kernel
theorem sx_273 : shp[273]? = some (0, 40, 0, 0) := by decide +kernel
theorem sx_274 : shp[274]? = some (0, 10, 0, 0) := by decide +kernel
theorem sx_275 : shp[275]? = some (0, 30, 0, 0) := by decide +kernel
theorem sx_276 : shp[276]? = some (0, 30, 0, 0) := by decide +kernel
theorem sx_277 : shp[277]? = some (0, 180, 0, 0) := by decide +kernel
theorem sx_278 : shp[278]? = some (0, 10, 0, 0) := by decide +kernel
theorem sx_279 : shp[279]? = some (0, 30, 0, 0) := by decide +kernel
theorem sx_280 : shp[280]? = some (0, 30, 0, 0) := by decide +kernel
theorem sx_281 : shp[281]? = some (0, 180, 0, 0) := by decide +kernel
theorem sx_282 : shp[282]? = some (0, 180, 0, 0) := by decide +kernel
theorem sx_283 : shp[283]? = some (2, 10, 0, 0) := by decide +kernel
theorem sx_284 : shp[284]? = some (2, 10, 0, 0) := by decide +kernel
theorem sx_285 : shp[285]? = some (2, 10, 0, 0) := by decide +kernel
theorem sx_286 : shp[286]? = some (2, 10, 0, 0) := by decide +kernel
theorem sx_287 : shp[287]? = some (2, 10, 0, 0) := by decide +kernel
theorem sx_288 : shp[288]? = some (1, 10, 0, 0) := by decide +kernel
theorem sx_289 : shp[289]? = some (1, 10, 0, 0) := by decide +kernel
theorem sx_290 : shp[290]? = some (2, 100, 0, 0) := by decide +kernel
theorem sx_291 : shp[291]? = some (2, 100, 0, 0) := by decide +kernel
theorem sx_292 : shp[292]? = some (1, 10, 0, 0) := by decide +kernel
theorem sx_293 : shp[293]? = some (2, 100, 0, 0) := by decide +kernel
theorem sx_294 : shp[294]? = some (2, 10, 0, 0) := by decide +kernel
theorem sx_295 : shp[295]? = some (0, 10, 0, 0) := by decide +kernel
theorem sx_296 : shp[296]? = some (1, 16810, 0, 0) := by decide +kernel
theorem sx_297 : shp[297]? = some (1, 287, 0, 0) := by decide +kernel
theorem sx_298 : shp[298]? = some (1, 100, 0, 0) := by decide +kernel
theorem sx_299 : shp[299]? = some (1, 10, 0, 0) := by decide +kernel
theorem sx_300 : shp[300]? = some (2, 10, 0, 0) := by decide +kernel
theorem sx_301 : shp[301]? = some (0, 100, 0, 0) := by decide +kernel
theorem sx_302 : shp[302]? = some (0, 40000, 0, 0) := by decide +kernel
theorem sx_303 : shp[303]? = some (2, 4000, 0, 0) := by decide +kernel
theorem sx_304 : shp[304]? = some (0, 2001, 0, 0) := by decide +kernel
theorem sx_305 : shp[305]? = some (1, 2001, 0, 0) := by decide +kernel
theorem sx_306 : shp[306]? = some (0, 20010, 0, 0) := by decide +kernel
theorem sx_307 : shp[307]? = some (2, 2001, 0, 0) := by decide +kernel
theorem sx_308 : shp[308]? = some (0, 8192, 0, 0) := by decide +kernel
theorem sx_309 : shp[309]? = some (0, 2001, 0, 0) := by decide +kernel
theorem sx_310 : shp[310]? = some (0, 2001, 0, 0) := by decide +kernel
theorem sx_311 : shp[311]? = some (0, 42, 0, 0) := by decide +kernel
theorem sx_312 : shp[312]? = some (0, 42, 0, 0) := by decide +kernel
theorem sx_313 : shp[313]? = some (0, 42, 0, 0) := by decide +kernel
theorem sx_314 : shp[314]? = some (0, 17, 0, 0) := by decide +kernel
theorem sx_315 : shp[315]? = some (0, 17, 0, 0) := by decide +kernel
theorem sx_316 : shp[316]? = some (0, 17, 0, 0) := by decide +kernel
theorem sx_317 : shp[317]? = some (0, 17, 0, 0) := by decide +kernel
theorem sx_318 : shp[318]? = some (0, 17, 0, 0) := by decide +kernel
theorem sx_319 : shp[319]? = some (0, 17, 0, 0) := by decide +kernel
theorem sx_320 : shp[320]? = some (0, 100, 0, 0) := by decide +kernel
theorem sx_321 : shp[321]? = some (0, 1600, 0, 0) := by decide +kernel
theorem sx_322 : shp[322]? = some (0, 1600, 0, 0) := by decide +kernel
theorem sx_323 : shp[323]? = some (0, 1600, 0, 0) := by decide +kernel
theorem sx_324 : shp[324]? = some (1, 16000, 0, 0) := by decide +kernel
theorem sx_325 : shp[325]? = some (0, 16000, 0, 0) := by decide +kernel
theorem sx_326 : shp[326]? = some (1, 48000, 0, 0) := by decide +kernel
theorem sx_327 : shp[327]? = some (0, 48000, 0, 0) := by decide +kernel
theorem sx_328 : shp[328]? = some (1, 280, 0, 0) := by decide +kernel
theorem sx_329 : shp[329]? = some (0, 280, 0, 0) := by decide +kernel
theorem sx_330 : shp[330]? = some (0, 280, 0, 0) := by decide +kernel
theorem sx_331 : shp[331]? = some (0, 16000, 0, 0) := by decide +kernel
theorem sx_332 : shp[332]? = some (0, 112000, 0, 0) := by decide +kernel
theorem sx_333 : shp[333]? = some (1, 16000, 0, 0) := by decide +kernel
theorem sx_334 : shp[334]? = some (1, 16000, 0, 0) := by decide +kernel
theorem sx_335 : shp[335]? = some (0, 16000, 0, 0) := by decide +kernel
theorem sx_336 : shp[336]? = some (0, 30, 0, 0) := by decide +kernel
theorem sx_337 : shp[337]? = some (0, 30, 0, 0) := by decide +kernel
theorem sx_338 : shp[338]? = some (0, 180, 0, 0) := by decide +kernel
theorem sx_339 : shp[339]? = some (0, 120000, 0, 0) := by decide +kernel
theorem sx_340 : shp[340]? = some (2, 16000, 0, 0) := by decide +kernel
theorem sx_341 : shp[341]? = some (2, 16000, 0, 0) := by decide +kernel
theorem sx_342 : shp[342]? = some (1, 280, 0, 0) := by decide +kernel
theorem sx_343 : shp[343]? = some (0, 280, 0, 0) := by decide +kernel
theorem sx_344 : shp[344]? = some (0, 280, 0, 0) := by decide +kernel
theorem sx_345 : shp[345]? = some (1, 280, 0, 0) := by decide +kernel
theorem sa_2_2 {a : Nat} (h : isO a 2) : shp[a + 1]? = some (0, 10, 0, 0) := sh_all (by decide +kernel) h
theorem sa_2_3 {a : Nat} (h : isO a 2) : shp[a + 2]? = some (0, 30, 0, 0) := sh_all (by decide +kernel) h
theorem sa_2_4 {a : Nat} (h : isO a 2) : shp[a + 3]? = some (0, 30, 0, 0) := sh_all (by decide +kernel) h
theorem sa_2_5 {a : Nat} (h : isO a 2) : shp[a + 4]? = some (0, 180, 0, 0) := sh_all (by decide +kernel) h
theorem sa_2_9 {a : Nat} (h : isO a 2) : shp[a + 5]? = some (1, 10, 0, 0) := sh_all (by decide +kernel) h
theorem sa_2_10 {a : Nat} (h : isO a 2) : shp[a + 6]? = some (0, 10, 0, 0) := sh_all (by decide +kernel) h
theorem sa_2_11 {a : Nat} (h : isO a 2) : shp[a + 7]? = some (0, 10, 0, 0) := sh_all (by decide +kernel) h
theorem sa_2_12 {a : Nat} (h : isO a 2) : shp[a + 8]? = some (0, 10, 0, 0) := sh_all (by decide +kernel) h
theorem sa_5_2 {a : Nat} (h : isO a 5) : shp[a + 1]? = some (0, 400, 0, 0) := sh_all (by decide +kernel) h
theorem sa_9_1 {a : Nat} (h : isO a 9) : shp[a + 1]? = some (1, 400, 0, 0) := sh_all (by decide +kernel) h
theorem sa_9_4 {a : Nat} (h : isO a 9) : shp[a + 13]? = some (1, 7, 0, 0) := sh_all (by decide +kernel) h
theorem sa_9_5 {a : Nat} (h : isO a 9) : shp[a + 14]? = some (1, 400, 0, 0) := sh_all (by decide +kernel) h
theorem sa_9_6 {a : Nat} (h : isO a 9) : shp[a + 15]? = some (0, 400, 0, 0) := sh_all (by decide +kernel) h
theorem sa_9_7 {a : Nat} (h : isO a 9) : shp[a + 16]? = some (2, 400, 0, 0) := sh_all (by decide +kernel) h
theorem sa_9_10 {a : Nat} (h : isO a 9) : shp[a + 17]? = some (1, 40, 0, 0) := sh_all (by decide +kernel) h
theorem sa_9_11 {a : Nat} (h : isO a 9) : shp[a + 18]? = some (1, 40, 0, 0) := sh_all (by decide +kernel) h
theorem sr_58 {i : Int} (h0 : 0 ≤ i) (h1 : i < 2) : isO (59 + 2 * i.toNat) 5 := sr_of (by decide +kernel) h0 h1
theorem sr_82 {i : Int} (h0 : 0 ≤ i) (h1 : i < 16) : isO (89 + 6 * i.toNat) 5 := sr_of (by decide +kernel) h0 h1
theorem sr_83 {i : Int} (h0 : 0 ≤ i) (h1 : i < 16) : isO (91 + 6 * i.toNat) 5 := sr_of (by decide +kernel) h0 h1
theorem sr_84 {i : Int} (h0 : 0 ≤ i) (h1 : i < 16) : isO (93 + 6 * i.toNat) 5 := sr_of (by decide +kernel) h0 h1
theorem sr_192 {i : Int} (h0 : 0 ≤ i) (h1 : i < 2) : isO (193 + 19 * i.toNat) 9 := sr_of (by decide +kernel) h0 h1
theorem con_0_170 : ev_con 0 170 = some (.long (-1), 5002) := rfl
theorem con_0_188 : ev_con 0 188 = some (.long 9000000000000000000, 4034) := rfl
theorem con_0_190 : ev_con 0 190 = some (.long (-2), 5003) := rfl
theorem con_0_278 : ev_con 0 278 = some (.long 40, 6146) := rfl
theorem con_0_310 : ev_con 0 310 = some (.long 4000000000000000000, 4035) := rfl
theorem con_2_86 : ev_con 2 86 = some (.long 9000000000000000000, 4023) := rfl
theorem con_4_120 : ev_con 4 120 = some (.long 9000000000000000000, 5033) := rfl
theorem con_5_33 : ev_con 5 33 = some (.long 2, 4210) := rfl
theorem con_5_39 : ev_con 5 39 = some (.long (-1), 4180) := rfl
theorem con_7_102 : ev_con 7 102 = some (.long 40, 4120) := rfl
theorem con_7_104 : ev_con 7 104 = some (.long (-7046029254386353131), 4121) := rfl
theorem con_9_110 : ev_con 9 110 = some (.long (-1), 6173) := rfl
theorem con_10_122 : ev_con 10 122 = some (.long 9000000000000000000, 6055) := rfl
theorem con_10_174 : ev_con 10 174 = some (.long (-2), 6132) := rfl
theorem con_10_182 : ev_con 10 182 = some (.long (-1), 6141) := rfl
theorem con_11_49 : ev_con 11 49 = some (.int 240000, 2227) := rfl
theorem con_11_111 : ev_con 11 111 = some (.long 9000000000000000000, 5187) := rfl
theorem con_11_131 : ev_con 11 131 = some (.long 4000000000000000000, 5197) := rfl
theorem con_11_202 : ev_con 11 202 = some (.long (-1), 6036) := rfl
theorem con_12_102 : ev_con 12 102 = some (.int 40000, 6209) := rfl
theorem con_12_175 : ev_con 12 175 = some (.int 48000, 6210) := rfl
theorem con_12_194 : ev_con 12 194 = some (.int 112000, 6211) := rfl
theorem con_12_216 : ev_con 12 216 = some (.int 120000, 6212) := rfl
theorem con_12_242 : ev_con 12 242 = some (.long 5000000000000000000, 8074) := rfl
theorem con_12_244 : ev_con 12 244 = some (.long 4000000000000000000, 8075) := rfl
theorem con_12_246 : ev_con 12 246 = some (.long 32, 8015) := rfl
theorem con_12_248 : ev_con 12 248 = some (.long 126, 8016) := rfl
theorem con_12_312 : ev_con 12 312 = some (.long 4000000000000000001, 8062) := rfl
theorem con_12_331 : ev_con 12 331 = some (.long (-1), 8096) := rfl
theorem con_12_333 : ev_con 12 333 = some (.long (-2), 8097) := rfl
theorem con_12_373 : ev_con 12 373 = some (.long 40, 8143) := rfl
theorem con_12_390 : ev_con 12 390 = some (.long 1000003, 8191) := rfl
theorem con_12_392 : ev_con 12 392 = some (.long 31, 8192) := rfl
theorem con_12_476 : ev_con 12 476 = some (.long 9, 9017) := rfl
theorem con_12_478 : ev_con 12 478 = some (.long 3, 9030) := rfl
theorem con_12_487 : ev_con 12 487 = some (.long 6000000000000000000, 9046) := rfl
theorem con_12_489 : ev_con 12 489 = some (.int 1000000, 9055) := rfl
theorem con_12_544 : ev_con 12 544 = some (.long 6, 9106) := rfl
theorem con_12_553 : ev_con 12 553 = some (.long 2, 9116) := rfl
theorem con_13_79 : ev_con 13 79 = some (.long 4294967295, 9133) := rfl
theorem con_17_314 : ev_con 17 314 = some (.long 6148914691236517205, 6162) := rfl
theorem con_17_316 : ev_con 17 316 = some (.long 3689348814741910323, 6163) := rfl
theorem con_17_318 : ev_con 17 318 = some (.long 1085102592571150095, 6164) := rfl
theorem con_18_264 : ev_con 18 264 = some (.int 65536, 4143) := rfl
theorem cls_13_7 : ev_cls 13 7 = some (0, 1019) := by decide +kernel
theorem cls_0_7 : ev_cls 0 7 = some (1, 1027) := by decide +kernel
theorem cls_0_20 : ev_cls 0 20 = some (2, 1057) := by decide +kernel
theorem cls_0_30 : ev_cls 0 30 = some (3, 1133) := by decide +kernel
theorem cls_3_18 : ev_cls 3 18 = some (2, 1139) := by decide +kernel
theorem cls_0_37 : ev_cls 0 37 = some (4, 1157) := by decide +kernel
theorem cls_4_9 : ev_cls 4 9 = some (2, 1163) := by decide +kernel
theorem cls_0_44 : ev_cls 0 44 = some (5, 1220) := by decide +kernel
theorem cls_0_51 : ev_cls 0 51 = some (6, 2004) := by decide +kernel
theorem cls_6_9 : ev_cls 6 9 = some (7, 2010) := by decide +kernel
theorem cls_7_9 : ev_cls 7 9 = some (5, 2016) := by decide +kernel
theorem cls_6_18 : ev_cls 6 18 = some (5, 2071) := by decide +kernel
theorem cls_0_58 : ev_cls 0 58 = some (8, 2128) := by decide +kernel
theorem cls_8_25 : ev_cls 8 25 = some (5, 2134) := by decide +kernel
theorem cls_0_65 : ev_cls 0 65 = some (9, 2161) := by decide +kernel
theorem cls_9_15 : ev_cls 9 15 = some (2, 2168) := by decide +kernel
theorem cls_9_22 : ev_cls 9 22 = some (5, 2170) := by decide +kernel
theorem cls_0_72 : ev_cls 0 72 = some (10, 2211) := by decide +kernel
theorem cls_10_9 : ev_cls 10 9 = some (11, 2217) := by decide +kernel
theorem cls_11_9 : ev_cls 11 9 = some (2, 2223) := by decide +kernel
theorem cls_11_18 : ev_cls 11 18 = some (5, 2225) := by decide +kernel
theorem cls_10_18 : ev_cls 10 18 = some (2, 3046) := by decide +kernel
theorem cls_10_25 : ev_cls 10 25 = some (5, 3048) := by decide +kernel
theorem cls_13_10 : ev_cls 13 10 = some (12, 6203) := by decide +kernel
