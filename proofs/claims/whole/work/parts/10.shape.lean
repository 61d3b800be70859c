/-! the cells that both constructors make, in their order: what each is, and which references never change -/
def mm_SH : mm_S := [(16, 19), (0, 1600), (0, 6), (0, 45), (7, 3), (11, 15), (0, 0), (0, 0), (12, 11), (0, 42), (0, 7), (0, 7), (0, 64), (0, 1608), (0, 5), (0, 5), (5, 3), (11, 15), (0, 0), (0, 0), (0, 1608), (6, 5), (12, 11), (0, 42), (0, 7), (0, 7), (0, 64), (0, 1608), (0, 5), (0, 5), (10, 4), (0, 24), (0, 7), (0, 7), (0, 64), (0, 7), (0, 7), (14, 7), (0, 7), (0, 7), (0, 64), (0, 40), (14, 7), (0, 7), (0, 7), (0, 64), (0, 40), (9, 3), (4, 20), (14, 7), (0, 7), (0, 7), (0, 64), (0, 40), (14, 7), (0, 7), (0, 7), (0, 64), (0, 40), (14, 7), (0, 7), (0, 7), (0, 64), (0, 40), (14, 7), (0, 7), (0, 7), (0, 64), (0, 40), (14, 7), (0, 7), (0, 7), (0, 64), (0, 40), (14, 7), (0, 7), (0, 7), (0, 64), (0, 40), (14, 7), (0, 7), (0, 7), (0, 64), (0, 40), (14, 7), (0, 7), (0, 7), (0, 64), (0, 40), (14, 7), (0, 7), (0, 7), (0, 64), (0, 40), (14, 7), (0, 7), (0, 7), (0, 64), (0, 40), (14, 7), (0, 7), (0, 7), (0, 64), (0, 40), (14, 7), (0, 7), (0, 7), (0, 64), (0, 40), (14, 7), (0, 7), (0, 7), (0, 64), (0, 40), (14, 7), (0, 7), (0, 7), (0, 64), (0, 40), (14, 7), (0, 7), (0, 7), (0, 64), (0, 40), (14, 7), (0, 7), (0, 7), (0, 64), (0, 40), (14, 7), (0, 7), (0, 7), (0, 64), (0, 40), (14, 7), (0, 7), (0, 7), (0, 64), (0, 40), (14, 7), (0, 7), (0, 7), (0, 64), (0, 40), (14, 7), (0, 7), (0, 7), (0, 64), (0, 40), (15, 11), (0, 7), (0, 3), (0, 1024), (0, 64), (0, 7), (0, 128), (8, 6), (0, 10), (0, 896), (13, 15), (0, 48), (0, 100), (1, 3100), (0, 128), (17, 116), (0, 1600), (0, 6), (2, 4), (2, 5), (2, 5), (2, 4), (2, 4), (2, 4), (2, 4), (2, 5), (2, 6), (2, 7), (2, 5), (2, 5), (2, 6), (2, 3), (2, 6), (2, 6), (2, 6), (2, 5), (2, 2), (2, 3), (2, 3), (2, 3), (2, 3), (2, 3), (0, 4), (1, 14), (0, 7), (0, 14), (0, 21), (0, 10), (0, 10), (0, 3200), (0, 204), (0, 43), (1, 49), (0, 7), (0, 7), (0, 21), (0, 1024), (0, 1024), (0, 7), (0, 21), (0, 21), (0, 3), (0, 896), (0, 48), (0, 21700), (3, 100), (0, 101), (0, 4080), (2, 5), (2, 4), (2, 5), (2, 5), (2, 4), (2, 5), (2, 3), (2, 3), (2, 2), (2, 3), (2, 3), (2, 3), (2, 5), (2, 4), (2, 6), (2, 3), (2, 4), (2, 6), (2, 6), (2, 5), (2, 4), (2, 6), (0, 1700), (0, 1700), (1, 1700), (0, 45)]
def mm_FIN : List (Nat × Nat × Nat) := [(0, 0, 1), (0, 2, 2), (0, 6, 3), (0, 8, 4), (0, 9, 16), (0, 10, 21), (0, 12, 37), (0, 13, 42), (0, 14, 47), (0, 15, 149), (0, 16, 156), (0, 17, 159), (4, 0, 5), (8, 4, 9), (8, 5, 10), (8, 6, 11), (8, 7, 12), (8, 8, 13), (8, 9, 14), (8, 10, 15), (16, 0, 17), (16, 1, 20), (21, 1, 30), (21, 2, 35), (21, 3, 36), (22, 4, 23), (22, 5, 24), (22, 6, 25), (22, 7, 26), (22, 8, 27), (22, 9, 28), (22, 10, 29), (30, 0, 31), (30, 1, 32), (30, 2, 33), (30, 3, 34), (37, 3, 38), (37, 4, 39), (37, 5, 40), (37, 6, 41), (42, 3, 43), (42, 4, 44), (42, 5, 45), (42, 6, 46), (47, 0, 48), (48, 0, 49), (48, 1, 54), (48, 2, 59), (48, 3, 64), (48, 4, 69), (48, 5, 74), (48, 6, 79), (48, 7, 84), (48, 8, 89), (48, 9, 94), (48, 10, 99), (48, 11, 104), (48, 12, 109), (48, 13, 114), (48, 14, 119), (48, 15, 124), (48, 16, 129), (48, 17, 134), (48, 18, 139), (48, 19, 144), (49, 3, 50), (49, 4, 51), (49, 5, 52), (49, 6, 53), (54, 3, 55), (54, 4, 56), (54, 5, 57), (54, 6, 58), (59, 3, 60), (59, 4, 61), (59, 5, 62), (59, 6, 63), (64, 3, 65), (64, 4, 66), (64, 5, 67), (64, 6, 68), (69, 3, 70), (69, 4, 71), (69, 5, 72), (69, 6, 73), (74, 3, 75), (74, 4, 76), (74, 5, 77), (74, 6, 78), (79, 3, 80), (79, 4, 81), (79, 5, 82), (79, 6, 83), (84, 3, 85), (84, 4, 86), (84, 5, 87), (84, 6, 88), (89, 3, 90), (89, 4, 91), (89, 5, 92), (89, 6, 93), (94, 3, 95), (94, 4, 96), (94, 5, 97), (94, 6, 98), (99, 3, 100), (99, 4, 101), (99, 5, 102), (99, 6, 103), (104, 3, 105), (104, 4, 106), (104, 5, 107), (104, 6, 108), (109, 3, 110), (109, 4, 111), (109, 5, 112), (109, 6, 113), (114, 3, 115), (114, 4, 116), (114, 5, 117), (114, 6, 118), (119, 3, 120), (119, 4, 121), (119, 5, 122), (119, 6, 123), (124, 3, 125), (124, 4, 126), (124, 5, 127), (124, 6, 128), (129, 3, 130), (129, 4, 131), (129, 5, 132), (129, 6, 133), (134, 3, 135), (134, 4, 136), (134, 5, 137), (134, 6, 138), (139, 3, 140), (139, 4, 141), (139, 5, 142), (139, 6, 143), (144, 3, 145), (144, 4, 146), (144, 5, 147), (144, 6, 148), (149, 2, 150), (149, 4, 151), (149, 7, 152), (149, 8, 153), (149, 9, 154), (149, 10, 155), (156, 1, 157), (156, 5, 158), (159, 7, 160), (159, 8, 161), (159, 9, 162), (159, 10, 163), (164, 0, 165), (164, 9, 166), (164, 11, 167), (164, 12, 168), (164, 13, 169), (164, 14, 170), (164, 15, 171), (164, 16, 172), (164, 17, 173), (164, 18, 174), (164, 19, 175), (164, 20, 176), (164, 21, 177), (164, 22, 178), (164, 23, 179), (164, 24, 180), (164, 25, 181), (164, 26, 182), (164, 27, 183), (164, 28, 184), (164, 29, 185), (164, 30, 186), (164, 31, 187), (164, 32, 188), (164, 33, 189), (164, 34, 190), (164, 36, 191), (164, 39, 192), (164, 40, 193), (164, 41, 194), (164, 42, 195), (164, 43, 196), (164, 44, 197), (164, 45, 198), (164, 50, 199), (164, 51, 200), (164, 56, 201), (164, 61, 202), (164, 62, 203), (164, 63, 204), (164, 64, 205), (164, 65, 206), (164, 67, 207), (164, 68, 208), (164, 69, 209), (164, 70, 210), (164, 71, 211), (164, 73, 212), (164, 74, 213), (164, 75, 214), (164, 77, 215), (164, 78, 216), (164, 82, 217), (164, 83, 218), (164, 84, 219), (164, 85, 220), (164, 86, 221), (164, 87, 222), (164, 88, 223), (164, 89, 224), (164, 90, 225), (164, 91, 226), (164, 92, 227), (164, 93, 228), (164, 94, 229), (164, 95, 230), (164, 96, 231), (164, 97, 232), (164, 98, 233), (164, 99, 234), (164, 100, 235), (164, 101, 236), (164, 102, 237), (164, 103, 238), (164, 104, 239), (164, 106, 240), (164, 110, 241), (164, 114, 242)]
def mm_G (f : Nat → Nat → Option Nat) : Prop := ∀ q ∈ mm_FIN, f q.1 q.2.1 = some q.2.2
theorem sh_0 : mm_SH[0]? = some (16, 19) := rfl
theorem sh_1 : mm_SH[1]? = some (0, 1600) := rfl
theorem sh_2 : mm_SH[2]? = some (0, 6) := rfl
theorem sh_3 : mm_SH[3]? = some (0, 45) := rfl
theorem sh_4 : mm_SH[4]? = some (7, 3) := rfl
theorem sh_5 : mm_SH[5]? = some (11, 15) := rfl
theorem sh_6 : mm_SH[6]? = some (0, 0) := rfl
theorem sh_7 : mm_SH[7]? = some (0, 0) := rfl
theorem sh_8 : mm_SH[8]? = some (12, 11) := rfl
theorem sh_9 : mm_SH[9]? = some (0, 42) := rfl
theorem sh_10 : mm_SH[10]? = some (0, 7) := rfl
theorem sh_11 : mm_SH[11]? = some (0, 7) := rfl
theorem sh_12 : mm_SH[12]? = some (0, 64) := rfl
theorem sh_13 : mm_SH[13]? = some (0, 1608) := rfl
theorem sh_14 : mm_SH[14]? = some (0, 5) := rfl
theorem sh_15 : mm_SH[15]? = some (0, 5) := rfl
theorem sh_16 : mm_SH[16]? = some (5, 3) := rfl
theorem sh_17 : mm_SH[17]? = some (11, 15) := rfl
theorem sh_18 : mm_SH[18]? = some (0, 0) := rfl
theorem sh_19 : mm_SH[19]? = some (0, 0) := rfl
theorem sh_20 : mm_SH[20]? = some (0, 1608) := rfl
theorem sh_21 : mm_SH[21]? = some (6, 5) := rfl
theorem sh_22 : mm_SH[22]? = some (12, 11) := rfl
theorem sh_23 : mm_SH[23]? = some (0, 42) := rfl
theorem sh_24 : mm_SH[24]? = some (0, 7) := rfl
theorem sh_25 : mm_SH[25]? = some (0, 7) := rfl
theorem sh_26 : mm_SH[26]? = some (0, 64) := rfl
theorem sh_27 : mm_SH[27]? = some (0, 1608) := rfl
theorem sh_28 : mm_SH[28]? = some (0, 5) := rfl
theorem sh_29 : mm_SH[29]? = some (0, 5) := rfl
theorem sh_30 : mm_SH[30]? = some (10, 4) := rfl
theorem sh_31 : mm_SH[31]? = some (0, 24) := rfl
theorem sh_32 : mm_SH[32]? = some (0, 7) := rfl
theorem sh_33 : mm_SH[33]? = some (0, 7) := rfl
theorem sh_34 : mm_SH[34]? = some (0, 64) := rfl
theorem sh_35 : mm_SH[35]? = some (0, 7) := rfl
theorem sh_36 : mm_SH[36]? = some (0, 7) := rfl
theorem sh_37 : mm_SH[37]? = some (14, 7) := rfl
theorem sh_38 : mm_SH[38]? = some (0, 7) := rfl
theorem sh_39 : mm_SH[39]? = some (0, 7) := rfl
theorem sh_40 : mm_SH[40]? = some (0, 64) := rfl
theorem sh_41 : mm_SH[41]? = some (0, 40) := rfl
theorem sh_42 : mm_SH[42]? = some (14, 7) := rfl
theorem sh_43 : mm_SH[43]? = some (0, 7) := rfl
theorem sh_44 : mm_SH[44]? = some (0, 7) := rfl
theorem sh_45 : mm_SH[45]? = some (0, 64) := rfl
theorem sh_46 : mm_SH[46]? = some (0, 40) := rfl
theorem sh_47 : mm_SH[47]? = some (9, 3) := rfl
theorem sh_48 : mm_SH[48]? = some (4, 20) := rfl
theorem sh_49 : mm_SH[49]? = some (14, 7) := rfl
theorem sh_50 : mm_SH[50]? = some (0, 7) := rfl
theorem sh_51 : mm_SH[51]? = some (0, 7) := rfl
theorem sh_52 : mm_SH[52]? = some (0, 64) := rfl
theorem sh_53 : mm_SH[53]? = some (0, 40) := rfl
theorem sh_54 : mm_SH[54]? = some (14, 7) := rfl
theorem sh_55 : mm_SH[55]? = some (0, 7) := rfl
theorem sh_56 : mm_SH[56]? = some (0, 7) := rfl
theorem sh_57 : mm_SH[57]? = some (0, 64) := rfl
theorem sh_58 : mm_SH[58]? = some (0, 40) := rfl
theorem sh_59 : mm_SH[59]? = some (14, 7) := rfl
theorem sh_60 : mm_SH[60]? = some (0, 7) := rfl
theorem sh_61 : mm_SH[61]? = some (0, 7) := rfl
theorem sh_62 : mm_SH[62]? = some (0, 64) := rfl
theorem sh_63 : mm_SH[63]? = some (0, 40) := rfl
theorem sh_64 : mm_SH[64]? = some (14, 7) := rfl
theorem sh_65 : mm_SH[65]? = some (0, 7) := rfl
theorem sh_66 : mm_SH[66]? = some (0, 7) := rfl
theorem sh_67 : mm_SH[67]? = some (0, 64) := rfl
theorem sh_68 : mm_SH[68]? = some (0, 40) := rfl
theorem sh_69 : mm_SH[69]? = some (14, 7) := rfl
theorem sh_70 : mm_SH[70]? = some (0, 7) := rfl
theorem sh_71 : mm_SH[71]? = some (0, 7) := rfl
theorem sh_72 : mm_SH[72]? = some (0, 64) := rfl
theorem sh_73 : mm_SH[73]? = some (0, 40) := rfl
theorem sh_74 : mm_SH[74]? = some (14, 7) := rfl
theorem sh_75 : mm_SH[75]? = some (0, 7) := rfl
theorem sh_76 : mm_SH[76]? = some (0, 7) := rfl
theorem sh_77 : mm_SH[77]? = some (0, 64) := rfl
theorem sh_78 : mm_SH[78]? = some (0, 40) := rfl
theorem sh_79 : mm_SH[79]? = some (14, 7) := rfl
theorem sh_80 : mm_SH[80]? = some (0, 7) := rfl
theorem sh_81 : mm_SH[81]? = some (0, 7) := rfl
theorem sh_82 : mm_SH[82]? = some (0, 64) := rfl
theorem sh_83 : mm_SH[83]? = some (0, 40) := rfl
theorem sh_84 : mm_SH[84]? = some (14, 7) := rfl
theorem sh_85 : mm_SH[85]? = some (0, 7) := rfl
theorem sh_86 : mm_SH[86]? = some (0, 7) := rfl
theorem sh_87 : mm_SH[87]? = some (0, 64) := rfl
theorem sh_88 : mm_SH[88]? = some (0, 40) := rfl
theorem sh_89 : mm_SH[89]? = some (14, 7) := rfl
theorem sh_90 : mm_SH[90]? = some (0, 7) := rfl
theorem sh_91 : mm_SH[91]? = some (0, 7) := rfl
theorem sh_92 : mm_SH[92]? = some (0, 64) := rfl
theorem sh_93 : mm_SH[93]? = some (0, 40) := rfl
theorem sh_94 : mm_SH[94]? = some (14, 7) := rfl
theorem sh_95 : mm_SH[95]? = some (0, 7) := rfl
theorem sh_96 : mm_SH[96]? = some (0, 7) := rfl
theorem sh_97 : mm_SH[97]? = some (0, 64) := rfl
theorem sh_98 : mm_SH[98]? = some (0, 40) := rfl
theorem sh_99 : mm_SH[99]? = some (14, 7) := rfl
theorem sh_100 : mm_SH[100]? = some (0, 7) := rfl
theorem sh_101 : mm_SH[101]? = some (0, 7) := rfl
theorem sh_102 : mm_SH[102]? = some (0, 64) := rfl
theorem sh_103 : mm_SH[103]? = some (0, 40) := rfl
theorem sh_104 : mm_SH[104]? = some (14, 7) := rfl
theorem sh_105 : mm_SH[105]? = some (0, 7) := rfl
theorem sh_106 : mm_SH[106]? = some (0, 7) := rfl
theorem sh_107 : mm_SH[107]? = some (0, 64) := rfl
theorem sh_108 : mm_SH[108]? = some (0, 40) := rfl
theorem sh_109 : mm_SH[109]? = some (14, 7) := rfl
theorem sh_110 : mm_SH[110]? = some (0, 7) := rfl
theorem sh_111 : mm_SH[111]? = some (0, 7) := rfl
theorem sh_112 : mm_SH[112]? = some (0, 64) := rfl
theorem sh_113 : mm_SH[113]? = some (0, 40) := rfl
theorem sh_114 : mm_SH[114]? = some (14, 7) := rfl
theorem sh_115 : mm_SH[115]? = some (0, 7) := rfl
theorem sh_116 : mm_SH[116]? = some (0, 7) := rfl
theorem sh_117 : mm_SH[117]? = some (0, 64) := rfl
theorem sh_118 : mm_SH[118]? = some (0, 40) := rfl
theorem sh_119 : mm_SH[119]? = some (14, 7) := rfl
theorem sh_120 : mm_SH[120]? = some (0, 7) := rfl
theorem sh_121 : mm_SH[121]? = some (0, 7) := rfl
theorem sh_122 : mm_SH[122]? = some (0, 64) := rfl
theorem sh_123 : mm_SH[123]? = some (0, 40) := rfl
theorem sh_124 : mm_SH[124]? = some (14, 7) := rfl
theorem sh_125 : mm_SH[125]? = some (0, 7) := rfl
theorem sh_126 : mm_SH[126]? = some (0, 7) := rfl
theorem sh_127 : mm_SH[127]? = some (0, 64) := rfl
theorem sh_128 : mm_SH[128]? = some (0, 40) := rfl
theorem sh_129 : mm_SH[129]? = some (14, 7) := rfl
theorem sh_130 : mm_SH[130]? = some (0, 7) := rfl
theorem sh_131 : mm_SH[131]? = some (0, 7) := rfl
theorem sh_132 : mm_SH[132]? = some (0, 64) := rfl
theorem sh_133 : mm_SH[133]? = some (0, 40) := rfl
theorem sh_134 : mm_SH[134]? = some (14, 7) := rfl
theorem sh_135 : mm_SH[135]? = some (0, 7) := rfl
theorem sh_136 : mm_SH[136]? = some (0, 7) := rfl
theorem sh_137 : mm_SH[137]? = some (0, 64) := rfl
theorem sh_138 : mm_SH[138]? = some (0, 40) := rfl
theorem sh_139 : mm_SH[139]? = some (14, 7) := rfl
theorem sh_140 : mm_SH[140]? = some (0, 7) := rfl
theorem sh_141 : mm_SH[141]? = some (0, 7) := rfl
theorem sh_142 : mm_SH[142]? = some (0, 64) := rfl
theorem sh_143 : mm_SH[143]? = some (0, 40) := rfl
theorem sh_144 : mm_SH[144]? = some (14, 7) := rfl
theorem sh_145 : mm_SH[145]? = some (0, 7) := rfl
theorem sh_146 : mm_SH[146]? = some (0, 7) := rfl
theorem sh_147 : mm_SH[147]? = some (0, 64) := rfl
theorem sh_148 : mm_SH[148]? = some (0, 40) := rfl
theorem sh_149 : mm_SH[149]? = some (15, 11) := rfl
theorem sh_150 : mm_SH[150]? = some (0, 7) := rfl
theorem sh_151 : mm_SH[151]? = some (0, 3) := rfl
theorem sh_152 : mm_SH[152]? = some (0, 1024) := rfl
theorem sh_153 : mm_SH[153]? = some (0, 64) := rfl
theorem sh_154 : mm_SH[154]? = some (0, 7) := rfl
theorem sh_155 : mm_SH[155]? = some (0, 128) := rfl
theorem sh_156 : mm_SH[156]? = some (8, 6) := rfl
theorem sh_157 : mm_SH[157]? = some (0, 10) := rfl
theorem sh_158 : mm_SH[158]? = some (0, 896) := rfl
theorem sh_159 : mm_SH[159]? = some (13, 15) := rfl
theorem sh_160 : mm_SH[160]? = some (0, 48) := rfl
theorem sh_161 : mm_SH[161]? = some (0, 100) := rfl
theorem sh_162 : mm_SH[162]? = some (1, 3100) := rfl
theorem sh_163 : mm_SH[163]? = some (0, 128) := rfl
theorem sh_164 : mm_SH[164]? = some (17, 116) := rfl
theorem sh_165 : mm_SH[165]? = some (0, 1600) := rfl
theorem sh_166 : mm_SH[166]? = some (0, 6) := rfl
theorem sh_167 : mm_SH[167]? = some (2, 4) := rfl
theorem sh_168 : mm_SH[168]? = some (2, 5) := rfl
theorem sh_169 : mm_SH[169]? = some (2, 5) := rfl
theorem sh_170 : mm_SH[170]? = some (2, 4) := rfl
theorem sh_171 : mm_SH[171]? = some (2, 4) := rfl
theorem sh_172 : mm_SH[172]? = some (2, 4) := rfl
theorem sh_173 : mm_SH[173]? = some (2, 4) := rfl
theorem sh_174 : mm_SH[174]? = some (2, 5) := rfl
theorem sh_175 : mm_SH[175]? = some (2, 6) := rfl
theorem sh_176 : mm_SH[176]? = some (2, 7) := rfl
theorem sh_177 : mm_SH[177]? = some (2, 5) := rfl
theorem sh_178 : mm_SH[178]? = some (2, 5) := rfl
theorem sh_179 : mm_SH[179]? = some (2, 6) := rfl
theorem sh_180 : mm_SH[180]? = some (2, 3) := rfl
theorem sh_181 : mm_SH[181]? = some (2, 6) := rfl
theorem sh_182 : mm_SH[182]? = some (2, 6) := rfl
theorem sh_183 : mm_SH[183]? = some (2, 6) := rfl
theorem sh_184 : mm_SH[184]? = some (2, 5) := rfl
theorem sh_185 : mm_SH[185]? = some (2, 2) := rfl
theorem sh_186 : mm_SH[186]? = some (2, 3) := rfl
theorem sh_187 : mm_SH[187]? = some (2, 3) := rfl
theorem sh_188 : mm_SH[188]? = some (2, 3) := rfl
theorem sh_189 : mm_SH[189]? = some (2, 3) := rfl
theorem sh_190 : mm_SH[190]? = some (2, 3) := rfl
theorem sh_191 : mm_SH[191]? = some (0, 4) := rfl
theorem sh_192 : mm_SH[192]? = some (1, 14) := rfl
theorem sh_193 : mm_SH[193]? = some (0, 7) := rfl
theorem sh_194 : mm_SH[194]? = some (0, 14) := rfl
theorem sh_195 : mm_SH[195]? = some (0, 21) := rfl
theorem sh_196 : mm_SH[196]? = some (0, 10) := rfl
theorem sh_197 : mm_SH[197]? = some (0, 10) := rfl
theorem sh_198 : mm_SH[198]? = some (0, 3200) := rfl
theorem sh_199 : mm_SH[199]? = some (0, 204) := rfl
theorem sh_200 : mm_SH[200]? = some (0, 43) := rfl
theorem sh_201 : mm_SH[201]? = some (1, 49) := rfl
theorem sh_202 : mm_SH[202]? = some (0, 7) := rfl
theorem sh_203 : mm_SH[203]? = some (0, 7) := rfl
theorem sh_204 : mm_SH[204]? = some (0, 21) := rfl
theorem sh_205 : mm_SH[205]? = some (0, 1024) := rfl
theorem sh_206 : mm_SH[206]? = some (0, 1024) := rfl
theorem sh_207 : mm_SH[207]? = some (0, 7) := rfl
theorem sh_208 : mm_SH[208]? = some (0, 21) := rfl
theorem sh_209 : mm_SH[209]? = some (0, 21) := rfl
theorem sh_210 : mm_SH[210]? = some (0, 3) := rfl
theorem sh_211 : mm_SH[211]? = some (0, 896) := rfl
theorem sh_212 : mm_SH[212]? = some (0, 48) := rfl
theorem sh_213 : mm_SH[213]? = some (0, 21700) := rfl
theorem sh_214 : mm_SH[214]? = some (3, 100) := rfl
theorem sh_215 : mm_SH[215]? = some (0, 101) := rfl
theorem sh_216 : mm_SH[216]? = some (0, 4080) := rfl
theorem sh_217 : mm_SH[217]? = some (2, 5) := rfl
theorem sh_218 : mm_SH[218]? = some (2, 4) := rfl
theorem sh_219 : mm_SH[219]? = some (2, 5) := rfl
theorem sh_220 : mm_SH[220]? = some (2, 5) := rfl
theorem sh_221 : mm_SH[221]? = some (2, 4) := rfl
theorem sh_222 : mm_SH[222]? = some (2, 5) := rfl
theorem sh_223 : mm_SH[223]? = some (2, 3) := rfl
theorem sh_224 : mm_SH[224]? = some (2, 3) := rfl
theorem sh_225 : mm_SH[225]? = some (2, 2) := rfl
theorem sh_226 : mm_SH[226]? = some (2, 3) := rfl
theorem sh_227 : mm_SH[227]? = some (2, 3) := rfl
theorem sh_228 : mm_SH[228]? = some (2, 3) := rfl
theorem sh_229 : mm_SH[229]? = some (2, 5) := rfl
theorem sh_230 : mm_SH[230]? = some (2, 4) := rfl
theorem sh_231 : mm_SH[231]? = some (2, 6) := rfl
theorem sh_232 : mm_SH[232]? = some (2, 3) := rfl
theorem sh_233 : mm_SH[233]? = some (2, 4) := rfl
theorem sh_234 : mm_SH[234]? = some (2, 6) := rfl
theorem sh_235 : mm_SH[235]? = some (2, 6) := rfl
theorem sh_236 : mm_SH[236]? = some (2, 5) := rfl
theorem sh_237 : mm_SH[237]? = some (2, 4) := rfl
theorem sh_238 : mm_SH[238]? = some (2, 6) := rfl
theorem sh_239 : mm_SH[239]? = some (0, 1700) := rfl
theorem sh_240 : mm_SH[240]? = some (0, 1700) := rfl
theorem sh_241 : mm_SH[241]? = some (1, 1700) := rfl
theorem sh_242 : mm_SH[242]? = some (0, 45) := rfl
theorem g_0_0 {f : Nat → Nat → Option Nat} (h : mm_G f) : f 0 0 = some 1 := h (0, 0, 1) (by decide +kernel)
theorem g_0_2 {f : Nat → Nat → Option Nat} (h : mm_G f) : f 0 2 = some 2 := h (0, 2, 2) (by decide +kernel)
theorem g_0_6 {f : Nat → Nat → Option Nat} (h : mm_G f) : f 0 6 = some 3 := h (0, 6, 3) (by decide +kernel)
theorem g_0_8 {f : Nat → Nat → Option Nat} (h : mm_G f) : f 0 8 = some 4 := h (0, 8, 4) (by decide +kernel)
theorem g_0_9 {f : Nat → Nat → Option Nat} (h : mm_G f) : f 0 9 = some 16 := h (0, 9, 16) (by decide +kernel)
theorem g_0_10 {f : Nat → Nat → Option Nat} (h : mm_G f) : f 0 10 = some 21 := h (0, 10, 21) (by decide +kernel)
theorem g_0_12 {f : Nat → Nat → Option Nat} (h : mm_G f) : f 0 12 = some 37 := h (0, 12, 37) (by decide +kernel)
theorem g_0_13 {f : Nat → Nat → Option Nat} (h : mm_G f) : f 0 13 = some 42 := h (0, 13, 42) (by decide +kernel)
theorem g_0_14 {f : Nat → Nat → Option Nat} (h : mm_G f) : f 0 14 = some 47 := h (0, 14, 47) (by decide +kernel)
theorem g_0_15 {f : Nat → Nat → Option Nat} (h : mm_G f) : f 0 15 = some 149 := h (0, 15, 149) (by decide +kernel)
theorem g_0_16 {f : Nat → Nat → Option Nat} (h : mm_G f) : f 0 16 = some 156 := h (0, 16, 156) (by decide +kernel)
theorem g_0_17 {f : Nat → Nat → Option Nat} (h : mm_G f) : f 0 17 = some 159 := h (0, 17, 159) (by decide +kernel)
theorem g_4_0 {f : Nat → Nat → Option Nat} (h : mm_G f) : f 4 0 = some 5 := h (4, 0, 5) (by decide +kernel)
theorem g_8_4 {f : Nat → Nat → Option Nat} (h : mm_G f) : f 8 4 = some 9 := h (8, 4, 9) (by decide +kernel)
theorem g_8_5 {f : Nat → Nat → Option Nat} (h : mm_G f) : f 8 5 = some 10 := h (8, 5, 10) (by decide +kernel)
theorem g_8_6 {f : Nat → Nat → Option Nat} (h : mm_G f) : f 8 6 = some 11 := h (8, 6, 11) (by decide +kernel)
theorem g_8_7 {f : Nat → Nat → Option Nat} (h : mm_G f) : f 8 7 = some 12 := h (8, 7, 12) (by decide +kernel)
theorem g_8_8 {f : Nat → Nat → Option Nat} (h : mm_G f) : f 8 8 = some 13 := h (8, 8, 13) (by decide +kernel)
theorem g_8_9 {f : Nat → Nat → Option Nat} (h : mm_G f) : f 8 9 = some 14 := h (8, 9, 14) (by decide +kernel)
theorem g_8_10 {f : Nat → Nat → Option Nat} (h : mm_G f) : f 8 10 = some 15 := h (8, 10, 15) (by decide +kernel)
theorem g_16_0 {f : Nat → Nat → Option Nat} (h : mm_G f) : f 16 0 = some 17 := h (16, 0, 17) (by decide +kernel)
theorem g_16_1 {f : Nat → Nat → Option Nat} (h : mm_G f) : f 16 1 = some 20 := h (16, 1, 20) (by decide +kernel)
theorem g_21_1 {f : Nat → Nat → Option Nat} (h : mm_G f) : f 21 1 = some 30 := h (21, 1, 30) (by decide +kernel)
theorem g_21_2 {f : Nat → Nat → Option Nat} (h : mm_G f) : f 21 2 = some 35 := h (21, 2, 35) (by decide +kernel)
theorem g_21_3 {f : Nat → Nat → Option Nat} (h : mm_G f) : f 21 3 = some 36 := h (21, 3, 36) (by decide +kernel)
theorem g_22_4 {f : Nat → Nat → Option Nat} (h : mm_G f) : f 22 4 = some 23 := h (22, 4, 23) (by decide +kernel)
theorem g_22_5 {f : Nat → Nat → Option Nat} (h : mm_G f) : f 22 5 = some 24 := h (22, 5, 24) (by decide +kernel)
theorem g_22_6 {f : Nat → Nat → Option Nat} (h : mm_G f) : f 22 6 = some 25 := h (22, 6, 25) (by decide +kernel)
theorem g_22_7 {f : Nat → Nat → Option Nat} (h : mm_G f) : f 22 7 = some 26 := h (22, 7, 26) (by decide +kernel)
theorem g_22_8 {f : Nat → Nat → Option Nat} (h : mm_G f) : f 22 8 = some 27 := h (22, 8, 27) (by decide +kernel)
theorem g_22_9 {f : Nat → Nat → Option Nat} (h : mm_G f) : f 22 9 = some 28 := h (22, 9, 28) (by decide +kernel)
theorem g_22_10 {f : Nat → Nat → Option Nat} (h : mm_G f) : f 22 10 = some 29 := h (22, 10, 29) (by decide +kernel)
theorem g_30_0 {f : Nat → Nat → Option Nat} (h : mm_G f) : f 30 0 = some 31 := h (30, 0, 31) (by decide +kernel)
theorem g_30_1 {f : Nat → Nat → Option Nat} (h : mm_G f) : f 30 1 = some 32 := h (30, 1, 32) (by decide +kernel)
theorem g_30_2 {f : Nat → Nat → Option Nat} (h : mm_G f) : f 30 2 = some 33 := h (30, 2, 33) (by decide +kernel)
theorem g_30_3 {f : Nat → Nat → Option Nat} (h : mm_G f) : f 30 3 = some 34 := h (30, 3, 34) (by decide +kernel)
theorem g_37_3 {f : Nat → Nat → Option Nat} (h : mm_G f) : f 37 3 = some 38 := h (37, 3, 38) (by decide +kernel)
theorem g_37_4 {f : Nat → Nat → Option Nat} (h : mm_G f) : f 37 4 = some 39 := h (37, 4, 39) (by decide +kernel)
theorem g_37_5 {f : Nat → Nat → Option Nat} (h : mm_G f) : f 37 5 = some 40 := h (37, 5, 40) (by decide +kernel)
theorem g_37_6 {f : Nat → Nat → Option Nat} (h : mm_G f) : f 37 6 = some 41 := h (37, 6, 41) (by decide +kernel)
theorem g_42_3 {f : Nat → Nat → Option Nat} (h : mm_G f) : f 42 3 = some 43 := h (42, 3, 43) (by decide +kernel)
theorem g_42_4 {f : Nat → Nat → Option Nat} (h : mm_G f) : f 42 4 = some 44 := h (42, 4, 44) (by decide +kernel)
theorem g_42_5 {f : Nat → Nat → Option Nat} (h : mm_G f) : f 42 5 = some 45 := h (42, 5, 45) (by decide +kernel)
theorem g_42_6 {f : Nat → Nat → Option Nat} (h : mm_G f) : f 42 6 = some 46 := h (42, 6, 46) (by decide +kernel)
theorem g_47_0 {f : Nat → Nat → Option Nat} (h : mm_G f) : f 47 0 = some 48 := h (47, 0, 48) (by decide +kernel)
theorem g_48_0 {f : Nat → Nat → Option Nat} (h : mm_G f) : f 48 0 = some 49 := h (48, 0, 49) (by decide +kernel)
theorem g_48_1 {f : Nat → Nat → Option Nat} (h : mm_G f) : f 48 1 = some 54 := h (48, 1, 54) (by decide +kernel)
theorem g_48_2 {f : Nat → Nat → Option Nat} (h : mm_G f) : f 48 2 = some 59 := h (48, 2, 59) (by decide +kernel)
theorem g_48_3 {f : Nat → Nat → Option Nat} (h : mm_G f) : f 48 3 = some 64 := h (48, 3, 64) (by decide +kernel)
theorem g_48_4 {f : Nat → Nat → Option Nat} (h : mm_G f) : f 48 4 = some 69 := h (48, 4, 69) (by decide +kernel)
theorem g_48_5 {f : Nat → Nat → Option Nat} (h : mm_G f) : f 48 5 = some 74 := h (48, 5, 74) (by decide +kernel)
theorem g_48_6 {f : Nat → Nat → Option Nat} (h : mm_G f) : f 48 6 = some 79 := h (48, 6, 79) (by decide +kernel)
theorem g_48_7 {f : Nat → Nat → Option Nat} (h : mm_G f) : f 48 7 = some 84 := h (48, 7, 84) (by decide +kernel)
theorem g_48_8 {f : Nat → Nat → Option Nat} (h : mm_G f) : f 48 8 = some 89 := h (48, 8, 89) (by decide +kernel)
theorem g_48_9 {f : Nat → Nat → Option Nat} (h : mm_G f) : f 48 9 = some 94 := h (48, 9, 94) (by decide +kernel)
theorem g_48_10 {f : Nat → Nat → Option Nat} (h : mm_G f) : f 48 10 = some 99 := h (48, 10, 99) (by decide +kernel)
theorem g_48_11 {f : Nat → Nat → Option Nat} (h : mm_G f) : f 48 11 = some 104 := h (48, 11, 104) (by decide +kernel)
theorem g_48_12 {f : Nat → Nat → Option Nat} (h : mm_G f) : f 48 12 = some 109 := h (48, 12, 109) (by decide +kernel)
theorem g_48_13 {f : Nat → Nat → Option Nat} (h : mm_G f) : f 48 13 = some 114 := h (48, 13, 114) (by decide +kernel)
theorem g_48_14 {f : Nat → Nat → Option Nat} (h : mm_G f) : f 48 14 = some 119 := h (48, 14, 119) (by decide +kernel)
theorem g_48_15 {f : Nat → Nat → Option Nat} (h : mm_G f) : f 48 15 = some 124 := h (48, 15, 124) (by decide +kernel)
theorem g_48_16 {f : Nat → Nat → Option Nat} (h : mm_G f) : f 48 16 = some 129 := h (48, 16, 129) (by decide +kernel)
theorem g_48_17 {f : Nat → Nat → Option Nat} (h : mm_G f) : f 48 17 = some 134 := h (48, 17, 134) (by decide +kernel)
theorem g_48_18 {f : Nat → Nat → Option Nat} (h : mm_G f) : f 48 18 = some 139 := h (48, 18, 139) (by decide +kernel)
theorem g_48_19 {f : Nat → Nat → Option Nat} (h : mm_G f) : f 48 19 = some 144 := h (48, 19, 144) (by decide +kernel)
theorem g_49_3 {f : Nat → Nat → Option Nat} (h : mm_G f) : f 49 3 = some 50 := h (49, 3, 50) (by decide +kernel)
theorem g_49_4 {f : Nat → Nat → Option Nat} (h : mm_G f) : f 49 4 = some 51 := h (49, 4, 51) (by decide +kernel)
theorem g_49_5 {f : Nat → Nat → Option Nat} (h : mm_G f) : f 49 5 = some 52 := h (49, 5, 52) (by decide +kernel)
theorem g_49_6 {f : Nat → Nat → Option Nat} (h : mm_G f) : f 49 6 = some 53 := h (49, 6, 53) (by decide +kernel)
theorem g_54_3 {f : Nat → Nat → Option Nat} (h : mm_G f) : f 54 3 = some 55 := h (54, 3, 55) (by decide +kernel)
theorem g_54_4 {f : Nat → Nat → Option Nat} (h : mm_G f) : f 54 4 = some 56 := h (54, 4, 56) (by decide +kernel)
theorem g_54_5 {f : Nat → Nat → Option Nat} (h : mm_G f) : f 54 5 = some 57 := h (54, 5, 57) (by decide +kernel)
theorem g_54_6 {f : Nat → Nat → Option Nat} (h : mm_G f) : f 54 6 = some 58 := h (54, 6, 58) (by decide +kernel)
theorem g_59_3 {f : Nat → Nat → Option Nat} (h : mm_G f) : f 59 3 = some 60 := h (59, 3, 60) (by decide +kernel)
theorem g_59_4 {f : Nat → Nat → Option Nat} (h : mm_G f) : f 59 4 = some 61 := h (59, 4, 61) (by decide +kernel)
theorem g_59_5 {f : Nat → Nat → Option Nat} (h : mm_G f) : f 59 5 = some 62 := h (59, 5, 62) (by decide +kernel)
theorem g_59_6 {f : Nat → Nat → Option Nat} (h : mm_G f) : f 59 6 = some 63 := h (59, 6, 63) (by decide +kernel)
theorem g_64_3 {f : Nat → Nat → Option Nat} (h : mm_G f) : f 64 3 = some 65 := h (64, 3, 65) (by decide +kernel)
theorem g_64_4 {f : Nat → Nat → Option Nat} (h : mm_G f) : f 64 4 = some 66 := h (64, 4, 66) (by decide +kernel)
theorem g_64_5 {f : Nat → Nat → Option Nat} (h : mm_G f) : f 64 5 = some 67 := h (64, 5, 67) (by decide +kernel)
theorem g_64_6 {f : Nat → Nat → Option Nat} (h : mm_G f) : f 64 6 = some 68 := h (64, 6, 68) (by decide +kernel)
theorem g_69_3 {f : Nat → Nat → Option Nat} (h : mm_G f) : f 69 3 = some 70 := h (69, 3, 70) (by decide +kernel)
theorem g_69_4 {f : Nat → Nat → Option Nat} (h : mm_G f) : f 69 4 = some 71 := h (69, 4, 71) (by decide +kernel)
theorem g_69_5 {f : Nat → Nat → Option Nat} (h : mm_G f) : f 69 5 = some 72 := h (69, 5, 72) (by decide +kernel)
theorem g_69_6 {f : Nat → Nat → Option Nat} (h : mm_G f) : f 69 6 = some 73 := h (69, 6, 73) (by decide +kernel)
theorem g_74_3 {f : Nat → Nat → Option Nat} (h : mm_G f) : f 74 3 = some 75 := h (74, 3, 75) (by decide +kernel)
theorem g_74_4 {f : Nat → Nat → Option Nat} (h : mm_G f) : f 74 4 = some 76 := h (74, 4, 76) (by decide +kernel)
theorem g_74_5 {f : Nat → Nat → Option Nat} (h : mm_G f) : f 74 5 = some 77 := h (74, 5, 77) (by decide +kernel)
theorem g_74_6 {f : Nat → Nat → Option Nat} (h : mm_G f) : f 74 6 = some 78 := h (74, 6, 78) (by decide +kernel)
theorem g_79_3 {f : Nat → Nat → Option Nat} (h : mm_G f) : f 79 3 = some 80 := h (79, 3, 80) (by decide +kernel)
theorem g_79_4 {f : Nat → Nat → Option Nat} (h : mm_G f) : f 79 4 = some 81 := h (79, 4, 81) (by decide +kernel)
theorem g_79_5 {f : Nat → Nat → Option Nat} (h : mm_G f) : f 79 5 = some 82 := h (79, 5, 82) (by decide +kernel)
theorem g_79_6 {f : Nat → Nat → Option Nat} (h : mm_G f) : f 79 6 = some 83 := h (79, 6, 83) (by decide +kernel)
theorem g_84_3 {f : Nat → Nat → Option Nat} (h : mm_G f) : f 84 3 = some 85 := h (84, 3, 85) (by decide +kernel)
theorem g_84_4 {f : Nat → Nat → Option Nat} (h : mm_G f) : f 84 4 = some 86 := h (84, 4, 86) (by decide +kernel)
theorem g_84_5 {f : Nat → Nat → Option Nat} (h : mm_G f) : f 84 5 = some 87 := h (84, 5, 87) (by decide +kernel)
theorem g_84_6 {f : Nat → Nat → Option Nat} (h : mm_G f) : f 84 6 = some 88 := h (84, 6, 88) (by decide +kernel)
theorem g_89_3 {f : Nat → Nat → Option Nat} (h : mm_G f) : f 89 3 = some 90 := h (89, 3, 90) (by decide +kernel)
theorem g_89_4 {f : Nat → Nat → Option Nat} (h : mm_G f) : f 89 4 = some 91 := h (89, 4, 91) (by decide +kernel)
theorem g_89_5 {f : Nat → Nat → Option Nat} (h : mm_G f) : f 89 5 = some 92 := h (89, 5, 92) (by decide +kernel)
theorem g_89_6 {f : Nat → Nat → Option Nat} (h : mm_G f) : f 89 6 = some 93 := h (89, 6, 93) (by decide +kernel)
theorem g_94_3 {f : Nat → Nat → Option Nat} (h : mm_G f) : f 94 3 = some 95 := h (94, 3, 95) (by decide +kernel)
theorem g_94_4 {f : Nat → Nat → Option Nat} (h : mm_G f) : f 94 4 = some 96 := h (94, 4, 96) (by decide +kernel)
theorem g_94_5 {f : Nat → Nat → Option Nat} (h : mm_G f) : f 94 5 = some 97 := h (94, 5, 97) (by decide +kernel)
theorem g_94_6 {f : Nat → Nat → Option Nat} (h : mm_G f) : f 94 6 = some 98 := h (94, 6, 98) (by decide +kernel)
theorem g_99_3 {f : Nat → Nat → Option Nat} (h : mm_G f) : f 99 3 = some 100 := h (99, 3, 100) (by decide +kernel)
theorem g_99_4 {f : Nat → Nat → Option Nat} (h : mm_G f) : f 99 4 = some 101 := h (99, 4, 101) (by decide +kernel)
theorem g_99_5 {f : Nat → Nat → Option Nat} (h : mm_G f) : f 99 5 = some 102 := h (99, 5, 102) (by decide +kernel)
theorem g_99_6 {f : Nat → Nat → Option Nat} (h : mm_G f) : f 99 6 = some 103 := h (99, 6, 103) (by decide +kernel)
theorem g_104_3 {f : Nat → Nat → Option Nat} (h : mm_G f) : f 104 3 = some 105 := h (104, 3, 105) (by decide +kernel)
theorem g_104_4 {f : Nat → Nat → Option Nat} (h : mm_G f) : f 104 4 = some 106 := h (104, 4, 106) (by decide +kernel)
theorem g_104_5 {f : Nat → Nat → Option Nat} (h : mm_G f) : f 104 5 = some 107 := h (104, 5, 107) (by decide +kernel)
theorem g_104_6 {f : Nat → Nat → Option Nat} (h : mm_G f) : f 104 6 = some 108 := h (104, 6, 108) (by decide +kernel)
theorem g_109_3 {f : Nat → Nat → Option Nat} (h : mm_G f) : f 109 3 = some 110 := h (109, 3, 110) (by decide +kernel)
theorem g_109_4 {f : Nat → Nat → Option Nat} (h : mm_G f) : f 109 4 = some 111 := h (109, 4, 111) (by decide +kernel)
theorem g_109_5 {f : Nat → Nat → Option Nat} (h : mm_G f) : f 109 5 = some 112 := h (109, 5, 112) (by decide +kernel)
theorem g_109_6 {f : Nat → Nat → Option Nat} (h : mm_G f) : f 109 6 = some 113 := h (109, 6, 113) (by decide +kernel)
theorem g_114_3 {f : Nat → Nat → Option Nat} (h : mm_G f) : f 114 3 = some 115 := h (114, 3, 115) (by decide +kernel)
theorem g_114_4 {f : Nat → Nat → Option Nat} (h : mm_G f) : f 114 4 = some 116 := h (114, 4, 116) (by decide +kernel)
theorem g_114_5 {f : Nat → Nat → Option Nat} (h : mm_G f) : f 114 5 = some 117 := h (114, 5, 117) (by decide +kernel)
theorem g_114_6 {f : Nat → Nat → Option Nat} (h : mm_G f) : f 114 6 = some 118 := h (114, 6, 118) (by decide +kernel)
theorem g_119_3 {f : Nat → Nat → Option Nat} (h : mm_G f) : f 119 3 = some 120 := h (119, 3, 120) (by decide +kernel)
theorem g_119_4 {f : Nat → Nat → Option Nat} (h : mm_G f) : f 119 4 = some 121 := h (119, 4, 121) (by decide +kernel)
theorem g_119_5 {f : Nat → Nat → Option Nat} (h : mm_G f) : f 119 5 = some 122 := h (119, 5, 122) (by decide +kernel)
theorem g_119_6 {f : Nat → Nat → Option Nat} (h : mm_G f) : f 119 6 = some 123 := h (119, 6, 123) (by decide +kernel)
theorem g_124_3 {f : Nat → Nat → Option Nat} (h : mm_G f) : f 124 3 = some 125 := h (124, 3, 125) (by decide +kernel)
theorem g_124_4 {f : Nat → Nat → Option Nat} (h : mm_G f) : f 124 4 = some 126 := h (124, 4, 126) (by decide +kernel)
theorem g_124_5 {f : Nat → Nat → Option Nat} (h : mm_G f) : f 124 5 = some 127 := h (124, 5, 127) (by decide +kernel)
theorem g_124_6 {f : Nat → Nat → Option Nat} (h : mm_G f) : f 124 6 = some 128 := h (124, 6, 128) (by decide +kernel)
theorem g_129_3 {f : Nat → Nat → Option Nat} (h : mm_G f) : f 129 3 = some 130 := h (129, 3, 130) (by decide +kernel)
theorem g_129_4 {f : Nat → Nat → Option Nat} (h : mm_G f) : f 129 4 = some 131 := h (129, 4, 131) (by decide +kernel)
theorem g_129_5 {f : Nat → Nat → Option Nat} (h : mm_G f) : f 129 5 = some 132 := h (129, 5, 132) (by decide +kernel)
theorem g_129_6 {f : Nat → Nat → Option Nat} (h : mm_G f) : f 129 6 = some 133 := h (129, 6, 133) (by decide +kernel)
theorem g_134_3 {f : Nat → Nat → Option Nat} (h : mm_G f) : f 134 3 = some 135 := h (134, 3, 135) (by decide +kernel)
theorem g_134_4 {f : Nat → Nat → Option Nat} (h : mm_G f) : f 134 4 = some 136 := h (134, 4, 136) (by decide +kernel)
theorem g_134_5 {f : Nat → Nat → Option Nat} (h : mm_G f) : f 134 5 = some 137 := h (134, 5, 137) (by decide +kernel)
theorem g_134_6 {f : Nat → Nat → Option Nat} (h : mm_G f) : f 134 6 = some 138 := h (134, 6, 138) (by decide +kernel)
theorem g_139_3 {f : Nat → Nat → Option Nat} (h : mm_G f) : f 139 3 = some 140 := h (139, 3, 140) (by decide +kernel)
theorem g_139_4 {f : Nat → Nat → Option Nat} (h : mm_G f) : f 139 4 = some 141 := h (139, 4, 141) (by decide +kernel)
theorem g_139_5 {f : Nat → Nat → Option Nat} (h : mm_G f) : f 139 5 = some 142 := h (139, 5, 142) (by decide +kernel)
theorem g_139_6 {f : Nat → Nat → Option Nat} (h : mm_G f) : f 139 6 = some 143 := h (139, 6, 143) (by decide +kernel)
theorem g_144_3 {f : Nat → Nat → Option Nat} (h : mm_G f) : f 144 3 = some 145 := h (144, 3, 145) (by decide +kernel)
theorem g_144_4 {f : Nat → Nat → Option Nat} (h : mm_G f) : f 144 4 = some 146 := h (144, 4, 146) (by decide +kernel)
theorem g_144_5 {f : Nat → Nat → Option Nat} (h : mm_G f) : f 144 5 = some 147 := h (144, 5, 147) (by decide +kernel)
theorem g_144_6 {f : Nat → Nat → Option Nat} (h : mm_G f) : f 144 6 = some 148 := h (144, 6, 148) (by decide +kernel)
theorem g_149_2 {f : Nat → Nat → Option Nat} (h : mm_G f) : f 149 2 = some 150 := h (149, 2, 150) (by decide +kernel)
theorem g_149_4 {f : Nat → Nat → Option Nat} (h : mm_G f) : f 149 4 = some 151 := h (149, 4, 151) (by decide +kernel)
theorem g_149_7 {f : Nat → Nat → Option Nat} (h : mm_G f) : f 149 7 = some 152 := h (149, 7, 152) (by decide +kernel)
theorem g_149_8 {f : Nat → Nat → Option Nat} (h : mm_G f) : f 149 8 = some 153 := h (149, 8, 153) (by decide +kernel)
theorem g_149_9 {f : Nat → Nat → Option Nat} (h : mm_G f) : f 149 9 = some 154 := h (149, 9, 154) (by decide +kernel)
theorem g_149_10 {f : Nat → Nat → Option Nat} (h : mm_G f) : f 149 10 = some 155 := h (149, 10, 155) (by decide +kernel)
theorem g_156_1 {f : Nat → Nat → Option Nat} (h : mm_G f) : f 156 1 = some 157 := h (156, 1, 157) (by decide +kernel)
theorem g_156_5 {f : Nat → Nat → Option Nat} (h : mm_G f) : f 156 5 = some 158 := h (156, 5, 158) (by decide +kernel)
theorem g_159_7 {f : Nat → Nat → Option Nat} (h : mm_G f) : f 159 7 = some 160 := h (159, 7, 160) (by decide +kernel)
theorem g_159_8 {f : Nat → Nat → Option Nat} (h : mm_G f) : f 159 8 = some 161 := h (159, 8, 161) (by decide +kernel)
theorem g_159_9 {f : Nat → Nat → Option Nat} (h : mm_G f) : f 159 9 = some 162 := h (159, 9, 162) (by decide +kernel)
theorem g_159_10 {f : Nat → Nat → Option Nat} (h : mm_G f) : f 159 10 = some 163 := h (159, 10, 163) (by decide +kernel)
theorem g_164_0 {f : Nat → Nat → Option Nat} (h : mm_G f) : f 164 0 = some 165 := h (164, 0, 165) (by decide +kernel)
theorem g_164_9 {f : Nat → Nat → Option Nat} (h : mm_G f) : f 164 9 = some 166 := h (164, 9, 166) (by decide +kernel)
theorem g_164_11 {f : Nat → Nat → Option Nat} (h : mm_G f) : f 164 11 = some 167 := h (164, 11, 167) (by decide +kernel)
theorem g_164_12 {f : Nat → Nat → Option Nat} (h : mm_G f) : f 164 12 = some 168 := h (164, 12, 168) (by decide +kernel)
theorem g_164_13 {f : Nat → Nat → Option Nat} (h : mm_G f) : f 164 13 = some 169 := h (164, 13, 169) (by decide +kernel)
theorem g_164_14 {f : Nat → Nat → Option Nat} (h : mm_G f) : f 164 14 = some 170 := h (164, 14, 170) (by decide +kernel)
theorem g_164_15 {f : Nat → Nat → Option Nat} (h : mm_G f) : f 164 15 = some 171 := h (164, 15, 171) (by decide +kernel)
theorem g_164_16 {f : Nat → Nat → Option Nat} (h : mm_G f) : f 164 16 = some 172 := h (164, 16, 172) (by decide +kernel)
theorem g_164_17 {f : Nat → Nat → Option Nat} (h : mm_G f) : f 164 17 = some 173 := h (164, 17, 173) (by decide +kernel)
theorem g_164_18 {f : Nat → Nat → Option Nat} (h : mm_G f) : f 164 18 = some 174 := h (164, 18, 174) (by decide +kernel)
theorem g_164_19 {f : Nat → Nat → Option Nat} (h : mm_G f) : f 164 19 = some 175 := h (164, 19, 175) (by decide +kernel)
theorem g_164_20 {f : Nat → Nat → Option Nat} (h : mm_G f) : f 164 20 = some 176 := h (164, 20, 176) (by decide +kernel)
theorem g_164_21 {f : Nat → Nat → Option Nat} (h : mm_G f) : f 164 21 = some 177 := h (164, 21, 177) (by decide +kernel)
theorem g_164_22 {f : Nat → Nat → Option Nat} (h : mm_G f) : f 164 22 = some 178 := h (164, 22, 178) (by decide +kernel)
theorem g_164_23 {f : Nat → Nat → Option Nat} (h : mm_G f) : f 164 23 = some 179 := h (164, 23, 179) (by decide +kernel)
theorem g_164_24 {f : Nat → Nat → Option Nat} (h : mm_G f) : f 164 24 = some 180 := h (164, 24, 180) (by decide +kernel)
theorem g_164_25 {f : Nat → Nat → Option Nat} (h : mm_G f) : f 164 25 = some 181 := h (164, 25, 181) (by decide +kernel)
theorem g_164_26 {f : Nat → Nat → Option Nat} (h : mm_G f) : f 164 26 = some 182 := h (164, 26, 182) (by decide +kernel)
theorem g_164_27 {f : Nat → Nat → Option Nat} (h : mm_G f) : f 164 27 = some 183 := h (164, 27, 183) (by decide +kernel)
theorem g_164_28 {f : Nat → Nat → Option Nat} (h : mm_G f) : f 164 28 = some 184 := h (164, 28, 184) (by decide +kernel)
theorem g_164_29 {f : Nat → Nat → Option Nat} (h : mm_G f) : f 164 29 = some 185 := h (164, 29, 185) (by decide +kernel)
theorem g_164_30 {f : Nat → Nat → Option Nat} (h : mm_G f) : f 164 30 = some 186 := h (164, 30, 186) (by decide +kernel)
theorem g_164_31 {f : Nat → Nat → Option Nat} (h : mm_G f) : f 164 31 = some 187 := h (164, 31, 187) (by decide +kernel)
theorem g_164_32 {f : Nat → Nat → Option Nat} (h : mm_G f) : f 164 32 = some 188 := h (164, 32, 188) (by decide +kernel)
theorem g_164_33 {f : Nat → Nat → Option Nat} (h : mm_G f) : f 164 33 = some 189 := h (164, 33, 189) (by decide +kernel)
theorem g_164_34 {f : Nat → Nat → Option Nat} (h : mm_G f) : f 164 34 = some 190 := h (164, 34, 190) (by decide +kernel)
theorem g_164_36 {f : Nat → Nat → Option Nat} (h : mm_G f) : f 164 36 = some 191 := h (164, 36, 191) (by decide +kernel)
theorem g_164_39 {f : Nat → Nat → Option Nat} (h : mm_G f) : f 164 39 = some 192 := h (164, 39, 192) (by decide +kernel)
theorem g_164_40 {f : Nat → Nat → Option Nat} (h : mm_G f) : f 164 40 = some 193 := h (164, 40, 193) (by decide +kernel)
theorem g_164_41 {f : Nat → Nat → Option Nat} (h : mm_G f) : f 164 41 = some 194 := h (164, 41, 194) (by decide +kernel)
theorem g_164_42 {f : Nat → Nat → Option Nat} (h : mm_G f) : f 164 42 = some 195 := h (164, 42, 195) (by decide +kernel)
theorem g_164_43 {f : Nat → Nat → Option Nat} (h : mm_G f) : f 164 43 = some 196 := h (164, 43, 196) (by decide +kernel)
theorem g_164_44 {f : Nat → Nat → Option Nat} (h : mm_G f) : f 164 44 = some 197 := h (164, 44, 197) (by decide +kernel)
theorem g_164_45 {f : Nat → Nat → Option Nat} (h : mm_G f) : f 164 45 = some 198 := h (164, 45, 198) (by decide +kernel)
theorem g_164_50 {f : Nat → Nat → Option Nat} (h : mm_G f) : f 164 50 = some 199 := h (164, 50, 199) (by decide +kernel)
theorem g_164_51 {f : Nat → Nat → Option Nat} (h : mm_G f) : f 164 51 = some 200 := h (164, 51, 200) (by decide +kernel)
theorem g_164_56 {f : Nat → Nat → Option Nat} (h : mm_G f) : f 164 56 = some 201 := h (164, 56, 201) (by decide +kernel)
theorem g_164_61 {f : Nat → Nat → Option Nat} (h : mm_G f) : f 164 61 = some 202 := h (164, 61, 202) (by decide +kernel)
theorem g_164_62 {f : Nat → Nat → Option Nat} (h : mm_G f) : f 164 62 = some 203 := h (164, 62, 203) (by decide +kernel)
theorem g_164_63 {f : Nat → Nat → Option Nat} (h : mm_G f) : f 164 63 = some 204 := h (164, 63, 204) (by decide +kernel)
theorem g_164_64 {f : Nat → Nat → Option Nat} (h : mm_G f) : f 164 64 = some 205 := h (164, 64, 205) (by decide +kernel)
theorem g_164_65 {f : Nat → Nat → Option Nat} (h : mm_G f) : f 164 65 = some 206 := h (164, 65, 206) (by decide +kernel)
theorem g_164_67 {f : Nat → Nat → Option Nat} (h : mm_G f) : f 164 67 = some 207 := h (164, 67, 207) (by decide +kernel)
theorem g_164_68 {f : Nat → Nat → Option Nat} (h : mm_G f) : f 164 68 = some 208 := h (164, 68, 208) (by decide +kernel)
theorem g_164_69 {f : Nat → Nat → Option Nat} (h : mm_G f) : f 164 69 = some 209 := h (164, 69, 209) (by decide +kernel)
theorem g_164_70 {f : Nat → Nat → Option Nat} (h : mm_G f) : f 164 70 = some 210 := h (164, 70, 210) (by decide +kernel)
theorem g_164_71 {f : Nat → Nat → Option Nat} (h : mm_G f) : f 164 71 = some 211 := h (164, 71, 211) (by decide +kernel)
theorem g_164_73 {f : Nat → Nat → Option Nat} (h : mm_G f) : f 164 73 = some 212 := h (164, 73, 212) (by decide +kernel)
theorem g_164_74 {f : Nat → Nat → Option Nat} (h : mm_G f) : f 164 74 = some 213 := h (164, 74, 213) (by decide +kernel)
theorem g_164_75 {f : Nat → Nat → Option Nat} (h : mm_G f) : f 164 75 = some 214 := h (164, 75, 214) (by decide +kernel)
theorem g_164_77 {f : Nat → Nat → Option Nat} (h : mm_G f) : f 164 77 = some 215 := h (164, 77, 215) (by decide +kernel)
theorem g_164_78 {f : Nat → Nat → Option Nat} (h : mm_G f) : f 164 78 = some 216 := h (164, 78, 216) (by decide +kernel)
theorem g_164_82 {f : Nat → Nat → Option Nat} (h : mm_G f) : f 164 82 = some 217 := h (164, 82, 217) (by decide +kernel)
theorem g_164_83 {f : Nat → Nat → Option Nat} (h : mm_G f) : f 164 83 = some 218 := h (164, 83, 218) (by decide +kernel)
theorem g_164_84 {f : Nat → Nat → Option Nat} (h : mm_G f) : f 164 84 = some 219 := h (164, 84, 219) (by decide +kernel)
theorem g_164_85 {f : Nat → Nat → Option Nat} (h : mm_G f) : f 164 85 = some 220 := h (164, 85, 220) (by decide +kernel)
theorem g_164_86 {f : Nat → Nat → Option Nat} (h : mm_G f) : f 164 86 = some 221 := h (164, 86, 221) (by decide +kernel)
theorem g_164_87 {f : Nat → Nat → Option Nat} (h : mm_G f) : f 164 87 = some 222 := h (164, 87, 222) (by decide +kernel)
theorem g_164_88 {f : Nat → Nat → Option Nat} (h : mm_G f) : f 164 88 = some 223 := h (164, 88, 223) (by decide +kernel)
theorem g_164_89 {f : Nat → Nat → Option Nat} (h : mm_G f) : f 164 89 = some 224 := h (164, 89, 224) (by decide +kernel)
theorem g_164_90 {f : Nat → Nat → Option Nat} (h : mm_G f) : f 164 90 = some 225 := h (164, 90, 225) (by decide +kernel)
theorem g_164_91 {f : Nat → Nat → Option Nat} (h : mm_G f) : f 164 91 = some 226 := h (164, 91, 226) (by decide +kernel)
theorem g_164_92 {f : Nat → Nat → Option Nat} (h : mm_G f) : f 164 92 = some 227 := h (164, 92, 227) (by decide +kernel)
theorem g_164_93 {f : Nat → Nat → Option Nat} (h : mm_G f) : f 164 93 = some 228 := h (164, 93, 228) (by decide +kernel)
theorem g_164_94 {f : Nat → Nat → Option Nat} (h : mm_G f) : f 164 94 = some 229 := h (164, 94, 229) (by decide +kernel)
theorem g_164_95 {f : Nat → Nat → Option Nat} (h : mm_G f) : f 164 95 = some 230 := h (164, 95, 230) (by decide +kernel)
theorem g_164_96 {f : Nat → Nat → Option Nat} (h : mm_G f) : f 164 96 = some 231 := h (164, 96, 231) (by decide +kernel)
theorem g_164_97 {f : Nat → Nat → Option Nat} (h : mm_G f) : f 164 97 = some 232 := h (164, 97, 232) (by decide +kernel)
theorem g_164_98 {f : Nat → Nat → Option Nat} (h : mm_G f) : f 164 98 = some 233 := h (164, 98, 233) (by decide +kernel)
theorem g_164_99 {f : Nat → Nat → Option Nat} (h : mm_G f) : f 164 99 = some 234 := h (164, 99, 234) (by decide +kernel)
theorem g_164_100 {f : Nat → Nat → Option Nat} (h : mm_G f) : f 164 100 = some 235 := h (164, 100, 235) (by decide +kernel)
theorem g_164_101 {f : Nat → Nat → Option Nat} (h : mm_G f) : f 164 101 = some 236 := h (164, 101, 236) (by decide +kernel)
theorem g_164_102 {f : Nat → Nat → Option Nat} (h : mm_G f) : f 164 102 = some 237 := h (164, 102, 237) (by decide +kernel)
theorem g_164_103 {f : Nat → Nat → Option Nat} (h : mm_G f) : f 164 103 = some 238 := h (164, 103, 238) (by decide +kernel)
theorem g_164_104 {f : Nat → Nat → Option Nat} (h : mm_G f) : f 164 104 = some 239 := h (164, 104, 239) (by decide +kernel)
theorem g_164_106 {f : Nat → Nat → Option Nat} (h : mm_G f) : f 164 106 = some 240 := h (164, 106, 240) (by decide +kernel)
theorem g_164_110 {f : Nat → Nat → Option Nat} (h : mm_G f) : f 164 110 = some 241 := h (164, 110, 241) (by decide +kernel)
theorem g_164_114 {f : Nat → Nat → Option Nat} (h : mm_G f) : f 164 114 = some 242 := h (164, 114, 242) (by decide +kernel)
def mm_Sts : List Nat := [37, 42, 49, 54, 59, 64, 69, 74, 79, 84, 89, 94, 99, 104, 109, 114, 119, 124, 129, 134, 139, 144]
theorem sh_St {a : Nat} (h : a ∈ mm_Sts) : mm_SH[a]? = some (14, 7) := (by decide +kernel : ∀ a ∈ mm_Sts, mm_SH[a]? = some (14, 7)) a h
theorem g_St_3 {f : Nat → Nat → Option Nat} {a : Nat} (h : mm_G f) (ha : a ∈ mm_Sts) : f a 3 = some (a + 1) := h (a, 3, a + 1) ((by decide +kernel : ∀ a ∈ mm_Sts, (a, 3, a + 1) ∈ mm_FIN) a ha)
theorem sh_St_1 {a : Nat} (h : a ∈ mm_Sts) : mm_SH[a + 1]? = some (0, 7) := (by decide +kernel : ∀ a ∈ mm_Sts, mm_SH[a + 1]? = some (0, 7)) a h
theorem g_St_4 {f : Nat → Nat → Option Nat} {a : Nat} (h : mm_G f) (ha : a ∈ mm_Sts) : f a 4 = some (a + 2) := h (a, 4, a + 2) ((by decide +kernel : ∀ a ∈ mm_Sts, (a, 4, a + 2) ∈ mm_FIN) a ha)
theorem sh_St_2 {a : Nat} (h : a ∈ mm_Sts) : mm_SH[a + 2]? = some (0, 7) := (by decide +kernel : ∀ a ∈ mm_Sts, mm_SH[a + 2]? = some (0, 7)) a h
theorem g_St_5 {f : Nat → Nat → Option Nat} {a : Nat} (h : mm_G f) (ha : a ∈ mm_Sts) : f a 5 = some (a + 3) := h (a, 5, a + 3) ((by decide +kernel : ∀ a ∈ mm_Sts, (a, 5, a + 3) ∈ mm_FIN) a ha)
theorem sh_St_3 {a : Nat} (h : a ∈ mm_Sts) : mm_SH[a + 3]? = some (0, 64) := (by decide +kernel : ∀ a ∈ mm_Sts, mm_SH[a + 3]? = some (0, 64)) a h
theorem g_St_6 {f : Nat → Nat → Option Nat} {a : Nat} (h : mm_G f) (ha : a ∈ mm_Sts) : f a 6 = some (a + 4) := h (a, 6, a + 4) ((by decide +kernel : ∀ a ∈ mm_Sts, (a, 6, a + 4) ∈ mm_FIN) a ha)
theorem sh_St_4 {a : Nat} (h : a ∈ mm_Sts) : mm_SH[a + 4]? = some (0, 40) := (by decide +kernel : ∀ a ∈ mm_Sts, mm_SH[a + 4]? = some (0, 40)) a h
def mm_Rls : List Nat := [8, 22]
theorem sh_Rl {a : Nat} (h : a ∈ mm_Rls) : mm_SH[a]? = some (12, 11) := (by decide +kernel : ∀ a ∈ mm_Rls, mm_SH[a]? = some (12, 11)) a h
theorem g_Rl_4 {f : Nat → Nat → Option Nat} {a : Nat} (h : mm_G f) (ha : a ∈ mm_Rls) : f a 4 = some (a + 1) := h (a, 4, a + 1) ((by decide +kernel : ∀ a ∈ mm_Rls, (a, 4, a + 1) ∈ mm_FIN) a ha)
theorem sh_Rl_1 {a : Nat} (h : a ∈ mm_Rls) : mm_SH[a + 1]? = some (0, 42) := (by decide +kernel : ∀ a ∈ mm_Rls, mm_SH[a + 1]? = some (0, 42)) a h
theorem g_Rl_5 {f : Nat → Nat → Option Nat} {a : Nat} (h : mm_G f) (ha : a ∈ mm_Rls) : f a 5 = some (a + 2) := h (a, 5, a + 2) ((by decide +kernel : ∀ a ∈ mm_Rls, (a, 5, a + 2) ∈ mm_FIN) a ha)
theorem sh_Rl_2 {a : Nat} (h : a ∈ mm_Rls) : mm_SH[a + 2]? = some (0, 7) := (by decide +kernel : ∀ a ∈ mm_Rls, mm_SH[a + 2]? = some (0, 7)) a h
theorem g_Rl_6 {f : Nat → Nat → Option Nat} {a : Nat} (h : mm_G f) (ha : a ∈ mm_Rls) : f a 6 = some (a + 3) := h (a, 6, a + 3) ((by decide +kernel : ∀ a ∈ mm_Rls, (a, 6, a + 3) ∈ mm_FIN) a ha)
theorem sh_Rl_3 {a : Nat} (h : a ∈ mm_Rls) : mm_SH[a + 3]? = some (0, 7) := (by decide +kernel : ∀ a ∈ mm_Rls, mm_SH[a + 3]? = some (0, 7)) a h
theorem g_Rl_7 {f : Nat → Nat → Option Nat} {a : Nat} (h : mm_G f) (ha : a ∈ mm_Rls) : f a 7 = some (a + 4) := h (a, 7, a + 4) ((by decide +kernel : ∀ a ∈ mm_Rls, (a, 7, a + 4) ∈ mm_FIN) a ha)
theorem sh_Rl_4 {a : Nat} (h : a ∈ mm_Rls) : mm_SH[a + 4]? = some (0, 64) := (by decide +kernel : ∀ a ∈ mm_Rls, mm_SH[a + 4]? = some (0, 64)) a h
theorem g_Rl_8 {f : Nat → Nat → Option Nat} {a : Nat} (h : mm_G f) (ha : a ∈ mm_Rls) : f a 8 = some (a + 5) := h (a, 8, a + 5) ((by decide +kernel : ∀ a ∈ mm_Rls, (a, 8, a + 5) ∈ mm_FIN) a ha)
theorem sh_Rl_5 {a : Nat} (h : a ∈ mm_Rls) : mm_SH[a + 5]? = some (0, 1608) := (by decide +kernel : ∀ a ∈ mm_Rls, mm_SH[a + 5]? = some (0, 1608)) a h
theorem g_Rl_9 {f : Nat → Nat → Option Nat} {a : Nat} (h : mm_G f) (ha : a ∈ mm_Rls) : f a 9 = some (a + 6) := h (a, 9, a + 6) ((by decide +kernel : ∀ a ∈ mm_Rls, (a, 9, a + 6) ∈ mm_FIN) a ha)
theorem sh_Rl_6 {a : Nat} (h : a ∈ mm_Rls) : mm_SH[a + 6]? = some (0, 5) := (by decide +kernel : ∀ a ∈ mm_Rls, mm_SH[a + 6]? = some (0, 5)) a h
theorem g_Rl_10 {f : Nat → Nat → Option Nat} {a : Nat} (h : mm_G f) (ha : a ∈ mm_Rls) : f a 10 = some (a + 7) := h (a, 10, a + 7) ((by decide +kernel : ∀ a ∈ mm_Rls, (a, 10, a + 7) ∈ mm_FIN) a ha)
theorem sh_Rl_7 {a : Nat} (h : a ∈ mm_Rls) : mm_SH[a + 7]? = some (0, 5) := (by decide +kernel : ∀ a ∈ mm_Rls, mm_SH[a + 7]? = some (0, 5)) a h
def mm_Rds : List Nat := [5, 17]
theorem sh_Rd {a : Nat} (h : a ∈ mm_Rds) : mm_SH[a]? = some (11, 15) := (by decide +kernel : ∀ a ∈ mm_Rds, mm_SH[a]? = some (11, 15)) a h
/-! typed ends and calls, over this shape -/
def mm_PI (K : Int32 → mm_M → Prop) : Option Value → mm_S → mm_M → Prop := fun r s m => ∃ z, r = some (.int z) ∧ s = mm_SH ∧ mm_G m.2.2 ∧ K z m
def mm_PL (K : Int64 → mm_M → Prop) : Option Value → mm_S → mm_M → Prop := fun r s m => ∃ z, r = some (.long z) ∧ s = mm_SH ∧ mm_G m.2.2 ∧ K z m
def mm_PR (K : Nat → mm_M → Prop) : Option Value → mm_S → mm_M → Prop := fun r s m => ∃ z, r = some (.ref z) ∧ s = mm_SH ∧ mm_G m.2.2 ∧ K z m
def mm_PV (K : mm_M → Prop) : Option Value → mm_S → mm_M → Prop := fun r s m => r = none ∧ s = mm_SH ∧ mm_G m.2.2 ∧ K m
def mm_CI (y : mm_Y) (d : Nat) (vs : List Value) (M : mm_M) (K : Int32 → mm_M → Prop) : Prop := mm_C y d 0 0 vs mm_SH M (mm_PI K)
def mm_CL (y : mm_Y) (d : Nat) (vs : List Value) (M : mm_M) (K : Int64 → mm_M → Prop) : Prop := mm_C y d 0 0 vs mm_SH M (mm_PL K)
def mm_CR (y : mm_Y) (d : Nat) (vs : List Value) (M : mm_M) (K : Nat → mm_M → Prop) : Prop := mm_C y d 0 0 vs mm_SH M (mm_PR K)
def mm_CV (y : mm_Y) (d : Nat) (vs : List Value) (M : mm_M) (K : mm_M → Prop) : Prop := mm_C y d 0 0 vs mm_SH M (mm_PV K)
theorem mm_CI_mono {y : mm_Y} {d : Nat} {vs : List Value} {M : mm_M} {K K' : Int32 → mm_M → Prop} (h : mm_CI y d vs M K) (hk : ∀ z m, mm_G m.2.2 → K z m → K' z m) : mm_CI y d vs M K' := mm_post (fun _ _ _ ⟨z, a, b, c, e⟩ => ⟨z, a, b, c, hk z _ c e⟩) h
theorem mm_CL_mono {y : mm_Y} {d : Nat} {vs : List Value} {M : mm_M} {K K' : Int64 → mm_M → Prop} (h : mm_CL y d vs M K) (hk : ∀ z m, mm_G m.2.2 → K z m → K' z m) : mm_CL y d vs M K' := mm_post (fun _ _ _ ⟨z, a, b, c, e⟩ => ⟨z, a, b, c, hk z _ c e⟩) h
theorem mm_CR_mono {y : mm_Y} {d : Nat} {vs : List Value} {M : mm_M} {K K' : Nat → mm_M → Prop} (h : mm_CR y d vs M K) (hk : ∀ z m, mm_G m.2.2 → K z m → K' z m) : mm_CR y d vs M K' := mm_post (fun _ _ _ ⟨z, a, b, c, e⟩ => ⟨z, a, b, c, hk z _ c e⟩) h
theorem mm_CV_mono {y : mm_Y} {d : Nat} {vs : List Value} {M : mm_M} {K K' : mm_M → Prop} (h : mm_CV y d vs M K) (hk : ∀ m, mm_G m.2.2 → K m → K' m) : mm_CV y d vs M K' := mm_post (fun _ _ _ ⟨a, b, c, e⟩ => ⟨a, b, c, hk _ c e⟩) h
/-- a virtual call's words -/
def mm_LV (own : String) (idx : Nat) (y : mm_Y) (ci n : Nat) : Prop := ∃ r : vw_C, Cond.methodLink own idx y.1 ∈ mm_ws ∧ mm_B y n ∧ Cond.instanceMethod y.1 ∈ mm_ws ∧ Cond.selects y.1.cls y.1 y.1 ∈ mm_ws ∧ vwCl[ci]? = some r ∧ r.1 = y.1.cls
def mm_LVN (own : String) (idx : Nat) (y : mm_Y) (ci n : Nat) : Prop := ∃ (r : vw_C) (host : String), Cond.methodLinkNest own idx y.1 host ∈ mm_nest ∧ mm_B y n ∧ Cond.instanceMethod y.1 ∈ mm_ws ∧ Cond.selects y.1.cls y.1 y.1 ∈ mm_ws ∧ vwCl[ci]? = some r ∧ r.1 = y.1.cls
def mm_LS (own : String) (idx : Nat) (y : mm_Y) (n : Nat) : Prop := Cond.methodLink own idx y.1 ∈ mm_ws ∧ mm_B y n ∧ Cond.static y.1 ∈ mm_ws
section MMT
variable {y y' : mm_Y} {d pc idx : Nat} {lv : List (Nat × Value)} {st rest : List Value} {M : mm_M} {Q : Option Value → mm_S → mm_M → Prop}
theorem mm_kVI {a ci N : Nat} {K : Int32 → mm_M → Prop} (As : List Value) (hd : decode y.2.1 pc = .ok (.invokevirtual idx, 3)) (L : mm_LV y.1.cls idx y' ci As.length) (hst : st = As.reverse ++ .ref a :: rest) (hsh : mm_SH[a]? = some (ci + 5, N)) (hw : (rest.map fun v => v.category).sum ≤ 8) (hln : (lg_sl (.ref a :: As)).length ≤ y'.2.2.1) (h : mm_CI y' d (.ref a :: As) M K) (kk : ∀ (z : Int32) (m : mm_M), mm_G m.2.2 → K z m → mm_W y (d + 1) 0 0 (pc + 3) lv (.int z :: rest) mm_SH m 0 0 Q) : mm_W y (d + 1) 0 0 pc lv st mm_SH M 0 0 Q := by
  obtain ⟨r, h1, h2, h3, h4, h5, h6⟩ := L
  exact mm_callV hd h1 h2 h3 h4 hst hsh h5 h6 hw hln (Nat.le_refl 0) (Nat.le_refl 0) (mm_post (fun _ _ _ ⟨z, h1, h2, h3, h4⟩ => by subst h1; subst h2; exact kk z _ h3 h4) h)
theorem mm_kNI {a ci N : Nat} {K : Int32 → mm_M → Prop} (As : List Value) (hd : decode y.2.1 pc = .ok (.invokevirtual idx, 3)) (L : mm_LVN y.1.cls idx y' ci As.length) (hst : st = As.reverse ++ .ref a :: rest) (hsh : mm_SH[a]? = some (ci + 5, N)) (hw : (rest.map fun v => v.category).sum ≤ 8) (hln : (lg_sl (.ref a :: As)).length ≤ y'.2.2.1) (h : mm_CI y' d (.ref a :: As) M K) (kk : ∀ (z : Int32) (m : mm_M), mm_G m.2.2 → K z m → mm_W y (d + 1) 0 0 (pc + 3) lv (.int z :: rest) mm_SH m 0 0 Q) : mm_W y (d + 1) 0 0 pc lv st mm_SH M 0 0 Q := by
  obtain ⟨r, host, h1, h2, h3, h4, h5, h6⟩ := L
  exact mm_callVN hd h1 h2 h3 h4 hst hsh h5 h6 hw hln (Nat.le_refl 0) (Nat.le_refl 0) (mm_post (fun _ _ _ ⟨z, h1, h2, h3, h4⟩ => by subst h1; subst h2; exact kk z _ h3 h4) h)
theorem mm_kSI {K : Int32 → mm_M → Prop} (As : List Value) (hd : decode y.2.1 pc = .ok (.invokestatic idx, 3)) (L : mm_LS y.1.cls idx y' As.length) (hst : st = As.reverse ++ rest) (hw : (rest.map fun v => v.category).sum ≤ 8) (hln : (lg_sl As).length ≤ y'.2.2.1) (h : mm_CI y' d As M K) (kk : ∀ (z : Int32) (m : mm_M), mm_G m.2.2 → K z m → mm_W y (d + 1) 0 0 (pc + 3) lv (.int z :: rest) mm_SH m 0 0 Q) : mm_W y (d + 1) 0 0 pc lv st mm_SH M 0 0 Q := by
  obtain ⟨h1, h2, h3⟩ := L
  exact mm_callS hd h1 h2 h3 hst hw hln (Nat.le_refl 0) (Nat.le_refl 0) (mm_post (fun _ _ _ ⟨z, h1, h2, h3, h4⟩ => by subst h1; subst h2; exact kk z _ h3 h4) h)
theorem mm_kVL {a ci N : Nat} {K : Int64 → mm_M → Prop} (As : List Value) (hd : decode y.2.1 pc = .ok (.invokevirtual idx, 3)) (L : mm_LV y.1.cls idx y' ci As.length) (hst : st = As.reverse ++ .ref a :: rest) (hsh : mm_SH[a]? = some (ci + 5, N)) (hw : (rest.map fun v => v.category).sum ≤ 8) (hln : (lg_sl (.ref a :: As)).length ≤ y'.2.2.1) (h : mm_CL y' d (.ref a :: As) M K) (kk : ∀ (z : Int64) (m : mm_M), mm_G m.2.2 → K z m → mm_W y (d + 1) 0 0 (pc + 3) lv (.long z :: rest) mm_SH m 0 0 Q) : mm_W y (d + 1) 0 0 pc lv st mm_SH M 0 0 Q := by
  obtain ⟨r, h1, h2, h3, h4, h5, h6⟩ := L
  exact mm_callV hd h1 h2 h3 h4 hst hsh h5 h6 hw hln (Nat.le_refl 0) (Nat.le_refl 0) (mm_post (fun _ _ _ ⟨z, h1, h2, h3, h4⟩ => by subst h1; subst h2; exact kk z _ h3 h4) h)
theorem mm_kNL {a ci N : Nat} {K : Int64 → mm_M → Prop} (As : List Value) (hd : decode y.2.1 pc = .ok (.invokevirtual idx, 3)) (L : mm_LVN y.1.cls idx y' ci As.length) (hst : st = As.reverse ++ .ref a :: rest) (hsh : mm_SH[a]? = some (ci + 5, N)) (hw : (rest.map fun v => v.category).sum ≤ 8) (hln : (lg_sl (.ref a :: As)).length ≤ y'.2.2.1) (h : mm_CL y' d (.ref a :: As) M K) (kk : ∀ (z : Int64) (m : mm_M), mm_G m.2.2 → K z m → mm_W y (d + 1) 0 0 (pc + 3) lv (.long z :: rest) mm_SH m 0 0 Q) : mm_W y (d + 1) 0 0 pc lv st mm_SH M 0 0 Q := by
  obtain ⟨r, host, h1, h2, h3, h4, h5, h6⟩ := L
  exact mm_callVN hd h1 h2 h3 h4 hst hsh h5 h6 hw hln (Nat.le_refl 0) (Nat.le_refl 0) (mm_post (fun _ _ _ ⟨z, h1, h2, h3, h4⟩ => by subst h1; subst h2; exact kk z _ h3 h4) h)
theorem mm_kSL {K : Int64 → mm_M → Prop} (As : List Value) (hd : decode y.2.1 pc = .ok (.invokestatic idx, 3)) (L : mm_LS y.1.cls idx y' As.length) (hst : st = As.reverse ++ rest) (hw : (rest.map fun v => v.category).sum ≤ 8) (hln : (lg_sl As).length ≤ y'.2.2.1) (h : mm_CL y' d As M K) (kk : ∀ (z : Int64) (m : mm_M), mm_G m.2.2 → K z m → mm_W y (d + 1) 0 0 (pc + 3) lv (.long z :: rest) mm_SH m 0 0 Q) : mm_W y (d + 1) 0 0 pc lv st mm_SH M 0 0 Q := by
  obtain ⟨h1, h2, h3⟩ := L
  exact mm_callS hd h1 h2 h3 hst hw hln (Nat.le_refl 0) (Nat.le_refl 0) (mm_post (fun _ _ _ ⟨z, h1, h2, h3, h4⟩ => by subst h1; subst h2; exact kk z _ h3 h4) h)
theorem mm_kVR {a ci N : Nat} {K : Nat → mm_M → Prop} (As : List Value) (hd : decode y.2.1 pc = .ok (.invokevirtual idx, 3)) (L : mm_LV y.1.cls idx y' ci As.length) (hst : st = As.reverse ++ .ref a :: rest) (hsh : mm_SH[a]? = some (ci + 5, N)) (hw : (rest.map fun v => v.category).sum ≤ 8) (hln : (lg_sl (.ref a :: As)).length ≤ y'.2.2.1) (h : mm_CR y' d (.ref a :: As) M K) (kk : ∀ (z : Nat) (m : mm_M), mm_G m.2.2 → K z m → mm_W y (d + 1) 0 0 (pc + 3) lv (.ref z :: rest) mm_SH m 0 0 Q) : mm_W y (d + 1) 0 0 pc lv st mm_SH M 0 0 Q := by
  obtain ⟨r, h1, h2, h3, h4, h5, h6⟩ := L
  exact mm_callV hd h1 h2 h3 h4 hst hsh h5 h6 hw hln (Nat.le_refl 0) (Nat.le_refl 0) (mm_post (fun _ _ _ ⟨z, h1, h2, h3, h4⟩ => by subst h1; subst h2; exact kk z _ h3 h4) h)
theorem mm_kNR {a ci N : Nat} {K : Nat → mm_M → Prop} (As : List Value) (hd : decode y.2.1 pc = .ok (.invokevirtual idx, 3)) (L : mm_LVN y.1.cls idx y' ci As.length) (hst : st = As.reverse ++ .ref a :: rest) (hsh : mm_SH[a]? = some (ci + 5, N)) (hw : (rest.map fun v => v.category).sum ≤ 8) (hln : (lg_sl (.ref a :: As)).length ≤ y'.2.2.1) (h : mm_CR y' d (.ref a :: As) M K) (kk : ∀ (z : Nat) (m : mm_M), mm_G m.2.2 → K z m → mm_W y (d + 1) 0 0 (pc + 3) lv (.ref z :: rest) mm_SH m 0 0 Q) : mm_W y (d + 1) 0 0 pc lv st mm_SH M 0 0 Q := by
  obtain ⟨r, host, h1, h2, h3, h4, h5, h6⟩ := L
  exact mm_callVN hd h1 h2 h3 h4 hst hsh h5 h6 hw hln (Nat.le_refl 0) (Nat.le_refl 0) (mm_post (fun _ _ _ ⟨z, h1, h2, h3, h4⟩ => by subst h1; subst h2; exact kk z _ h3 h4) h)
theorem mm_kSR {K : Nat → mm_M → Prop} (As : List Value) (hd : decode y.2.1 pc = .ok (.invokestatic idx, 3)) (L : mm_LS y.1.cls idx y' As.length) (hst : st = As.reverse ++ rest) (hw : (rest.map fun v => v.category).sum ≤ 8) (hln : (lg_sl As).length ≤ y'.2.2.1) (h : mm_CR y' d As M K) (kk : ∀ (z : Nat) (m : mm_M), mm_G m.2.2 → K z m → mm_W y (d + 1) 0 0 (pc + 3) lv (.ref z :: rest) mm_SH m 0 0 Q) : mm_W y (d + 1) 0 0 pc lv st mm_SH M 0 0 Q := by
  obtain ⟨h1, h2, h3⟩ := L
  exact mm_callS hd h1 h2 h3 hst hw hln (Nat.le_refl 0) (Nat.le_refl 0) (mm_post (fun _ _ _ ⟨z, h1, h2, h3, h4⟩ => by subst h1; subst h2; exact kk z _ h3 h4) h)
theorem mm_kVV {a ci N : Nat} {K : mm_M → Prop} (As : List Value) (hd : decode y.2.1 pc = .ok (.invokevirtual idx, 3)) (L : mm_LV y.1.cls idx y' ci As.length) (hst : st = As.reverse ++ .ref a :: rest) (hsh : mm_SH[a]? = some (ci + 5, N)) (hw : (rest.map fun v => v.category).sum ≤ 8) (hln : (lg_sl (.ref a :: As)).length ≤ y'.2.2.1) (h : mm_CV y' d (.ref a :: As) M K) (kk : ∀ (m : mm_M), mm_G m.2.2 → K m → mm_W y (d + 1) 0 0 (pc + 3) lv rest mm_SH m 0 0 Q) : mm_W y (d + 1) 0 0 pc lv st mm_SH M 0 0 Q := by
  obtain ⟨r, h1, h2, h3, h4, h5, h6⟩ := L
  exact mm_callV hd h1 h2 h3 h4 hst hsh h5 h6 hw hln (Nat.le_refl 0) (Nat.le_refl 0) (mm_post (fun _ _ _ ⟨h1, h2, h3, h4⟩ => by subst h1; subst h2; exact kk _ h3 h4) h)
theorem mm_kNV {a ci N : Nat} {K : mm_M → Prop} (As : List Value) (hd : decode y.2.1 pc = .ok (.invokevirtual idx, 3)) (L : mm_LVN y.1.cls idx y' ci As.length) (hst : st = As.reverse ++ .ref a :: rest) (hsh : mm_SH[a]? = some (ci + 5, N)) (hw : (rest.map fun v => v.category).sum ≤ 8) (hln : (lg_sl (.ref a :: As)).length ≤ y'.2.2.1) (h : mm_CV y' d (.ref a :: As) M K) (kk : ∀ (m : mm_M), mm_G m.2.2 → K m → mm_W y (d + 1) 0 0 (pc + 3) lv rest mm_SH m 0 0 Q) : mm_W y (d + 1) 0 0 pc lv st mm_SH M 0 0 Q := by
  obtain ⟨r, host, h1, h2, h3, h4, h5, h6⟩ := L
  exact mm_callVN hd h1 h2 h3 h4 hst hsh h5 h6 hw hln (Nat.le_refl 0) (Nat.le_refl 0) (mm_post (fun _ _ _ ⟨h1, h2, h3, h4⟩ => by subst h1; subst h2; exact kk _ h3 h4) h)
theorem mm_kSV {K : mm_M → Prop} (As : List Value) (hd : decode y.2.1 pc = .ok (.invokestatic idx, 3)) (L : mm_LS y.1.cls idx y' As.length) (hst : st = As.reverse ++ rest) (hw : (rest.map fun v => v.category).sum ≤ 8) (hln : (lg_sl As).length ≤ y'.2.2.1) (h : mm_CV y' d As M K) (kk : ∀ (m : mm_M), mm_G m.2.2 → K m → mm_W y (d + 1) 0 0 (pc + 3) lv rest mm_SH m 0 0 Q) : mm_W y (d + 1) 0 0 pc lv st mm_SH M 0 0 Q := by
  obtain ⟨h1, h2, h3⟩ := L
  exact mm_callS hd h1 h2 h3 hst hw hln (Nat.le_refl 0) (Nat.le_refl 0) (mm_post (fun _ _ _ ⟨h1, h2, h3, h4⟩ => by subst h1; subst h2; exact kk _ h3 h4) h)
end MMT
theorem mm_nb {x : Int32} (h : x = 0 ∨ x = 1) : narrow .boolean (.int x) = .int x := by rcases h with rfl | rfl <;> rfl
theorem mm_fb {x : Int32} (h : x = 0 ∨ x = 1) : fits .boolean (.int x) = true := by rcases h with rfl | rfl <;> rfl
theorem lgc_eq {x z : Int64} : lg_cmp x z = 0 ↔ x = z := by
  unfold lg_cmp
  by_cases h1 : z < x
  · have : ¬ x = z := fun e => by subst e; exact Int64.lt_irrefl h1
    simp [h1, this]
  · by_cases h2 : x = z
    · simp [h1, h2]
    · simp [h1, h2]
theorem lgc_lt {x z : Int64} : lg_cmp x z < 0 ↔ x < z := by
  unfold lg_cmp
  by_cases h1 : z < x
  · have : ¬ x < z := fun e => Int64.lt_irrefl (Int64.lt_trans e h1)
    simp [h1, this]
  · by_cases h2 : x = z
    · subst h2; simp
    · have h3 : x < z := by
        rcases Int64.lt_or_eq_of_le (Int64.not_lt.mp h1) with h | h
        · exact h
        · exact absurd h h2
      simp [h1, h2, h3]
theorem lgc_gt {x z : Int64} : 0 < lg_cmp x z ↔ z < x := by
  unfold lg_cmp
  by_cases h1 : z < x
  · simp [h1]
  · by_cases h2 : x = z <;> simp [h1, h2]
theorem lgc_ge {x z : Int64} : 0 ≤ lg_cmp x z ↔ z ≤ x := by
  rw [← Int32.not_lt, lgc_lt, Int64.not_lt]
theorem lgc_le {x z : Int64} : lg_cmp x z ≤ 0 ↔ x ≤ z := by
  rw [← Int32.not_lt, lgc_gt, Int64.not_lt]
