set_option maxRecDepth 100000 in
theorem cw_1 : atP (1, 33) = some (cdW 1) := rfl
set_option maxRecDepth 100000 in
theorem cw_2 : atP (1, 41) = some (cdW 2) := rfl
set_option maxRecDepth 100000 in
theorem cw_3 : atP (1, 47) = some (cdW 3) := rfl
set_option maxRecDepth 100000 in
theorem cw_4 : atP (1, 76) = some (cdW 4) := rfl
set_option maxRecDepth 100000 in
theorem cw_5 : atP (1, 152) = some (cdW 5) := rfl
set_option maxRecDepth 100000 in
theorem cw_6 : atP (2, 4) = some (cdW 6) := rfl
set_option maxRecDepth 100000 in
theorem cw_7 : atP (2, 31) = some (cdW 7) := rfl
set_option maxRecDepth 100000 in
theorem cw_8 : atP (2, 44) = some (cdW 8) := rfl
set_option maxRecDepth 100000 in
theorem cw_9 : atP (2, 84) = some (cdW 9) := rfl
set_option maxRecDepth 100000 in
theorem cw_10 : atP (2, 140) = some (cdW 10) := rfl
set_option maxRecDepth 100000 in
theorem cw_11 : atP (2, 163) = some (cdW 11) := rfl
set_option maxRecDepth 100000 in
theorem cw_12 : atP (2, 196) = some (cdW 12) := rfl
set_option maxRecDepth 100000 in
theorem cw_13 : atP (2, 221) = some (cdW 13) := rfl
set_option maxRecDepth 100000 in
theorem cw_14 : atP (2, 225) = some (cdW 14) := rfl
set_option maxRecDepth 100000 in
theorem cw_15 : atP (2, 228) = some (cdW 15) := rfl
set_option maxRecDepth 100000 in
theorem cw_16 : atP (2, 231) = some (cdW 16) := rfl
set_option maxRecDepth 100000 in
theorem cw_17 : atP (3, 44) = some (cdW 17) := rfl
set_option maxRecDepth 100000 in
theorem cw_18 : atP (3, 48) = some (cdW 18) := rfl
set_option maxRecDepth 100000 in
theorem cw_19 : atP (3, 52) = some (cdW 19) := rfl
set_option maxRecDepth 100000 in
theorem cw_20 : atP (3, 56) = some (cdW 20) := rfl
set_option maxRecDepth 100000 in
theorem cw_21 : atP (3, 60) = some (cdW 21) := rfl
set_option maxRecDepth 100000 in
theorem cw_22 : atP (3, 64) = some (cdW 22) := rfl
set_option maxRecDepth 100000 in
theorem cw_23 : atP (3, 68) = some (cdW 23) := rfl
set_option maxRecDepth 100000 in
theorem cw_24 : atP (3, 71) = some (cdW 24) := rfl
set_option maxRecDepth 100000 in
theorem cw_25 : atP (3, 74) = some (cdW 25) := rfl
set_option maxRecDepth 100000 in
theorem cw_26 : atP (3, 78) = some (cdW 26) := rfl
set_option maxRecDepth 100000 in
theorem cw_27 : atP (3, 81) = some (cdW 27) := rfl
set_option maxRecDepth 100000 in
theorem cw_28 : atP (3, 85) = some (cdW 28) := rfl
set_option maxRecDepth 100000 in
theorem cw_29 : atP (3, 88) = some (cdW 29) := rfl
set_option maxRecDepth 100000 in
theorem cw_30 : atP (3, 92) = some (cdW 30) := rfl
set_option maxRecDepth 100000 in
theorem cw_31 : atP (3, 95) = some (cdW 31) := rfl
set_option maxRecDepth 100000 in
theorem cw_32 : atP (3, 99) = some (cdW 32) := rfl
set_option maxRecDepth 100000 in
theorem cw_33 : atP (3, 104) = some (cdW 33) := rfl
set_option maxRecDepth 100000 in
theorem cw_34 : atP (3, 108) = some (cdW 34) := rfl
set_option maxRecDepth 100000 in
theorem cw_35 : atP (3, 112) = some (cdW 35) := rfl
set_option maxRecDepth 100000 in
theorem cw_36 : atP (3, 116) = some (cdW 36) := rfl
set_option maxRecDepth 100000 in
theorem cw_37 : atP (3, 126) = some (cdW 37) := rfl
set_option maxRecDepth 100000 in
theorem cw_38 : atP (3, 130) = some (cdW 38) := rfl
set_option maxRecDepth 100000 in
theorem cw_39 : atP (3, 134) = some (cdW 39) := rfl
set_option maxRecDepth 100000 in
theorem cw_40 : atP (3, 138) = some (cdW 40) := rfl
set_option maxRecDepth 100000 in
theorem cw_41 : atP (3, 142) = some (cdW 41) := rfl
set_option maxRecDepth 100000 in
theorem cw_42 : atP (3, 146) = some (cdW 42) := rfl
set_option maxRecDepth 100000 in
theorem cw_43 : atP (3, 150) = some (cdW 43) := rfl
set_option maxRecDepth 100000 in
theorem cw_44 : atP (3, 154) = some (cdW 44) := rfl
set_option maxRecDepth 100000 in
theorem cw_45 : atP (3, 158) = some (cdW 45) := rfl
set_option maxRecDepth 100000 in
theorem cw_46 : atP (3, 162) = some (cdW 46) := rfl
set_option maxRecDepth 100000 in
theorem cw_47 : atP (3, 166) = some (cdW 47) := rfl
set_option maxRecDepth 100000 in
theorem cw_48 : atP (3, 170) = some (cdW 48) := rfl
set_option maxRecDepth 100000 in
theorem cw_49 : atP (3, 174) = some (cdW 49) := rfl
set_option maxRecDepth 100000 in
theorem cw_50 : atP (3, 178) = some (cdW 50) := rfl
set_option maxRecDepth 100000 in
theorem cw_51 : atP (3, 183) = some (cdW 51) := rfl
set_option maxRecDepth 100000 in
theorem cw_52 : atP (3, 187) = some (cdW 52) := rfl
set_option maxRecDepth 100000 in
theorem cw_53 : atP (3, 191) = some (cdW 53) := rfl
set_option maxRecDepth 100000 in
theorem cw_54 : atP (3, 195) = some (cdW 54) := rfl
set_option maxRecDepth 100000 in
theorem cw_55 : atP (3, 199) = some (cdW 55) := rfl
set_option maxRecDepth 100000 in
theorem cw_56 : atP (3, 205) = some (cdW 56) := rfl
set_option maxRecDepth 100000 in
theorem cw_57 : atP (3, 209) = some (cdW 57) := rfl
set_option maxRecDepth 100000 in
theorem cw_58 : atP (3, 213) = some (cdW 58) := rfl
set_option maxRecDepth 100000 in
theorem cw_59 : atP (3, 217) = some (cdW 59) := rfl
set_option maxRecDepth 100000 in
theorem cw_60 : atP (3, 221) = some (cdW 60) := rfl
set_option maxRecDepth 100000 in
theorem cw_61 : atP (3, 225) = some (cdW 61) := rfl
set_option maxRecDepth 100000 in
theorem cw_62 : atP (3, 228) = some (cdW 62) := rfl
set_option maxRecDepth 100000 in
theorem cw_63 : atP (3, 232) = some (cdW 63) := rfl
set_option maxRecDepth 100000 in
theorem cw_64 : atP (3, 235) = some (cdW 64) := rfl
set_option maxRecDepth 100000 in
theorem cw_65 : atP (3, 238) = some (cdW 65) := rfl
set_option maxRecDepth 100000 in
theorem cw_66 : atP (4, 3) = some (cdW 66) := rfl
set_option maxRecDepth 100000 in
theorem cw_67 : atP (4, 7) = some (cdW 67) := rfl
set_option maxRecDepth 100000 in
theorem cw_68 : atP (4, 11) = some (cdW 68) := rfl
set_option maxRecDepth 100000 in
theorem cw_69 : atP (4, 15) = some (cdW 69) := rfl
set_option maxRecDepth 100000 in
theorem cw_70 : atP (4, 19) = some (cdW 70) := rfl
set_option maxRecDepth 100000 in
theorem cw_71 : atP (4, 23) = some (cdW 71) := rfl
set_option maxRecDepth 100000 in
theorem cw_72 : atP (4, 27) = some (cdW 72) := rfl
set_option maxRecDepth 100000 in
theorem cw_73 : atP (4, 31) = some (cdW 73) := rfl
set_option maxRecDepth 100000 in
theorem cw_74 : atP (4, 35) = some (cdW 74) := rfl
set_option maxRecDepth 100000 in
theorem cw_75 : atP (4, 39) = some (cdW 75) := rfl
set_option maxRecDepth 100000 in
theorem cw_76 : atP (4, 43) = some (cdW 76) := rfl
set_option maxRecDepth 100000 in
theorem cw_77 : atP (4, 47) = some (cdW 77) := rfl
set_option maxRecDepth 100000 in
theorem cw_78 : atP (4, 52) = some (cdW 78) := rfl
set_option maxRecDepth 100000 in
theorem cw_79 : atP (4, 57) = some (cdW 79) := rfl
set_option maxRecDepth 100000 in
theorem cw_80 : atP (4, 62) = some (cdW 80) := rfl
set_option maxRecDepth 100000 in
theorem cw_81 : atP (4, 66) = some (cdW 81) := rfl
set_option maxRecDepth 100000 in
theorem cw_82 : atP (4, 70) = some (cdW 82) := rfl
set_option maxRecDepth 100000 in
theorem cw_83 : atP (4, 75) = some (cdW 83) := rfl
set_option maxRecDepth 100000 in
theorem cw_84 : atP (4, 79) = some (cdW 84) := rfl
set_option maxRecDepth 100000 in
theorem cw_85 : atP (4, 83) = some (cdW 85) := rfl
set_option maxRecDepth 100000 in
theorem cw_86 : atP (4, 87) = some (cdW 86) := rfl
set_option maxRecDepth 100000 in
theorem cw_87 : atP (4, 92) = some (cdW 87) := rfl
set_option maxRecDepth 100000 in
theorem cw_88 : atP (4, 96) = some (cdW 88) := rfl
set_option maxRecDepth 100000 in
theorem cw_89 : atP (4, 100) = some (cdW 89) := rfl
set_option maxRecDepth 100000 in
theorem cw_90 : atP (4, 104) = some (cdW 90) := rfl
set_option maxRecDepth 100000 in
theorem cw_91 : atP (4, 109) = some (cdW 91) := rfl
set_option maxRecDepth 100000 in
theorem cw_92 : atP (4, 113) = some (cdW 92) := rfl
set_option maxRecDepth 100000 in
theorem cw_93 : atP (4, 117) = some (cdW 93) := rfl
set_option maxRecDepth 100000 in
theorem cw_94 : atP (4, 121) = some (cdW 94) := rfl
set_option maxRecDepth 100000 in
theorem cw_95 : atP (4, 125) = some (cdW 95) := rfl
set_option maxRecDepth 100000 in
theorem cw_96 : atP (4, 130) = some (cdW 96) := rfl
set_option maxRecDepth 100000 in
theorem cw_97 : atP (4, 134) = some (cdW 97) := rfl
set_option maxRecDepth 100000 in
theorem cw_98 : atP (4, 138) = some (cdW 98) := rfl
set_option maxRecDepth 100000 in
theorem cw_99 : atP (4, 142) = some (cdW 99) := rfl
set_option maxRecDepth 100000 in
theorem cw_100 : atP (4, 147) = some (cdW 100) := rfl
set_option maxRecDepth 100000 in
theorem cw_101 : atP (4, 151) = some (cdW 101) := rfl
set_option maxRecDepth 100000 in
theorem cw_102 : atP (4, 156) = some (cdW 102) := rfl
set_option maxRecDepth 100000 in
theorem cw_103 : atP (4, 159) = some (cdW 103) := rfl
set_option maxRecDepth 100000 in
theorem cw_104 : atP (4, 166) = some (cdW 104) := rfl
set_option maxRecDepth 100000 in
theorem cw_105 : atP (4, 170) = some (cdW 105) := rfl
set_option maxRecDepth 100000 in
theorem cw_106 : atP (4, 174) = some (cdW 106) := rfl
set_option maxRecDepth 100000 in
theorem cw_107 : atP (4, 178) = some (cdW 107) := rfl
set_option maxRecDepth 100000 in
theorem cw_108 : atP (4, 182) = some (cdW 108) := rfl
set_option maxRecDepth 100000 in
theorem cw_109 : atP (4, 186) = some (cdW 109) := rfl
set_option maxRecDepth 100000 in
theorem cw_110 : atP (4, 190) = some (cdW 110) := rfl
set_option maxRecDepth 100000 in
theorem cw_111 : atP (4, 194) = some (cdW 111) := rfl
set_option maxRecDepth 100000 in
theorem cw_112 : atP (4, 198) = some (cdW 112) := rfl
set_option maxRecDepth 100000 in
theorem cw_113 : atP (4, 202) = some (cdW 113) := rfl
set_option maxRecDepth 100000 in
theorem cw_114 : atP (4, 207) = some (cdW 114) := rfl
set_option maxRecDepth 100000 in
theorem cw_115 : atP (4, 212) = some (cdW 115) := rfl
set_option maxRecDepth 100000 in
theorem cw_116 : atP (4, 216) = some (cdW 116) := rfl
set_option maxRecDepth 100000 in
theorem cw_117 : atP (4, 221) = some (cdW 117) := rfl
set_option maxRecDepth 100000 in
theorem cw_118 : atP (4, 226) = some (cdW 118) := rfl
set_option maxRecDepth 100000 in
theorem cw_119 : atP (4, 231) = some (cdW 119) := rfl
set_option maxRecDepth 100000 in
theorem cw_120 : atP (4, 239) = some (cdW 120) := rfl
set_option maxRecDepth 100000 in
theorem cw_121 : atP (5, 3) = some (cdW 121) := rfl
set_option maxRecDepth 100000 in
theorem cw_122 : atP (5, 7) = some (cdW 122) := rfl
set_option maxRecDepth 100000 in
theorem cw_123 : atP (5, 13) = some (cdW 123) := rfl
set_option maxRecDepth 100000 in
theorem cw_124 : atP (5, 18) = some (cdW 124) := rfl
set_option maxRecDepth 100000 in
theorem cw_125 : atP (5, 23) = some (cdW 125) := rfl
set_option maxRecDepth 100000 in
theorem cw_126 : atP (5, 27) = some (cdW 126) := rfl
set_option maxRecDepth 100000 in
theorem cw_127 : atP (5, 31) = some (cdW 127) := rfl
set_option maxRecDepth 100000 in
theorem cw_128 : atP (5, 35) = some (cdW 128) := rfl
set_option maxRecDepth 100000 in
theorem cw_129 : atP (5, 41) = some (cdW 129) := rfl
set_option maxRecDepth 100000 in
theorem cw_130 : atP (5, 45) = some (cdW 130) := rfl
set_option maxRecDepth 100000 in
theorem cw_131 : atP (5, 49) = some (cdW 131) := rfl
set_option maxRecDepth 100000 in
theorem cw_132 : atP (5, 54) = some (cdW 132) := rfl
set_option maxRecDepth 100000 in
theorem cw_133 : atP (5, 59) = some (cdW 133) := rfl
set_option maxRecDepth 100000 in
theorem cw_134 : atP (5, 63) = some (cdW 134) := rfl
set_option maxRecDepth 100000 in
theorem cw_135 : atP (5, 69) = some (cdW 135) := rfl
set_option maxRecDepth 100000 in
theorem cw_136 : atP (5, 76) = some (cdW 136) := rfl
set_option maxRecDepth 100000 in
theorem cw_137 : atP (5, 81) = some (cdW 137) := rfl
set_option maxRecDepth 100000 in
theorem cw_138 : atP (5, 86) = some (cdW 138) := rfl
set_option maxRecDepth 100000 in
theorem cw_139 : atP (5, 92) = some (cdW 139) := rfl
set_option maxRecDepth 100000 in
theorem cw_140 : atP (5, 96) = some (cdW 140) := rfl
set_option maxRecDepth 100000 in
theorem cw_141 : atP (5, 100) = some (cdW 141) := rfl
set_option maxRecDepth 100000 in
theorem cw_142 : atP (5, 104) = some (cdW 142) := rfl
set_option maxRecDepth 100000 in
theorem cw_143 : atP (5, 108) = some (cdW 143) := rfl
set_option maxRecDepth 100000 in
theorem cw_144 : atP (5, 112) = some (cdW 144) := rfl
set_option maxRecDepth 100000 in
theorem cw_145 : atP (5, 120) = some (cdW 145) := rfl
set_option maxRecDepth 100000 in
theorem cw_146 : atP (5, 126) = some (cdW 146) := rfl
set_option maxRecDepth 100000 in
theorem cw_147 : atP (5, 130) = some (cdW 147) := rfl
set_option maxRecDepth 100000 in
theorem cw_148 : atP (5, 136) = some (cdW 148) := rfl
set_option maxRecDepth 100000 in
theorem cw_149 : atP (5, 144) = some (cdW 149) := rfl
set_option maxRecDepth 100000 in
theorem cw_150 : atP (5, 152) = some (cdW 150) := rfl
set_option maxRecDepth 100000 in
theorem cw_151 : atP (5, 156) = some (cdW 151) := rfl
set_option maxRecDepth 100000 in
theorem cw_152 : atP (5, 160) = some (cdW 152) := rfl
set_option maxRecDepth 100000 in
theorem cw_153 : atP (5, 164) = some (cdW 153) := rfl
set_option maxRecDepth 100000 in
theorem cw_154 : atP (5, 168) = some (cdW 154) := rfl
set_option maxRecDepth 100000 in
theorem cw_155 : atP (5, 175) = some (cdW 155) := rfl
set_option maxRecDepth 100000 in
theorem cw_156 : atP (5, 181) = some (cdW 156) := rfl
set_option maxRecDepth 100000 in
theorem cw_157 : atP (5, 186) = some (cdW 157) := rfl
set_option maxRecDepth 100000 in
theorem cw_158 : atP (5, 193) = some (cdW 158) := rfl
set_option maxRecDepth 100000 in
theorem cw_159 : atP (5, 197) = some (cdW 159) := rfl
set_option maxRecDepth 100000 in
theorem cw_160 : atP (5, 201) = some (cdW 160) := rfl
set_option maxRecDepth 100000 in
theorem cw_161 : atP (5, 205) = some (cdW 161) := rfl
set_option maxRecDepth 100000 in
theorem cw_162 : atP (5, 209) = some (cdW 162) := rfl
set_option maxRecDepth 100000 in
theorem cw_163 : atP (5, 213) = some (cdW 163) := rfl
set_option maxRecDepth 100000 in
theorem cw_164 : atP (5, 217) = some (cdW 164) := rfl
set_option maxRecDepth 100000 in
theorem cw_165 : atP (5, 221) = some (cdW 165) := rfl
set_option maxRecDepth 100000 in
theorem cw_166 : atP (5, 225) = some (cdW 166) := rfl
set_option maxRecDepth 100000 in
theorem cw_167 : atP (5, 229) = some (cdW 167) := rfl
set_option maxRecDepth 100000 in
theorem cw_168 : atP (5, 233) = some (cdW 168) := rfl
set_option maxRecDepth 100000 in
theorem cw_169 : atP (5, 237) = some (cdW 169) := rfl
set_option maxRecDepth 100000 in
theorem cw_170 : atP (6, 1) = some (cdW 170) := rfl
set_option maxRecDepth 100000 in
theorem cw_171 : atP (6, 7) = some (cdW 171) := rfl
set_option maxRecDepth 100000 in
theorem cw_172 : atP (6, 11) = some (cdW 172) := rfl
set_option maxRecDepth 100000 in
theorem cw_173 : atP (6, 15) = some (cdW 173) := rfl
set_option maxRecDepth 100000 in
theorem cw_174 : atP (6, 19) = some (cdW 174) := rfl
set_option maxRecDepth 100000 in
theorem cw_175 : atP (6, 25) = some (cdW 175) := rfl
set_option maxRecDepth 100000 in
theorem cw_176 : atP (6, 28) = some (cdW 176) := rfl
set_option maxRecDepth 100000 in
theorem cw_177 : atP (6, 33) = some (cdW 177) := rfl
set_option maxRecDepth 100000 in
theorem cw_178 : atP (6, 103) = some (cdW 178) := rfl
set_option maxRecDepth 100000 in
theorem cw_179 : atP (6, 108) = some (cdW 179) := rfl
set_option maxRecDepth 100000 in
theorem cw_180 : atP (6, 121) = some (cdW 180) := rfl
set_option maxRecDepth 100000 in
theorem cw_181 : atP (6, 124) = some (cdW 181) := rfl
set_option maxRecDepth 100000 in
theorem cw_182 : atP (6, 127) = some (cdW 182) := rfl
set_option maxRecDepth 100000 in
theorem cw_183 : atP (6, 130) = some (cdW 183) := rfl
set_option maxRecDepth 100000 in
theorem cw_184 : atP (7, 68) = some (cdW 184) := rfl
set_option maxRecDepth 100000 in
theorem cw_185 : atP (7, 72) = some (cdW 185) := rfl
set_option maxRecDepth 100000 in
theorem cw_186 : atP (7, 76) = some (cdW 186) := rfl
set_option maxRecDepth 100000 in
theorem cw_187 : atP (7, 80) = some (cdW 187) := rfl
set_option maxRecDepth 100000 in
theorem cw_188 : atP (7, 85) = some (cdW 188) := rfl
set_option maxRecDepth 100000 in
theorem cw_189 : atP (7, 107) = some (cdW 189) := rfl
set_option maxRecDepth 100000 in
theorem cw_190 : atP (7, 111) = some (cdW 190) := rfl
set_option maxRecDepth 100000 in
theorem cw_191 : atP (7, 114) = some (cdW 191) := rfl
set_option maxRecDepth 100000 in
theorem cw_192 : atP (7, 118) = some (cdW 192) := rfl
set_option maxRecDepth 100000 in
theorem cw_193 : atP (7, 122) = some (cdW 193) := rfl
set_option maxRecDepth 100000 in
theorem cw_194 : atP (7, 127) = some (cdW 194) := rfl
set_option maxRecDepth 100000 in
theorem cw_195 : atP (7, 130) = some (cdW 195) := rfl
set_option maxRecDepth 100000 in
theorem cw_196 : atP (7, 134) = some (cdW 196) := rfl
set_option maxRecDepth 100000 in
theorem cw_197 : atP (7, 138) = some (cdW 197) := rfl
set_option maxRecDepth 100000 in
theorem cw_198 : atP (7, 144) = some (cdW 198) := rfl
set_option maxRecDepth 100000 in
theorem cw_199 : atP (7, 148) = some (cdW 199) := rfl
set_option maxRecDepth 100000 in
theorem cw_200 : atP (7, 151) = some (cdW 200) := rfl
set_option maxRecDepth 100000 in
theorem cw_201 : atP (7, 154) = some (cdW 201) := rfl
set_option maxRecDepth 100000 in
theorem cw_202 : atP (7, 159) = some (cdW 202) := rfl
set_option maxRecDepth 100000 in
theorem cw_203 : atP (7, 182) = some (cdW 203) := rfl
set_option maxRecDepth 100000 in
theorem cw_204 : atP (7, 186) = some (cdW 204) := rfl
set_option maxRecDepth 100000 in
theorem cw_205 : atP (7, 191) = some (cdW 205) := rfl
set_option maxRecDepth 100000 in
theorem cw_206 : atP (7, 201) = some (cdW 206) := rfl
set_option maxRecDepth 100000 in
theorem cw_207 : atP (7, 205) = some (cdW 207) := rfl
set_option maxRecDepth 100000 in
theorem cw_208 : atP (7, 209) = some (cdW 208) := rfl
set_option maxRecDepth 100000 in
theorem cw_209 : atP (7, 213) = some (cdW 209) := rfl
set_option maxRecDepth 100000 in
theorem cw_210 : atP (7, 217) = some (cdW 210) := rfl
set_option maxRecDepth 100000 in
theorem cw_211 : atP (7, 221) = some (cdW 211) := rfl
set_option maxRecDepth 100000 in
theorem cw_212 : atP (7, 225) = some (cdW 212) := rfl
set_option maxRecDepth 100000 in
theorem cw_213 : atP (7, 229) = some (cdW 213) := rfl
set_option maxRecDepth 100000 in
theorem cw_214 : atP (7, 233) = some (cdW 214) := rfl
set_option maxRecDepth 100000 in
theorem cw_215 : atP (7, 237) = some (cdW 215) := rfl
set_option maxRecDepth 100000 in
theorem cw_216 : atP (8, 1) = some (cdW 216) := rfl
set_option maxRecDepth 100000 in
theorem cw_217 : atP (8, 5) = some (cdW 217) := rfl
set_option maxRecDepth 100000 in
theorem cw_218 : atP (8, 9) = some (cdW 218) := rfl
set_option maxRecDepth 100000 in
theorem cw_219 : atP (8, 12) = some (cdW 219) := rfl
set_option maxRecDepth 100000 in
theorem cw_220 : atP (8, 16) = some (cdW 220) := rfl
set_option maxRecDepth 100000 in
theorem cw_221 : atP (8, 20) = some (cdW 221) := rfl
set_option maxRecDepth 100000 in
theorem cw_222 : atP (8, 24) = some (cdW 222) := rfl
set_option maxRecDepth 100000 in
theorem cw_223 : atP (8, 28) = some (cdW 223) := rfl
set_option maxRecDepth 100000 in
theorem cw_224 : atP (8, 32) = some (cdW 224) := rfl
set_option maxRecDepth 100000 in
theorem cw_225 : atP (8, 36) = some (cdW 225) := rfl
set_option maxRecDepth 100000 in
theorem cw_226 : atP (8, 40) = some (cdW 226) := rfl
set_option maxRecDepth 100000 in
theorem cw_227 : atP (8, 44) = some (cdW 227) := rfl
set_option maxRecDepth 100000 in
theorem cw_228 : atP (8, 49) = some (cdW 228) := rfl
set_option maxRecDepth 100000 in
theorem cw_229 : atP (8, 53) = some (cdW 229) := rfl
set_option maxRecDepth 100000 in
theorem cw_230 : atP (8, 57) = some (cdW 230) := rfl
set_option maxRecDepth 100000 in
theorem cw_231 : atP (8, 61) = some (cdW 231) := rfl
set_option maxRecDepth 100000 in
theorem cw_232 : atP (8, 64) = some (cdW 232) := rfl
set_option maxRecDepth 100000 in
theorem cw_233 : atP (8, 68) = some (cdW 233) := rfl
set_option maxRecDepth 100000 in
theorem cw_234 : atP (8, 72) = some (cdW 234) := rfl
set_option maxRecDepth 100000 in
theorem cw_235 : atP (8, 79) = some (cdW 235) := rfl
set_option maxRecDepth 100000 in
theorem cw_236 : atP (8, 83) = some (cdW 236) := rfl
set_option maxRecDepth 100000 in
theorem cw_237 : atP (8, 87) = some (cdW 237) := rfl
set_option maxRecDepth 100000 in
theorem cw_238 : atP (8, 91) = some (cdW 238) := rfl
set_option maxRecDepth 100000 in
theorem cw_239 : atP (8, 95) = some (cdW 239) := rfl
set_option maxRecDepth 100000 in
theorem cw_240 : atP (8, 99) = some (cdW 240) := rfl
set_option maxRecDepth 100000 in
theorem cw_241 : atP (8, 103) = some (cdW 241) := rfl
set_option maxRecDepth 100000 in
theorem cw_242 : atP (8, 107) = some (cdW 242) := rfl
set_option maxRecDepth 100000 in
theorem cw_243 : atP (8, 111) = some (cdW 243) := rfl
set_option maxRecDepth 100000 in
theorem cw_244 : atP (8, 115) = some (cdW 244) := rfl
set_option maxRecDepth 100000 in
theorem cw_245 : atP (8, 119) = some (cdW 245) := rfl
set_option maxRecDepth 100000 in
theorem cw_246 : atP (8, 123) = some (cdW 246) := rfl
set_option maxRecDepth 100000 in
theorem cw_247 : atP (8, 127) = some (cdW 247) := rfl
set_option maxRecDepth 100000 in
theorem cw_248 : atP (8, 131) = some (cdW 248) := rfl
set_option maxRecDepth 100000 in
theorem cw_249 : atP (8, 135) = some (cdW 249) := rfl
set_option maxRecDepth 100000 in
theorem cw_250 : atP (8, 139) = some (cdW 250) := rfl
set_option maxRecDepth 100000 in
theorem cw_251 : atP (8, 143) = some (cdW 251) := rfl
set_option maxRecDepth 100000 in
theorem cw_252 : atP (8, 147) = some (cdW 252) := rfl
set_option maxRecDepth 100000 in
theorem cw_253 : atP (8, 151) = some (cdW 253) := rfl
set_option maxRecDepth 100000 in
theorem cw_254 : atP (8, 155) = some (cdW 254) := rfl
set_option maxRecDepth 100000 in
theorem cw_255 : atP (8, 159) = some (cdW 255) := rfl
set_option maxRecDepth 100000 in
theorem cw_256 : atP (8, 163) = some (cdW 256) := rfl
set_option maxRecDepth 100000 in
theorem cw_257 : atP (8, 167) = some (cdW 257) := rfl
set_option maxRecDepth 100000 in
theorem cw_258 : atP (8, 171) = some (cdW 258) := rfl
set_option maxRecDepth 100000 in
theorem cw_259 : atP (8, 175) = some (cdW 259) := rfl
set_option maxRecDepth 100000 in
theorem cw_260 : atP (8, 179) = some (cdW 260) := rfl
set_option maxRecDepth 100000 in
theorem cw_261 : atP (8, 183) = some (cdW 261) := rfl
set_option maxRecDepth 100000 in
theorem cw_262 : atP (8, 187) = some (cdW 262) := rfl
set_option maxRecDepth 100000 in
theorem cw_263 : atP (8, 191) = some (cdW 263) := rfl
set_option maxRecDepth 100000 in
theorem cw_264 : atP (8, 195) = some (cdW 264) := rfl
set_option maxRecDepth 100000 in
theorem cw_265 : atP (8, 199) = some (cdW 265) := rfl
set_option maxRecDepth 100000 in
theorem cw_266 : atP (8, 203) = some (cdW 266) := rfl
set_option maxRecDepth 100000 in
theorem cw_267 : atP (8, 207) = some (cdW 267) := rfl
set_option maxRecDepth 100000 in
theorem cw_268 : atP (8, 211) = some (cdW 268) := rfl
set_option maxRecDepth 100000 in
theorem cw_269 : atP (8, 215) = some (cdW 269) := rfl
set_option maxRecDepth 100000 in
theorem cw_270 : atP (8, 219) = some (cdW 270) := rfl
set_option maxRecDepth 100000 in
theorem cw_271 : atP (8, 223) = some (cdW 271) := rfl
set_option maxRecDepth 100000 in
theorem cw_272 : atP (8, 226) = some (cdW 272) := rfl
set_option maxRecDepth 100000 in
theorem cw_273 : atP (8, 230) = some (cdW 273) := rfl
set_option maxRecDepth 100000 in
theorem cw_274 : atP (8, 234) = some (cdW 274) := rfl
set_option maxRecDepth 100000 in
theorem cw_275 : atP (8, 238) = some (cdW 275) := rfl
set_option maxRecDepth 100000 in
theorem cw_276 : atP (9, 2) = some (cdW 276) := rfl
set_option maxRecDepth 100000 in
theorem cw_277 : atP (9, 6) = some (cdW 277) := rfl
set_option maxRecDepth 100000 in
theorem cw_278 : atP (9, 10) = some (cdW 278) := rfl
set_option maxRecDepth 100000 in
theorem cw_279 : atP (9, 14) = some (cdW 279) := rfl
set_option maxRecDepth 100000 in
theorem cw_280 : atP (9, 18) = some (cdW 280) := rfl
