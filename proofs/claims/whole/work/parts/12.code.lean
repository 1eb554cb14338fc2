set_option maxRecDepth 100000 in
theorem ck_0 : chkL 0 (cd 0) = true := by decide +kernel
set_option maxRecDepth 100000 in
theorem ck_1 : chkL 1 (cd 1) = true := by decide +kernel
set_option maxRecDepth 100000 in
theorem ck_2 : chkL 2 (cd 2) = true := by decide +kernel
set_option maxRecDepth 100000 in
theorem ck_3 : chkL 3 (cd 3) = true := by decide +kernel
set_option maxRecDepth 100000 in
theorem ck_4 : chkL 4 (cd 4) = true := by decide +kernel
set_option maxRecDepth 100000 in
theorem ck_5 : chkL 5 (cd 5) = true := by decide +kernel
set_option maxRecDepth 100000 in
theorem ck_6 : chkL 6 (cd 6) = true := by decide +kernel
set_option maxRecDepth 100000 in
theorem ck_7 : chkL 7 (cd 7) = true := by decide +kernel
set_option maxRecDepth 100000 in
theorem ck_8 : chkL 8 (cd 8) = true := by decide +kernel
set_option maxRecDepth 100000 in
theorem ck_9 : chkL 9 (cd 9) = true := by decide +kernel
set_option maxRecDepth 100000 in
theorem ck_10 : chkL 10 (cd 10) = true := by decide +kernel
set_option maxRecDepth 100000 in
theorem ck_11 : chkL 11 (cd 11) = true := by decide +kernel
set_option maxRecDepth 100000 in
theorem ck_12 : chkL 12 (cd 12) = true := by decide +kernel
set_option maxRecDepth 100000 in
theorem ck_13 : chkL 13 (cd 13) = true := by decide +kernel
set_option maxRecDepth 100000 in
theorem ck_14 : chkL 14 (cd 14) = true := by decide +kernel
set_option maxRecDepth 100000 in
theorem ck_15 : chkL 15 (cd 15) = true := by decide +kernel
set_option maxRecDepth 100000 in
theorem ck_16 : chkL 16 (cd 16) = true := by decide +kernel
set_option maxRecDepth 100000 in
theorem ck_17 : chkL 17 (cd 17) = true := by decide +kernel
set_option maxRecDepth 100000 in
theorem ck_18 : chkL 18 (cd 18) = true := by decide +kernel
set_option maxRecDepth 100000 in
theorem ck_19 : chkL 19 (cd 19) = true := by decide +kernel
set_option maxRecDepth 100000 in
theorem ck_20 : chkL 20 (cd 20) = true := by decide +kernel
set_option maxRecDepth 100000 in
theorem ck_21 : chkL 21 (cd 21) = true := by decide +kernel
set_option maxRecDepth 100000 in
theorem ck_22 : chkL 22 (cd 22) = true := by decide +kernel
set_option maxRecDepth 100000 in
theorem ck_23 : chkL 23 (cd 23) = true := by decide +kernel
set_option maxRecDepth 100000 in
theorem ck_24 : chkL 24 (cd 24) = true := by decide +kernel
set_option maxRecDepth 100000 in
theorem ck_25 : chkL 25 (cd 25) = true := by decide +kernel
set_option maxRecDepth 100000 in
theorem ck_26 : chkL 26 (cd 26) = true := by decide +kernel
set_option maxRecDepth 100000 in
theorem ck_27 : chkL 27 (cd 27) = true := by decide +kernel
set_option maxRecDepth 100000 in
theorem ck_28 : chkL 28 (cd 28) = true := by decide +kernel
set_option maxRecDepth 100000 in
theorem ck_29 : chkL 29 (cd 29) = true := by decide +kernel
set_option maxRecDepth 100000 in
theorem ck_30 : chkL 30 (cd 30) = true := by decide +kernel
set_option maxRecDepth 100000 in
theorem ck_31 : chkL 31 (cd 31) = true := by decide +kernel
set_option maxRecDepth 100000 in
theorem ck_32 : chkL 32 (cd 32) = true := by decide +kernel
set_option maxRecDepth 100000 in
theorem ck_33 : chkL 33 (cd 33) = true := by decide +kernel
set_option maxRecDepth 100000 in
theorem ck_34 : chkL 34 (cd 34) = true := by decide +kernel
set_option maxRecDepth 100000 in
theorem ck_35 : chkL 35 (cd 35) = true := by decide +kernel
set_option maxRecDepth 100000 in
theorem ck_36 : chkL 36 (cd 36) = true := by decide +kernel
set_option maxRecDepth 100000 in
theorem ck_37 : chkL 37 (cd 37) = true := by decide +kernel
set_option maxRecDepth 100000 in
theorem ck_38 : chkL 38 (cd 38) = true := by decide +kernel
set_option maxRecDepth 100000 in
theorem ck_39 : chkL 39 (cd 39) = true := by decide +kernel
set_option maxRecDepth 100000 in
theorem ck_40 : chkL 40 (cd 40) = true := by decide +kernel
set_option maxRecDepth 100000 in
theorem ck_41 : chkL 41 (cd 41) = true := by decide +kernel
set_option maxRecDepth 100000 in
theorem ck_42 : chkL 42 (cd 42) = true := by decide +kernel
set_option maxRecDepth 100000 in
theorem ck_43 : chkL 43 (cd 43) = true := by decide +kernel
set_option maxRecDepth 100000 in
theorem ck_44 : chkL 44 (cd 44) = true := by decide +kernel
set_option maxRecDepth 100000 in
theorem ck_45 : chkL 45 (cd 45) = true := by decide +kernel
set_option maxRecDepth 100000 in
theorem ck_46 : chkL 46 (cd 46) = true := by decide +kernel
set_option maxRecDepth 100000 in
theorem ck_47 : chkL 47 (cd 47) = true := by decide +kernel
set_option maxRecDepth 100000 in
theorem ck_48 : chkL 48 (cd 48) = true := by decide +kernel
set_option maxRecDepth 100000 in
theorem ck_49 : chkL 49 (cd 49) = true := by decide +kernel
set_option maxRecDepth 100000 in
theorem ck_50 : chkL 50 (cd 50) = true := by decide +kernel
set_option maxRecDepth 100000 in
theorem ck_51 : chkL 51 (cd 51) = true := by decide +kernel
set_option maxRecDepth 100000 in
theorem ck_52 : chkL 52 (cd 52) = true := by decide +kernel
set_option maxRecDepth 100000 in
theorem ck_53 : chkL 53 (cd 53) = true := by decide +kernel
set_option maxRecDepth 100000 in
theorem ck_54 : chkL 54 (cd 54) = true := by decide +kernel
set_option maxRecDepth 100000 in
theorem ck_55 : chkL 55 (cd 55) = true := by decide +kernel
set_option maxRecDepth 100000 in
theorem ck_56 : chkL 56 (cd 56) = true := by decide +kernel
set_option maxRecDepth 100000 in
theorem ck_57 : chkL 57 (cd 57) = true := by decide +kernel
set_option maxRecDepth 100000 in
theorem ck_58 : chkL 58 (cd 58) = true := by decide +kernel
set_option maxRecDepth 100000 in
theorem ck_59 : chkL 59 (cd 59) = true := by decide +kernel
set_option maxRecDepth 100000 in
theorem ck_60 : chkL 60 (cd 60) = true := by decide +kernel
set_option maxRecDepth 100000 in
theorem ck_61 : chkL 61 (cd 61) = true := by decide +kernel
set_option maxRecDepth 100000 in
theorem ck_62 : chkL 62 (cd 62) = true := by decide +kernel
set_option maxRecDepth 100000 in
theorem ck_63 : chkL 63 (cd 63) = true := by decide +kernel
set_option maxRecDepth 100000 in
theorem ck_64 : chkL 64 (cd 64) = true := by decide +kernel
set_option maxRecDepth 100000 in
theorem ck_65 : chkL 65 (cd 65) = true := by decide +kernel
set_option maxRecDepth 100000 in
theorem ck_66 : chkL 66 (cd 66) = true := by decide +kernel
set_option maxRecDepth 100000 in
theorem ck_67 : chkL 67 (cd 67) = true := by decide +kernel
set_option maxRecDepth 100000 in
theorem ck_68 : chkL 68 (cd 68) = true := by decide +kernel
set_option maxRecDepth 100000 in
theorem ck_69 : chkL 69 (cd 69) = true := by decide +kernel
set_option maxRecDepth 100000 in
theorem ck_70 : chkL 70 (cd 70) = true := by decide +kernel
set_option maxRecDepth 100000 in
theorem ck_71 : chkL 71 (cd 71) = true := by decide +kernel
set_option maxRecDepth 100000 in
theorem ck_72 : chkL 72 (cd 72) = true := by decide +kernel
set_option maxRecDepth 100000 in
theorem ck_73 : chkL 73 (cd 73) = true := by decide +kernel
set_option maxRecDepth 100000 in
theorem ck_74 : chkL 74 (cd 74) = true := by decide +kernel
set_option maxRecDepth 100000 in
theorem ck_75 : chkL 75 (cd 75) = true := by decide +kernel
set_option maxRecDepth 100000 in
theorem ck_76 : chkL 76 (cd 76) = true := by decide +kernel
set_option maxRecDepth 100000 in
theorem ck_77 : chkL 77 (cd 77) = true := by decide +kernel
set_option maxRecDepth 100000 in
theorem ck_78 : chkL 78 (cd 78) = true := by decide +kernel
set_option maxRecDepth 100000 in
theorem ck_79 : chkL 79 (cd 79) = true := by decide +kernel
set_option maxRecDepth 100000 in
theorem ck_80 : chkL 80 (cd 80) = true := by decide +kernel
set_option maxRecDepth 100000 in
theorem ck_81 : chkL 81 (cd 81) = true := by decide +kernel
set_option maxRecDepth 100000 in
theorem ck_82 : chkL 82 (cd 82) = true := by decide +kernel
set_option maxRecDepth 100000 in
theorem ck_83 : chkL 83 (cd 83) = true := by decide +kernel
set_option maxRecDepth 100000 in
theorem ck_84 : chkL 84 (cd 84) = true := by decide +kernel
set_option maxRecDepth 100000 in
theorem ck_85 : chkL 85 (cd 85) = true := by decide +kernel
set_option maxRecDepth 100000 in
theorem ck_86 : chkL 86 (cd 86) = true := by decide +kernel
set_option maxRecDepth 100000 in
theorem ck_87 : chkL 87 (cd 87) = true := by decide +kernel
set_option maxRecDepth 100000 in
theorem ck_88 : chkL 88 (cd 88) = true := by decide +kernel
set_option maxRecDepth 100000 in
theorem ck_89 : chkL 89 (cd 89) = true := by decide +kernel
set_option maxRecDepth 100000 in
theorem ck_90 : chkL 90 (cd 90) = true := by decide +kernel
set_option maxRecDepth 100000 in
theorem ck_91 : chkL 91 (cd 91) = true := by decide +kernel
set_option maxRecDepth 100000 in
theorem ck_92 : chkL 92 (cd 92) = true := by decide +kernel
set_option maxRecDepth 100000 in
theorem ck_93 : chkL 93 (cd 93) = true := by decide +kernel
set_option maxRecDepth 100000 in
theorem ck_94 : chkL 94 (cd 94) = true := by decide +kernel
set_option maxRecDepth 100000 in
theorem ck_95 : chkL 95 (cd 95) = true := by decide +kernel
set_option maxRecDepth 100000 in
theorem ck_96 : chkL 96 (cd 96) = true := by decide +kernel
set_option maxRecDepth 100000 in
theorem ck_97 : chkL 97 (cd 97) = true := by decide +kernel
set_option maxRecDepth 100000 in
theorem ck_98 : chkL 98 (cd 98) = true := by decide +kernel
set_option maxRecDepth 100000 in
theorem ck_99 : chkL 99 (cd 99) = true := by decide +kernel
set_option maxRecDepth 100000 in
theorem ck_100 : chkL 100 (cd 100) = true := by decide +kernel
set_option maxRecDepth 100000 in
theorem ck_101 : chkL 101 (cd 101) = true := by decide +kernel
set_option maxRecDepth 100000 in
theorem ck_102 : chkL 102 (cd 102) = true := by decide +kernel
set_option maxRecDepth 100000 in
theorem ck_103 : chkL 103 (cd 103) = true := by decide +kernel
set_option maxRecDepth 100000 in
theorem ck_104 : chkL 104 (cd 104) = true := by decide +kernel
set_option maxRecDepth 100000 in
theorem ck_105 : chkL 105 (cd 105) = true := by decide +kernel
set_option maxRecDepth 100000 in
theorem ck_106 : chkL 106 (cd 106) = true := by decide +kernel
set_option maxRecDepth 100000 in
theorem ck_107 : chkL 107 (cd 107) = true := by decide +kernel
set_option maxRecDepth 100000 in
theorem ck_108 : chkL 108 (cd 108) = true := by decide +kernel
set_option maxRecDepth 100000 in
theorem ck_109 : chkL 109 (cd 109) = true := by decide +kernel
set_option maxRecDepth 100000 in
theorem ck_110 : chkL 110 (cd 110) = true := by decide +kernel
set_option maxRecDepth 100000 in
theorem ck_111 : chkL 111 (cd 111) = true := by decide +kernel
set_option maxRecDepth 100000 in
theorem ck_112 : chkL 112 (cd 112) = true := by decide +kernel
set_option maxRecDepth 100000 in
theorem ck_113 : chkL 113 (cd 113) = true := by decide +kernel
set_option maxRecDepth 100000 in
theorem ck_114 : chkL 114 (cd 114) = true := by decide +kernel
set_option maxRecDepth 100000 in
theorem ck_115 : chkL 115 (cd 115) = true := by decide +kernel
set_option maxRecDepth 100000 in
theorem ck_116 : chkL 116 (cd 116) = true := by decide +kernel
set_option maxRecDepth 100000 in
theorem ck_117 : chkL 117 (cd 117) = true := by decide +kernel
set_option maxRecDepth 100000 in
theorem ck_118 : chkL 118 (cd 118) = true := by decide +kernel
set_option maxRecDepth 100000 in
theorem ck_119 : chkL 119 (cd 119) = true := by decide +kernel
set_option maxRecDepth 100000 in
theorem ck_120 : chkL 120 (cd 120) = true := by decide +kernel
set_option maxRecDepth 100000 in
theorem ck_121 : chkL 121 (cd 121) = true := by decide +kernel
set_option maxRecDepth 100000 in
theorem ck_122 : chkL 122 (cd 122) = true := by decide +kernel
set_option maxRecDepth 100000 in
theorem ck_123 : chkL 123 (cd 123) = true := by decide +kernel
set_option maxRecDepth 100000 in
theorem ck_124 : chkL 124 (cd 124) = true := by decide +kernel
set_option maxRecDepth 100000 in
theorem ck_125 : chkL 125 (cd 125) = true := by decide +kernel
set_option maxRecDepth 100000 in
theorem ck_126 : chkL 126 (cd 126) = true := by decide +kernel
set_option maxRecDepth 100000 in
theorem ck_127 : chkL 127 (cd 127) = true := by decide +kernel
set_option maxRecDepth 100000 in
theorem ck_128 : chkL 128 (cd 128) = true := by decide +kernel
set_option maxRecDepth 100000 in
theorem ck_129 : chkL 129 (cd 129) = true := by decide +kernel
set_option maxRecDepth 100000 in
theorem ck_130 : chkL 130 (cd 130) = true := by decide +kernel
set_option maxRecDepth 100000 in
theorem ck_131 : chkL 131 (cd 131) = true := by decide +kernel
set_option maxRecDepth 100000 in
theorem ck_132 : chkL 132 (cd 132) = true := by decide +kernel
set_option maxRecDepth 100000 in
theorem ck_133 : chkL 133 (cd 133) = true := by decide +kernel
set_option maxRecDepth 100000 in
theorem ck_134 : chkL 134 (cd 134) = true := by decide +kernel
set_option maxRecDepth 100000 in
theorem ck_135 : chkL 135 (cd 135) = true := by decide +kernel
set_option maxRecDepth 100000 in
theorem ck_136 : chkL 136 (cd 136) = true := by decide +kernel
set_option maxRecDepth 100000 in
theorem ck_137 : chkL 137 (cd 137) = true := by decide +kernel
set_option maxRecDepth 100000 in
theorem ck_138 : chkL 138 (cd 138) = true := by decide +kernel
set_option maxRecDepth 100000 in
theorem ck_139 : chkL 139 (cd 139) = true := by decide +kernel
set_option maxRecDepth 100000 in
theorem ck_140 : chkL 140 (cd 140) = true := by decide +kernel
set_option maxRecDepth 100000 in
theorem ck_141 : chkL 141 (cd 141) = true := by decide +kernel
set_option maxRecDepth 100000 in
theorem ck_142 : chkL 142 (cd 142) = true := by decide +kernel
set_option maxRecDepth 100000 in
theorem ck_143 : chkL 143 (cd 143) = true := by decide +kernel
set_option maxRecDepth 100000 in
theorem ck_144 : chkL 144 (cd 144) = true := by decide +kernel
set_option maxRecDepth 100000 in
theorem ck_145 : chkL 145 (cd 145) = true := by decide +kernel
set_option maxRecDepth 100000 in
theorem ck_146 : chkL 146 (cd 146) = true := by decide +kernel
set_option maxRecDepth 100000 in
theorem ck_147 : chkL 147 (cd 147) = true := by decide +kernel
set_option maxRecDepth 100000 in
theorem ck_148 : chkL 148 (cd 148) = true := by decide +kernel
set_option maxRecDepth 100000 in
theorem ck_149 : chkL 149 (cd 149) = true := by decide +kernel
set_option maxRecDepth 100000 in
theorem ck_150 : chkL 150 (cd 150) = true := by decide +kernel
set_option maxRecDepth 100000 in
theorem ck_151 : chkL 151 (cd 151) = true := by decide +kernel
set_option maxRecDepth 100000 in
theorem ck_152 : chkL 152 (cd 152) = true := by decide +kernel
set_option maxRecDepth 100000 in
theorem ck_153 : chkL 153 (cd 153) = true := by decide +kernel
set_option maxRecDepth 100000 in
theorem ck_154 : chkL 154 (cd 154) = true := by decide +kernel
set_option maxRecDepth 100000 in
theorem ck_155 : chkL 155 (cd 155) = true := by decide +kernel
set_option maxRecDepth 100000 in
theorem ck_156 : chkL 156 (cd 156) = true := by decide +kernel
set_option maxRecDepth 100000 in
theorem ck_157 : chkL 157 (cd 157) = true := by decide +kernel
set_option maxRecDepth 100000 in
theorem ck_158 : chkL 158 (cd 158) = true := by decide +kernel
set_option maxRecDepth 100000 in
theorem ck_159 : chkL 159 (cd 159) = true := by decide +kernel
set_option maxRecDepth 100000 in
theorem ck_160 : chkL 160 (cd 160) = true := by decide +kernel
set_option maxRecDepth 100000 in
theorem ck_161 : chkL 161 (cd 161) = true := by decide +kernel
set_option maxRecDepth 100000 in
theorem ck_162 : chkL 162 (cd 162) = true := by decide +kernel
set_option maxRecDepth 100000 in
theorem ck_163 : chkL 163 (cd 163) = true := by decide +kernel
set_option maxRecDepth 100000 in
theorem ck_164 : chkL 164 (cd 164) = true := by decide +kernel
set_option maxRecDepth 100000 in
theorem ck_165 : chkL 165 (cd 165) = true := by decide +kernel
set_option maxRecDepth 100000 in
theorem ck_166 : chkL 166 (cd 166) = true := by decide +kernel
set_option maxRecDepth 100000 in
theorem ck_167 : chkL 167 (cd 167) = true := by decide +kernel
set_option maxRecDepth 100000 in
theorem ck_168 : chkL 168 (cd 168) = true := by decide +kernel
set_option maxRecDepth 100000 in
theorem ck_169 : chkL 169 (cd 169) = true := by decide +kernel
set_option maxRecDepth 100000 in
theorem ck_170 : chkL 170 (cd 170) = true := by decide +kernel
set_option maxRecDepth 100000 in
theorem ck_171 : chkL 171 (cd 171) = true := by decide +kernel
set_option maxRecDepth 100000 in
theorem ck_172 : chkL 172 (cd 172) = true := by decide +kernel
set_option maxRecDepth 100000 in
theorem ck_173 : chkL 173 (cd 173) = true := by decide +kernel
set_option maxRecDepth 100000 in
theorem ck_174 : chkL 174 (cd 174) = true := by decide +kernel
set_option maxRecDepth 100000 in
theorem ck_175 : chkL 175 (cd 175) = true := by decide +kernel
set_option maxRecDepth 100000 in
theorem ck_176 : chkL 176 (cd 176) = true := by decide +kernel
set_option maxRecDepth 100000 in
theorem ck_177 : chkL 177 (cd 177) = true := by decide +kernel
set_option maxRecDepth 100000 in
theorem ck_178 : chkL 178 (cd 178) = true := by decide +kernel
set_option maxRecDepth 100000 in
theorem ck_179 : chkL 179 (cd 179) = true := by decide +kernel
set_option maxRecDepth 100000 in
theorem ck_180 : chkL 180 (cd 180) = true := by decide +kernel
set_option maxRecDepth 100000 in
theorem ck_181 : chkL 181 (cd 181) = true := by decide +kernel
set_option maxRecDepth 100000 in
theorem ck_182 : chkL 182 (cd 182) = true := by decide +kernel
set_option maxRecDepth 100000 in
theorem ck_183 : chkL 183 (cd 183) = true := by decide +kernel
set_option maxRecDepth 100000 in
theorem ck_184 : chkL 184 (cd 184) = true := by decide +kernel
set_option maxRecDepth 100000 in
theorem ck_185 : chkL 185 (cd 185) = true := by decide +kernel
set_option maxRecDepth 100000 in
theorem ck_186 : chkL 186 (cd 186) = true := by decide +kernel
set_option maxRecDepth 100000 in
theorem ck_187 : chkL 187 (cd 187) = true := by decide +kernel
set_option maxRecDepth 100000 in
theorem ck_188 : chkL 188 (cd 188) = true := by decide +kernel
set_option maxRecDepth 100000 in
theorem ck_189 : chkL 189 (cd 189) = true := by decide +kernel
set_option maxRecDepth 100000 in
theorem ck_190 : chkL 190 (cd 190) = true := by decide +kernel
set_option maxRecDepth 100000 in
theorem ck_191 : chkL 191 (cd 191) = true := by decide +kernel
set_option maxRecDepth 100000 in
theorem ck_192 : chkL 192 (cd 192) = true := by decide +kernel
set_option maxRecDepth 100000 in
theorem ck_193 : chkL 193 (cd 193) = true := by decide +kernel
set_option maxRecDepth 100000 in
theorem ck_194 : chkL 194 (cd 194) = true := by decide +kernel
set_option maxRecDepth 100000 in
theorem ck_195 : chkL 195 (cd 195) = true := by decide +kernel
set_option maxRecDepth 100000 in
theorem ck_196 : chkL 196 (cd 196) = true := by decide +kernel
set_option maxRecDepth 100000 in
theorem ck_197 : chkL 197 (cd 197) = true := by decide +kernel
set_option maxRecDepth 100000 in
theorem ck_198 : chkL 198 (cd 198) = true := by decide +kernel
set_option maxRecDepth 100000 in
theorem ck_199 : chkL 199 (cd 199) = true := by decide +kernel
set_option maxRecDepth 100000 in
theorem ck_200 : chkL 200 (cd 200) = true := by decide +kernel
set_option maxRecDepth 100000 in
theorem ck_201 : chkL 201 (cd 201) = true := by decide +kernel
set_option maxRecDepth 100000 in
theorem ck_202 : chkL 202 (cd 202) = true := by decide +kernel
set_option maxRecDepth 100000 in
theorem ck_203 : chkL 203 (cd 203) = true := by decide +kernel
set_option maxRecDepth 100000 in
theorem ck_204 : chkL 204 (cd 204) = true := by decide +kernel
set_option maxRecDepth 100000 in
theorem ck_205 : chkL 205 (cd 205) = true := by decide +kernel
set_option maxRecDepth 100000 in
theorem ck_206 : chkL 206 (cd 206) = true := by decide +kernel
set_option maxRecDepth 100000 in
theorem ck_207 : chkL 207 (cd 207) = true := by decide +kernel
set_option maxRecDepth 100000 in
theorem ck_208 : chkL 208 (cd 208) = true := by decide +kernel
set_option maxRecDepth 100000 in
theorem ck_209 : chkL 209 (cd 209) = true := by decide +kernel
set_option maxRecDepth 100000 in
theorem ck_210 : chkL 210 (cd 210) = true := by decide +kernel
set_option maxRecDepth 100000 in
theorem ck_211 : chkL 211 (cd 211) = true := by decide +kernel
set_option maxRecDepth 100000 in
theorem ck_212 : chkL 212 (cd 212) = true := by decide +kernel
set_option maxRecDepth 100000 in
theorem ck_213 : chkL 213 (cd 213) = true := by decide +kernel
set_option maxRecDepth 100000 in
theorem ck_214 : chkL 214 (cd 214) = true := by decide +kernel
set_option maxRecDepth 100000 in
theorem ck_215 : chkL 215 (cd 215) = true := by decide +kernel
set_option maxRecDepth 100000 in
theorem ck_216 : chkL 216 (cd 216) = true := by decide +kernel
set_option maxRecDepth 100000 in
theorem ck_217 : chkL 217 (cd 217) = true := by decide +kernel
set_option maxRecDepth 100000 in
theorem ck_218 : chkL 218 (cd 218) = true := by decide +kernel
set_option maxRecDepth 100000 in
theorem ck_219 : chkL 219 (cd 219) = true := by decide +kernel
set_option maxRecDepth 100000 in
theorem ck_220 : chkL 220 (cd 220) = true := by decide +kernel
set_option maxRecDepth 100000 in
theorem ck_221 : chkL 221 (cd 221) = true := by decide +kernel
set_option maxRecDepth 100000 in
theorem ck_222 : chkL 222 (cd 222) = true := by decide +kernel
set_option maxRecDepth 100000 in
theorem ck_223 : chkL 223 (cd 223) = true := by decide +kernel
set_option maxRecDepth 100000 in
theorem ck_224 : chkL 224 (cd 224) = true := by decide +kernel
set_option maxRecDepth 100000 in
theorem ck_225 : chkL 225 (cd 225) = true := by decide +kernel
set_option maxRecDepth 100000 in
theorem ck_226 : chkL 226 (cd 226) = true := by decide +kernel
set_option maxRecDepth 100000 in
theorem ck_227 : chkL 227 (cd 227) = true := by decide +kernel
set_option maxRecDepth 100000 in
theorem ck_228 : chkL 228 (cd 228) = true := by decide +kernel
set_option maxRecDepth 100000 in
theorem ck_229 : chkL 229 (cd 229) = true := by decide +kernel
set_option maxRecDepth 100000 in
theorem ck_230 : chkL 230 (cd 230) = true := by decide +kernel
set_option maxRecDepth 100000 in
theorem ck_231 : chkL 231 (cd 231) = true := by decide +kernel
set_option maxRecDepth 100000 in
theorem ck_232 : chkL 232 (cd 232) = true := by decide +kernel
set_option maxRecDepth 100000 in
theorem ck_233 : chkL 233 (cd 233) = true := by decide +kernel
set_option maxRecDepth 100000 in
theorem ck_234 : chkL 234 (cd 234) = true := by decide +kernel
set_option maxRecDepth 100000 in
theorem ck_235 : chkL 235 (cd 235) = true := by decide +kernel
set_option maxRecDepth 100000 in
theorem ck_236 : chkL 236 (cd 236) = true := by decide +kernel
set_option maxRecDepth 100000 in
theorem ck_237 : chkL 237 (cd 237) = true := by decide +kernel
set_option maxRecDepth 100000 in
theorem ck_238 : chkL 238 (cd 238) = true := by decide +kernel
set_option maxRecDepth 100000 in
theorem ck_239 : chkL 239 (cd 239) = true := by decide +kernel
set_option maxRecDepth 100000 in
theorem ck_240 : chkL 240 (cd 240) = true := by decide +kernel
set_option maxRecDepth 100000 in
theorem ck_241 : chkL 241 (cd 241) = true := by decide +kernel
set_option maxRecDepth 100000 in
theorem ck_242 : chkL 242 (cd 242) = true := by decide +kernel
set_option maxRecDepth 100000 in
theorem ck_243 : chkL 243 (cd 243) = true := by decide +kernel
set_option maxRecDepth 100000 in
theorem ck_244 : chkL 244 (cd 244) = true := by decide +kernel
set_option maxRecDepth 100000 in
theorem ck_245 : chkL 245 (cd 245) = true := by decide +kernel
set_option maxRecDepth 100000 in
theorem ck_246 : chkL 246 (cd 246) = true := by decide +kernel
set_option maxRecDepth 100000 in
theorem ck_247 : chkL 247 (cd 247) = true := by decide +kernel
set_option maxRecDepth 100000 in
theorem ck_248 : chkL 248 (cd 248) = true := by decide +kernel
set_option maxRecDepth 100000 in
theorem ck_249 : chkL 249 (cd 249) = true := by decide +kernel
set_option maxRecDepth 100000 in
theorem ck_250 : chkL 250 (cd 250) = true := by decide +kernel
set_option maxRecDepth 100000 in
theorem ck_251 : chkL 251 (cd 251) = true := by decide +kernel
set_option maxRecDepth 100000 in
theorem ck_252 : chkL 252 (cd 252) = true := by decide +kernel
set_option maxRecDepth 100000 in
theorem ck_253 : chkL 253 (cd 253) = true := by decide +kernel
set_option maxRecDepth 100000 in
theorem ck_254 : chkL 254 (cd 254) = true := by decide +kernel
set_option maxRecDepth 100000 in
theorem ck_255 : chkL 255 (cd 255) = true := by decide +kernel
set_option maxRecDepth 100000 in
theorem ck_256 : chkL 256 (cd 256) = true := by decide +kernel
set_option maxRecDepth 100000 in
theorem ck_257 : chkL 257 (cd 257) = true := by decide +kernel
set_option maxRecDepth 100000 in
theorem ck_258 : chkL 258 (cd 258) = true := by decide +kernel
set_option maxRecDepth 100000 in
theorem ck_259 : chkL 259 (cd 259) = true := by decide +kernel
set_option maxRecDepth 100000 in
theorem ck_260 : chkL 260 (cd 260) = true := by decide +kernel
set_option maxRecDepth 100000 in
theorem ck_261 : chkL 261 (cd 261) = true := by decide +kernel
set_option maxRecDepth 100000 in
theorem ck_262 : chkL 262 (cd 262) = true := by decide +kernel
set_option maxRecDepth 100000 in
theorem ck_263 : chkL 263 (cd 263) = true := by decide +kernel
set_option maxRecDepth 100000 in
theorem ck_264 : chkL 264 (cd 264) = true := by decide +kernel
set_option maxRecDepth 100000 in
theorem ck_265 : chkL 265 (cd 265) = true := by decide +kernel
set_option maxRecDepth 100000 in
theorem ck_266 : chkL 266 (cd 266) = true := by decide +kernel
set_option maxRecDepth 100000 in
theorem ck_267 : chkL 267 (cd 267) = true := by decide +kernel
set_option maxRecDepth 100000 in
theorem ck_268 : chkL 268 (cd 268) = true := by decide +kernel
set_option maxRecDepth 100000 in
theorem ck_269 : chkL 269 (cd 269) = true := by decide +kernel
set_option maxRecDepth 100000 in
theorem ck_270 : chkL 270 (cd 270) = true := by decide +kernel
theorem chkL_of {i : Nat} : ∀ {l : List RI}, l.all (chk1 i) = true → chN l = true → chkL i l = true
  | [], _, _ => rfl
  | x :: rs, h1, h2 => by
    unfold chN at h2
    rw [List.all_cons] at h1
    unfold chkL
    simp only [Bool.and_eq_true] at *
    exact ⟨⟨h1.1, h2.1⟩, chkL_of h1.2 h2.2⟩
theorem all_chunks {α : Type} {p : α → Bool} (m : Nat) : ∀ (n : Nat) {l : List α}, l.length ≤ m * n → (∀ k, k < n → ((l.drop (m * k)).take m).all p = true) → l.all p = true
  | 0, l, h, _ => by
    have : l = [] := List.length_eq_zero_iff.mp (by omega)
    rw [this]; rfl
  | n + 1, l, h, hk => by
    rw [← List.take_append_drop m l, List.all_append, Bool.and_eq_true]
    refine ⟨by have := hk 0 (by omega); simpa using this, all_chunks m n (by rw [List.length_drop]; rw [Nat.mul_succ] at h; omega) (fun k hk9 => ?_)⟩
    have := hk (k + 1) (by omega)
    rw [List.drop_drop, Nat.add_comm m, ← Nat.mul_succ]
    exact this
set_option maxRecDepth 100000 in
theorem lc_0 : (((cd 271).drop (40 * 0)).take 40).all (chk1 271) = true := by decide +kernel
set_option maxRecDepth 100000 in
theorem lc_1 : (((cd 271).drop (40 * 1)).take 40).all (chk1 271) = true := by decide +kernel
set_option maxRecDepth 100000 in
theorem lc_2 : (((cd 271).drop (40 * 2)).take 40).all (chk1 271) = true := by decide +kernel
set_option maxRecDepth 100000 in
theorem lc_3 : (((cd 271).drop (40 * 3)).take 40).all (chk1 271) = true := by decide +kernel
set_option maxRecDepth 100000 in
theorem lc_4 : (((cd 271).drop (40 * 4)).take 40).all (chk1 271) = true := by decide +kernel
set_option maxRecDepth 100000 in
theorem lc_5 : (((cd 271).drop (40 * 5)).take 40).all (chk1 271) = true := by decide +kernel
set_option maxRecDepth 100000 in
theorem lc_6 : (((cd 271).drop (40 * 6)).take 40).all (chk1 271) = true := by decide +kernel
set_option maxRecDepth 100000 in
theorem lc_7 : (((cd 271).drop (40 * 7)).take 40).all (chk1 271) = true := by decide +kernel
set_option maxRecDepth 100000 in
theorem lc_8 : (((cd 271).drop (40 * 8)).take 40).all (chk1 271) = true := by decide +kernel
set_option maxRecDepth 100000 in
theorem lc_9 : (((cd 271).drop (40 * 9)).take 40).all (chk1 271) = true := by decide +kernel
set_option maxRecDepth 100000 in
theorem lc_10 : (((cd 271).drop (40 * 10)).take 40).all (chk1 271) = true := by decide +kernel
set_option maxRecDepth 100000 in
theorem lc_11 : (((cd 271).drop (40 * 11)).take 40).all (chk1 271) = true := by decide +kernel
set_option maxRecDepth 100000 in
theorem lc_12 : (((cd 271).drop (40 * 12)).take 40).all (chk1 271) = true := by decide +kernel
set_option maxRecDepth 100000 in
theorem lc_13 : (((cd 271).drop (40 * 13)).take 40).all (chk1 271) = true := by decide +kernel
set_option maxRecDepth 100000 in
theorem lc_14 : (((cd 271).drop (40 * 14)).take 40).all (chk1 271) = true := by decide +kernel
set_option maxRecDepth 100000 in
theorem lc_15 : (((cd 271).drop (40 * 15)).take 40).all (chk1 271) = true := by decide +kernel
set_option maxRecDepth 100000 in
theorem lc_16 : (((cd 271).drop (40 * 16)).take 40).all (chk1 271) = true := by decide +kernel
set_option maxRecDepth 100000 in
theorem lc_17 : (((cd 271).drop (40 * 17)).take 40).all (chk1 271) = true := by decide +kernel
set_option maxRecDepth 100000 in
theorem lc_18 : (((cd 271).drop (40 * 18)).take 40).all (chk1 271) = true := by decide +kernel
set_option maxRecDepth 100000 in
theorem lc_19 : (((cd 271).drop (40 * 19)).take 40).all (chk1 271) = true := by decide +kernel
set_option maxRecDepth 100000 in
theorem lc_20 : (((cd 271).drop (40 * 20)).take 40).all (chk1 271) = true := by decide +kernel
set_option maxRecDepth 100000 in
theorem lc_21 : (((cd 271).drop (40 * 21)).take 40).all (chk1 271) = true := by decide +kernel
set_option maxRecDepth 100000 in
theorem lc_22 : (((cd 271).drop (40 * 22)).take 40).all (chk1 271) = true := by decide +kernel
set_option maxRecDepth 100000 in
theorem lc_23 : (((cd 271).drop (40 * 23)).take 40).all (chk1 271) = true := by decide +kernel
theorem ck_271 : chkL 271 (cd 271) = true := by
  refine chkL_of (all_chunks 40 24 (by decide +kernel) (fun k hk => ?_)) (by decide +kernel)
  have h : ∀ k ∈ [0, 1, 2, 3, 4, 5, 6, 7, 8, 9, 10, 11, 12, 13, 14, 15, 16, 17, 18, 19, 20, 21, 22, 23], (((cd 271).drop (40 * k)).take 40).all (chk1 271) = true := List.forall_mem_cons.mpr ⟨lc_0, List.forall_mem_cons.mpr ⟨lc_1, List.forall_mem_cons.mpr ⟨lc_2, List.forall_mem_cons.mpr ⟨lc_3, List.forall_mem_cons.mpr ⟨lc_4, List.forall_mem_cons.mpr ⟨lc_5, List.forall_mem_cons.mpr ⟨lc_6, List.forall_mem_cons.mpr ⟨lc_7, List.forall_mem_cons.mpr ⟨lc_8, List.forall_mem_cons.mpr ⟨lc_9, List.forall_mem_cons.mpr ⟨lc_10, List.forall_mem_cons.mpr ⟨lc_11, List.forall_mem_cons.mpr ⟨lc_12, List.forall_mem_cons.mpr ⟨lc_13, List.forall_mem_cons.mpr ⟨lc_14, List.forall_mem_cons.mpr ⟨lc_15, List.forall_mem_cons.mpr ⟨lc_16, List.forall_mem_cons.mpr ⟨lc_17, List.forall_mem_cons.mpr ⟨lc_18, List.forall_mem_cons.mpr ⟨lc_19, List.forall_mem_cons.mpr ⟨lc_20, List.forall_mem_cons.mpr ⟨lc_21, List.forall_mem_cons.mpr ⟨lc_22, List.forall_mem_cons.mpr ⟨lc_23, fun _ h => absurd h List.not_mem_nil⟩⟩⟩⟩⟩⟩⟩⟩⟩⟩⟩⟩⟩⟩⟩⟩⟩⟩⟩⟩⟩⟩⟩⟩
  exact h k (by rw [show [0, 1, 2, 3, 4, 5, 6, 7, 8, 9, 10, 11, 12, 13, 14, 15, 16, 17, 18, 19, 20, 21, 22, 23] = List.range 24 from by decide +kernel]; exact List.mem_range.mpr hk)
theorem ck_all_g0 : ∀ j ∈ [0, 1, 2, 3, 4, 5, 6, 7, 8, 9, 10, 11, 12, 13, 14, 15, 16, 17, 18, 19, 20, 21, 22, 23], chkL j (cd j) = true := List.forall_mem_cons.mpr ⟨ck_0, List.forall_mem_cons.mpr ⟨ck_1, List.forall_mem_cons.mpr ⟨ck_2, List.forall_mem_cons.mpr ⟨ck_3, List.forall_mem_cons.mpr ⟨ck_4, List.forall_mem_cons.mpr ⟨ck_5, List.forall_mem_cons.mpr ⟨ck_6, List.forall_mem_cons.mpr ⟨ck_7, List.forall_mem_cons.mpr ⟨ck_8, List.forall_mem_cons.mpr ⟨ck_9, List.forall_mem_cons.mpr ⟨ck_10, List.forall_mem_cons.mpr ⟨ck_11, List.forall_mem_cons.mpr ⟨ck_12, List.forall_mem_cons.mpr ⟨ck_13, List.forall_mem_cons.mpr ⟨ck_14, List.forall_mem_cons.mpr ⟨ck_15, List.forall_mem_cons.mpr ⟨ck_16, List.forall_mem_cons.mpr ⟨ck_17, List.forall_mem_cons.mpr ⟨ck_18, List.forall_mem_cons.mpr ⟨ck_19, List.forall_mem_cons.mpr ⟨ck_20, List.forall_mem_cons.mpr ⟨ck_21, List.forall_mem_cons.mpr ⟨ck_22, List.forall_mem_cons.mpr ⟨ck_23, fun _ h => absurd h List.not_mem_nil⟩⟩⟩⟩⟩⟩⟩⟩⟩⟩⟩⟩⟩⟩⟩⟩⟩⟩⟩⟩⟩⟩⟩⟩
theorem ck_all_g24 : ∀ j ∈ [24, 25, 26, 27, 28, 29, 30, 31, 32, 33, 34, 35, 36, 37, 38, 39, 40, 41, 42, 43, 44, 45, 46, 47], chkL j (cd j) = true := List.forall_mem_cons.mpr ⟨ck_24, List.forall_mem_cons.mpr ⟨ck_25, List.forall_mem_cons.mpr ⟨ck_26, List.forall_mem_cons.mpr ⟨ck_27, List.forall_mem_cons.mpr ⟨ck_28, List.forall_mem_cons.mpr ⟨ck_29, List.forall_mem_cons.mpr ⟨ck_30, List.forall_mem_cons.mpr ⟨ck_31, List.forall_mem_cons.mpr ⟨ck_32, List.forall_mem_cons.mpr ⟨ck_33, List.forall_mem_cons.mpr ⟨ck_34, List.forall_mem_cons.mpr ⟨ck_35, List.forall_mem_cons.mpr ⟨ck_36, List.forall_mem_cons.mpr ⟨ck_37, List.forall_mem_cons.mpr ⟨ck_38, List.forall_mem_cons.mpr ⟨ck_39, List.forall_mem_cons.mpr ⟨ck_40, List.forall_mem_cons.mpr ⟨ck_41, List.forall_mem_cons.mpr ⟨ck_42, List.forall_mem_cons.mpr ⟨ck_43, List.forall_mem_cons.mpr ⟨ck_44, List.forall_mem_cons.mpr ⟨ck_45, List.forall_mem_cons.mpr ⟨ck_46, List.forall_mem_cons.mpr ⟨ck_47, fun _ h => absurd h List.not_mem_nil⟩⟩⟩⟩⟩⟩⟩⟩⟩⟩⟩⟩⟩⟩⟩⟩⟩⟩⟩⟩⟩⟩⟩⟩
theorem ck_all_g48 : ∀ j ∈ [48, 49, 50, 51, 52, 53, 54, 55, 56, 57, 58, 59, 60, 61, 62, 63, 64, 65, 66, 67, 68, 69, 70, 71], chkL j (cd j) = true := List.forall_mem_cons.mpr ⟨ck_48, List.forall_mem_cons.mpr ⟨ck_49, List.forall_mem_cons.mpr ⟨ck_50, List.forall_mem_cons.mpr ⟨ck_51, List.forall_mem_cons.mpr ⟨ck_52, List.forall_mem_cons.mpr ⟨ck_53, List.forall_mem_cons.mpr ⟨ck_54, List.forall_mem_cons.mpr ⟨ck_55, List.forall_mem_cons.mpr ⟨ck_56, List.forall_mem_cons.mpr ⟨ck_57, List.forall_mem_cons.mpr ⟨ck_58, List.forall_mem_cons.mpr ⟨ck_59, List.forall_mem_cons.mpr ⟨ck_60, List.forall_mem_cons.mpr ⟨ck_61, List.forall_mem_cons.mpr ⟨ck_62, List.forall_mem_cons.mpr ⟨ck_63, List.forall_mem_cons.mpr ⟨ck_64, List.forall_mem_cons.mpr ⟨ck_65, List.forall_mem_cons.mpr ⟨ck_66, List.forall_mem_cons.mpr ⟨ck_67, List.forall_mem_cons.mpr ⟨ck_68, List.forall_mem_cons.mpr ⟨ck_69, List.forall_mem_cons.mpr ⟨ck_70, List.forall_mem_cons.mpr ⟨ck_71, fun _ h => absurd h List.not_mem_nil⟩⟩⟩⟩⟩⟩⟩⟩⟩⟩⟩⟩⟩⟩⟩⟩⟩⟩⟩⟩⟩⟩⟩⟩
theorem ck_all_g72 : ∀ j ∈ [72, 73, 74, 75, 76, 77, 78, 79, 80, 81, 82, 83, 84, 85, 86, 87, 88, 89, 90, 91, 92, 93, 94, 95], chkL j (cd j) = true := List.forall_mem_cons.mpr ⟨ck_72, List.forall_mem_cons.mpr ⟨ck_73, List.forall_mem_cons.mpr ⟨ck_74, List.forall_mem_cons.mpr ⟨ck_75, List.forall_mem_cons.mpr ⟨ck_76, List.forall_mem_cons.mpr ⟨ck_77, List.forall_mem_cons.mpr ⟨ck_78, List.forall_mem_cons.mpr ⟨ck_79, List.forall_mem_cons.mpr ⟨ck_80, List.forall_mem_cons.mpr ⟨ck_81, List.forall_mem_cons.mpr ⟨ck_82, List.forall_mem_cons.mpr ⟨ck_83, List.forall_mem_cons.mpr ⟨ck_84, List.forall_mem_cons.mpr ⟨ck_85, List.forall_mem_cons.mpr ⟨ck_86, List.forall_mem_cons.mpr ⟨ck_87, List.forall_mem_cons.mpr ⟨ck_88, List.forall_mem_cons.mpr ⟨ck_89, List.forall_mem_cons.mpr ⟨ck_90, List.forall_mem_cons.mpr ⟨ck_91, List.forall_mem_cons.mpr ⟨ck_92, List.forall_mem_cons.mpr ⟨ck_93, List.forall_mem_cons.mpr ⟨ck_94, List.forall_mem_cons.mpr ⟨ck_95, fun _ h => absurd h List.not_mem_nil⟩⟩⟩⟩⟩⟩⟩⟩⟩⟩⟩⟩⟩⟩⟩⟩⟩⟩⟩⟩⟩⟩⟩⟩
theorem ck_all_g96 : ∀ j ∈ [96, 97, 98, 99, 100, 101, 102, 103, 104, 105, 106, 107, 108, 109, 110, 111, 112, 113, 114, 115, 116, 117, 118, 119], chkL j (cd j) = true := List.forall_mem_cons.mpr ⟨ck_96, List.forall_mem_cons.mpr ⟨ck_97, List.forall_mem_cons.mpr ⟨ck_98, List.forall_mem_cons.mpr ⟨ck_99, List.forall_mem_cons.mpr ⟨ck_100, List.forall_mem_cons.mpr ⟨ck_101, List.forall_mem_cons.mpr ⟨ck_102, List.forall_mem_cons.mpr ⟨ck_103, List.forall_mem_cons.mpr ⟨ck_104, List.forall_mem_cons.mpr ⟨ck_105, List.forall_mem_cons.mpr ⟨ck_106, List.forall_mem_cons.mpr ⟨ck_107, List.forall_mem_cons.mpr ⟨ck_108, List.forall_mem_cons.mpr ⟨ck_109, List.forall_mem_cons.mpr ⟨ck_110, List.forall_mem_cons.mpr ⟨ck_111, List.forall_mem_cons.mpr ⟨ck_112, List.forall_mem_cons.mpr ⟨ck_113, List.forall_mem_cons.mpr ⟨ck_114, List.forall_mem_cons.mpr ⟨ck_115, List.forall_mem_cons.mpr ⟨ck_116, List.forall_mem_cons.mpr ⟨ck_117, List.forall_mem_cons.mpr ⟨ck_118, List.forall_mem_cons.mpr ⟨ck_119, fun _ h => absurd h List.not_mem_nil⟩⟩⟩⟩⟩⟩⟩⟩⟩⟩⟩⟩⟩⟩⟩⟩⟩⟩⟩⟩⟩⟩⟩⟩
theorem ck_all_g120 : ∀ j ∈ [120, 121, 122, 123, 124, 125, 126, 127, 128, 129, 130, 131, 132, 133, 134, 135, 136, 137, 138, 139, 140, 141, 142, 143], chkL j (cd j) = true := List.forall_mem_cons.mpr ⟨ck_120, List.forall_mem_cons.mpr ⟨ck_121, List.forall_mem_cons.mpr ⟨ck_122, List.forall_mem_cons.mpr ⟨ck_123, List.forall_mem_cons.mpr ⟨ck_124, List.forall_mem_cons.mpr ⟨ck_125, List.forall_mem_cons.mpr ⟨ck_126, List.forall_mem_cons.mpr ⟨ck_127, List.forall_mem_cons.mpr ⟨ck_128, List.forall_mem_cons.mpr ⟨ck_129, List.forall_mem_cons.mpr ⟨ck_130, List.forall_mem_cons.mpr ⟨ck_131, List.forall_mem_cons.mpr ⟨ck_132, List.forall_mem_cons.mpr ⟨ck_133, List.forall_mem_cons.mpr ⟨ck_134, List.forall_mem_cons.mpr ⟨ck_135, List.forall_mem_cons.mpr ⟨ck_136, List.forall_mem_cons.mpr ⟨ck_137, List.forall_mem_cons.mpr ⟨ck_138, List.forall_mem_cons.mpr ⟨ck_139, List.forall_mem_cons.mpr ⟨ck_140, List.forall_mem_cons.mpr ⟨ck_141, List.forall_mem_cons.mpr ⟨ck_142, List.forall_mem_cons.mpr ⟨ck_143, fun _ h => absurd h List.not_mem_nil⟩⟩⟩⟩⟩⟩⟩⟩⟩⟩⟩⟩⟩⟩⟩⟩⟩⟩⟩⟩⟩⟩⟩⟩
theorem ck_all_g144 : ∀ j ∈ [144, 145, 146, 147, 148, 149, 150, 151, 152, 153, 154, 155, 156, 157, 158, 159, 160, 161, 162, 163, 164, 165, 166, 167], chkL j (cd j) = true := List.forall_mem_cons.mpr ⟨ck_144, List.forall_mem_cons.mpr ⟨ck_145, List.forall_mem_cons.mpr ⟨ck_146, List.forall_mem_cons.mpr ⟨ck_147, List.forall_mem_cons.mpr ⟨ck_148, List.forall_mem_cons.mpr ⟨ck_149, List.forall_mem_cons.mpr ⟨ck_150, List.forall_mem_cons.mpr ⟨ck_151, List.forall_mem_cons.mpr ⟨ck_152, List.forall_mem_cons.mpr ⟨ck_153, List.forall_mem_cons.mpr ⟨ck_154, List.forall_mem_cons.mpr ⟨ck_155, List.forall_mem_cons.mpr ⟨ck_156, List.forall_mem_cons.mpr ⟨ck_157, List.forall_mem_cons.mpr ⟨ck_158, List.forall_mem_cons.mpr ⟨ck_159, List.forall_mem_cons.mpr ⟨ck_160, List.forall_mem_cons.mpr ⟨ck_161, List.forall_mem_cons.mpr ⟨ck_162, List.forall_mem_cons.mpr ⟨ck_163, List.forall_mem_cons.mpr ⟨ck_164, List.forall_mem_cons.mpr ⟨ck_165, List.forall_mem_cons.mpr ⟨ck_166, List.forall_mem_cons.mpr ⟨ck_167, fun _ h => absurd h List.not_mem_nil⟩⟩⟩⟩⟩⟩⟩⟩⟩⟩⟩⟩⟩⟩⟩⟩⟩⟩⟩⟩⟩⟩⟩⟩
theorem ck_all_g168 : ∀ j ∈ [168, 169, 170, 171, 172, 173, 174, 175, 176, 177, 178, 179, 180, 181, 182, 183, 184, 185, 186, 187, 188, 189, 190, 191], chkL j (cd j) = true := List.forall_mem_cons.mpr ⟨ck_168, List.forall_mem_cons.mpr ⟨ck_169, List.forall_mem_cons.mpr ⟨ck_170, List.forall_mem_cons.mpr ⟨ck_171, List.forall_mem_cons.mpr ⟨ck_172, List.forall_mem_cons.mpr ⟨ck_173, List.forall_mem_cons.mpr ⟨ck_174, List.forall_mem_cons.mpr ⟨ck_175, List.forall_mem_cons.mpr ⟨ck_176, List.forall_mem_cons.mpr ⟨ck_177, List.forall_mem_cons.mpr ⟨ck_178, List.forall_mem_cons.mpr ⟨ck_179, List.forall_mem_cons.mpr ⟨ck_180, List.forall_mem_cons.mpr ⟨ck_181, List.forall_mem_cons.mpr ⟨ck_182, List.forall_mem_cons.mpr ⟨ck_183, List.forall_mem_cons.mpr ⟨ck_184, List.forall_mem_cons.mpr ⟨ck_185, List.forall_mem_cons.mpr ⟨ck_186, List.forall_mem_cons.mpr ⟨ck_187, List.forall_mem_cons.mpr ⟨ck_188, List.forall_mem_cons.mpr ⟨ck_189, List.forall_mem_cons.mpr ⟨ck_190, List.forall_mem_cons.mpr ⟨ck_191, fun _ h => absurd h List.not_mem_nil⟩⟩⟩⟩⟩⟩⟩⟩⟩⟩⟩⟩⟩⟩⟩⟩⟩⟩⟩⟩⟩⟩⟩⟩
theorem ck_all_g192 : ∀ j ∈ [192, 193, 194, 195, 196, 197, 198, 199, 200, 201, 202, 203, 204, 205, 206, 207, 208, 209, 210, 211, 212, 213, 214, 215], chkL j (cd j) = true := List.forall_mem_cons.mpr ⟨ck_192, List.forall_mem_cons.mpr ⟨ck_193, List.forall_mem_cons.mpr ⟨ck_194, List.forall_mem_cons.mpr ⟨ck_195, List.forall_mem_cons.mpr ⟨ck_196, List.forall_mem_cons.mpr ⟨ck_197, List.forall_mem_cons.mpr ⟨ck_198, List.forall_mem_cons.mpr ⟨ck_199, List.forall_mem_cons.mpr ⟨ck_200, List.forall_mem_cons.mpr ⟨ck_201, List.forall_mem_cons.mpr ⟨ck_202, List.forall_mem_cons.mpr ⟨ck_203, List.forall_mem_cons.mpr ⟨ck_204, List.forall_mem_cons.mpr ⟨ck_205, List.forall_mem_cons.mpr ⟨ck_206, List.forall_mem_cons.mpr ⟨ck_207, List.forall_mem_cons.mpr ⟨ck_208, List.forall_mem_cons.mpr ⟨ck_209, List.forall_mem_cons.mpr ⟨ck_210, List.forall_mem_cons.mpr ⟨ck_211, List.forall_mem_cons.mpr ⟨ck_212, List.forall_mem_cons.mpr ⟨ck_213, List.forall_mem_cons.mpr ⟨ck_214, List.forall_mem_cons.mpr ⟨ck_215, fun _ h => absurd h List.not_mem_nil⟩⟩⟩⟩⟩⟩⟩⟩⟩⟩⟩⟩⟩⟩⟩⟩⟩⟩⟩⟩⟩⟩⟩⟩
theorem ck_all_g216 : ∀ j ∈ [216, 217, 218, 219, 220, 221, 222, 223, 224, 225, 226, 227, 228, 229, 230, 231, 232, 233, 234, 235, 236, 237, 238, 239], chkL j (cd j) = true := List.forall_mem_cons.mpr ⟨ck_216, List.forall_mem_cons.mpr ⟨ck_217, List.forall_mem_cons.mpr ⟨ck_218, List.forall_mem_cons.mpr ⟨ck_219, List.forall_mem_cons.mpr ⟨ck_220, List.forall_mem_cons.mpr ⟨ck_221, List.forall_mem_cons.mpr ⟨ck_222, List.forall_mem_cons.mpr ⟨ck_223, List.forall_mem_cons.mpr ⟨ck_224, List.forall_mem_cons.mpr ⟨ck_225, List.forall_mem_cons.mpr ⟨ck_226, List.forall_mem_cons.mpr ⟨ck_227, List.forall_mem_cons.mpr ⟨ck_228, List.forall_mem_cons.mpr ⟨ck_229, List.forall_mem_cons.mpr ⟨ck_230, List.forall_mem_cons.mpr ⟨ck_231, List.forall_mem_cons.mpr ⟨ck_232, List.forall_mem_cons.mpr ⟨ck_233, List.forall_mem_cons.mpr ⟨ck_234, List.forall_mem_cons.mpr ⟨ck_235, List.forall_mem_cons.mpr ⟨ck_236, List.forall_mem_cons.mpr ⟨ck_237, List.forall_mem_cons.mpr ⟨ck_238, List.forall_mem_cons.mpr ⟨ck_239, fun _ h => absurd h List.not_mem_nil⟩⟩⟩⟩⟩⟩⟩⟩⟩⟩⟩⟩⟩⟩⟩⟩⟩⟩⟩⟩⟩⟩⟩⟩
theorem ck_all_g240 : ∀ j ∈ [240, 241, 242, 243, 244, 245, 246, 247, 248, 249, 250, 251, 252, 253, 254, 255, 256, 257, 258, 259, 260, 261, 262, 263], chkL j (cd j) = true := List.forall_mem_cons.mpr ⟨ck_240, List.forall_mem_cons.mpr ⟨ck_241, List.forall_mem_cons.mpr ⟨ck_242, List.forall_mem_cons.mpr ⟨ck_243, List.forall_mem_cons.mpr ⟨ck_244, List.forall_mem_cons.mpr ⟨ck_245, List.forall_mem_cons.mpr ⟨ck_246, List.forall_mem_cons.mpr ⟨ck_247, List.forall_mem_cons.mpr ⟨ck_248, List.forall_mem_cons.mpr ⟨ck_249, List.forall_mem_cons.mpr ⟨ck_250, List.forall_mem_cons.mpr ⟨ck_251, List.forall_mem_cons.mpr ⟨ck_252, List.forall_mem_cons.mpr ⟨ck_253, List.forall_mem_cons.mpr ⟨ck_254, List.forall_mem_cons.mpr ⟨ck_255, List.forall_mem_cons.mpr ⟨ck_256, List.forall_mem_cons.mpr ⟨ck_257, List.forall_mem_cons.mpr ⟨ck_258, List.forall_mem_cons.mpr ⟨ck_259, List.forall_mem_cons.mpr ⟨ck_260, List.forall_mem_cons.mpr ⟨ck_261, List.forall_mem_cons.mpr ⟨ck_262, List.forall_mem_cons.mpr ⟨ck_263, fun _ h => absurd h List.not_mem_nil⟩⟩⟩⟩⟩⟩⟩⟩⟩⟩⟩⟩⟩⟩⟩⟩⟩⟩⟩⟩⟩⟩⟩⟩
theorem ck_all_g264 : ∀ j ∈ [264, 265, 266, 267, 268, 269, 270, 271], chkL j (cd j) = true := List.forall_mem_cons.mpr ⟨ck_264, List.forall_mem_cons.mpr ⟨ck_265, List.forall_mem_cons.mpr ⟨ck_266, List.forall_mem_cons.mpr ⟨ck_267, List.forall_mem_cons.mpr ⟨ck_268, List.forall_mem_cons.mpr ⟨ck_269, List.forall_mem_cons.mpr ⟨ck_270, List.forall_mem_cons.mpr ⟨ck_271, fun _ h => absurd h List.not_mem_nil⟩⟩⟩⟩⟩⟩⟩⟩
theorem ck_all {j : Nat} (hj : j < 272) : chkL j (cd j) = true := by
  have h : ∀ j ∈ [0, 1, 2, 3, 4, 5, 6, 7, 8, 9, 10, 11, 12, 13, 14, 15, 16, 17, 18, 19, 20, 21, 22, 23] ++ ([24, 25, 26, 27, 28, 29, 30, 31, 32, 33, 34, 35, 36, 37, 38, 39, 40, 41, 42, 43, 44, 45, 46, 47] ++ ([48, 49, 50, 51, 52, 53, 54, 55, 56, 57, 58, 59, 60, 61, 62, 63, 64, 65, 66, 67, 68, 69, 70, 71] ++ ([72, 73, 74, 75, 76, 77, 78, 79, 80, 81, 82, 83, 84, 85, 86, 87, 88, 89, 90, 91, 92, 93, 94, 95] ++ ([96, 97, 98, 99, 100, 101, 102, 103, 104, 105, 106, 107, 108, 109, 110, 111, 112, 113, 114, 115, 116, 117, 118, 119] ++ ([120, 121, 122, 123, 124, 125, 126, 127, 128, 129, 130, 131, 132, 133, 134, 135, 136, 137, 138, 139, 140, 141, 142, 143] ++ ([144, 145, 146, 147, 148, 149, 150, 151, 152, 153, 154, 155, 156, 157, 158, 159, 160, 161, 162, 163, 164, 165, 166, 167] ++ ([168, 169, 170, 171, 172, 173, 174, 175, 176, 177, 178, 179, 180, 181, 182, 183, 184, 185, 186, 187, 188, 189, 190, 191] ++ ([192, 193, 194, 195, 196, 197, 198, 199, 200, 201, 202, 203, 204, 205, 206, 207, 208, 209, 210, 211, 212, 213, 214, 215] ++ ([216, 217, 218, 219, 220, 221, 222, 223, 224, 225, 226, 227, 228, 229, 230, 231, 232, 233, 234, 235, 236, 237, 238, 239] ++ ([240, 241, 242, 243, 244, 245, 246, 247, 248, 249, 250, 251, 252, 253, 254, 255, 256, 257, 258, 259, 260, 261, 262, 263] ++ ([264, 265, 266, 267, 268, 269, 270, 271]))))))))))), chkL j (cd j) = true := List.forall_mem_append.mpr ⟨ck_all_g0, List.forall_mem_append.mpr ⟨ck_all_g24, List.forall_mem_append.mpr ⟨ck_all_g48, List.forall_mem_append.mpr ⟨ck_all_g72, List.forall_mem_append.mpr ⟨ck_all_g96, List.forall_mem_append.mpr ⟨ck_all_g120, List.forall_mem_append.mpr ⟨ck_all_g144, List.forall_mem_append.mpr ⟨ck_all_g168, List.forall_mem_append.mpr ⟨ck_all_g192, List.forall_mem_append.mpr ⟨ck_all_g216, List.forall_mem_append.mpr ⟨ck_all_g240, ck_all_g264⟩⟩⟩⟩⟩⟩⟩⟩⟩⟩⟩
  exact h j (by rw [show [0, 1, 2, 3, 4, 5, 6, 7, 8, 9, 10, 11, 12, 13, 14, 15, 16, 17, 18, 19, 20, 21, 22, 23] ++ ([24, 25, 26, 27, 28, 29, 30, 31, 32, 33, 34, 35, 36, 37, 38, 39, 40, 41, 42, 43, 44, 45, 46, 47] ++ ([48, 49, 50, 51, 52, 53, 54, 55, 56, 57, 58, 59, 60, 61, 62, 63, 64, 65, 66, 67, 68, 69, 70, 71] ++ ([72, 73, 74, 75, 76, 77, 78, 79, 80, 81, 82, 83, 84, 85, 86, 87, 88, 89, 90, 91, 92, 93, 94, 95] ++ ([96, 97, 98, 99, 100, 101, 102, 103, 104, 105, 106, 107, 108, 109, 110, 111, 112, 113, 114, 115, 116, 117, 118, 119] ++ ([120, 121, 122, 123, 124, 125, 126, 127, 128, 129, 130, 131, 132, 133, 134, 135, 136, 137, 138, 139, 140, 141, 142, 143] ++ ([144, 145, 146, 147, 148, 149, 150, 151, 152, 153, 154, 155, 156, 157, 158, 159, 160, 161, 162, 163, 164, 165, 166, 167] ++ ([168, 169, 170, 171, 172, 173, 174, 175, 176, 177, 178, 179, 180, 181, 182, 183, 184, 185, 186, 187, 188, 189, 190, 191] ++ ([192, 193, 194, 195, 196, 197, 198, 199, 200, 201, 202, 203, 204, 205, 206, 207, 208, 209, 210, 211, 212, 213, 214, 215] ++ ([216, 217, 218, 219, 220, 221, 222, 223, 224, 225, 226, 227, 228, 229, 230, 231, 232, 233, 234, 235, 236, 237, 238, 239] ++ ([240, 241, 242, 243, 244, 245, 246, 247, 248, 249, 250, 251, 252, 253, 254, 255, 256, 257, 258, 259, 260, 261, 262, 263] ++ ([264, 265, 266, 267, 268, 269, 270, 271]))))))))))) = List.range 272 from by decide +kernel]; exact List.mem_range.mpr hj)
