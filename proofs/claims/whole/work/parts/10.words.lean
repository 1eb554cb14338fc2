set_option maxRecDepth 100000 in
theorem cw_0 : cwP 0 := rfl
set_option maxRecDepth 100000 in
theorem cw_1 : cwP 1 := rfl
set_option maxRecDepth 100000 in
theorem cw_2 : cwP 2 := rfl
set_option maxRecDepth 100000 in
theorem cw_3 : cwP 3 := rfl
set_option maxRecDepth 100000 in
theorem cw_4 : cwP 4 := rfl
set_option maxRecDepth 100000 in
theorem cw_5 : cwP 5 := rfl
set_option maxRecDepth 100000 in
theorem cw_6 : cwP 6 := rfl
set_option maxRecDepth 100000 in
theorem cw_7 : cwP 7 := rfl
set_option maxRecDepth 100000 in
theorem cw_8 : cwP 8 := rfl
set_option maxRecDepth 100000 in
theorem cw_9 : cwP 9 := rfl
set_option maxRecDepth 100000 in
theorem cw_10 : cwP 10 := rfl
set_option maxRecDepth 100000 in
theorem cw_11 : cwP 11 := rfl
set_option maxRecDepth 100000 in
theorem cw_12 : cwP 12 := rfl
set_option maxRecDepth 100000 in
theorem cw_13 : cwP 13 := rfl
set_option maxRecDepth 100000 in
theorem cw_14 : cwP 14 := rfl
set_option maxRecDepth 100000 in
theorem cw_15 : cwP 15 := rfl
set_option maxRecDepth 100000 in
theorem cw_16 : cwP 16 := rfl
set_option maxRecDepth 100000 in
theorem cw_17 : cwP 17 := rfl
set_option maxRecDepth 100000 in
theorem cw_18 : cwP 18 := rfl
set_option maxRecDepth 100000 in
theorem cw_19 : cwP 19 := rfl
set_option maxRecDepth 100000 in
theorem cw_20 : cwP 20 := rfl
set_option maxRecDepth 100000 in
theorem cw_21 : cwP 21 := rfl
set_option maxRecDepth 100000 in
theorem cw_22 : cwP 22 := rfl
set_option maxRecDepth 100000 in
theorem cw_23 : cwP 23 := rfl
set_option maxRecDepth 100000 in
theorem cw_24 : cwP 24 := rfl
set_option maxRecDepth 100000 in
theorem cw_25 : cwP 25 := rfl
set_option maxRecDepth 100000 in
theorem cw_26 : cwP 26 := rfl
set_option maxRecDepth 100000 in
theorem cw_27 : cwP 27 := rfl
set_option maxRecDepth 100000 in
theorem cw_28 : cwP 28 := rfl
set_option maxRecDepth 100000 in
theorem cw_29 : cwP 29 := rfl
set_option maxRecDepth 100000 in
theorem cw_30 : cwP 30 := rfl
set_option maxRecDepth 100000 in
theorem cw_31 : cwP 31 := rfl
set_option maxRecDepth 100000 in
theorem cw_32 : cwP 32 := rfl
set_option maxRecDepth 100000 in
theorem cw_33 : cwP 33 := rfl
set_option maxRecDepth 100000 in
theorem cw_34 : cwP 34 := rfl
set_option maxRecDepth 100000 in
theorem cw_35 : cwP 35 := rfl
set_option maxRecDepth 100000 in
theorem cw_36 : cwP 36 := rfl
set_option maxRecDepth 100000 in
theorem cw_37 : cwP 37 := rfl
set_option maxRecDepth 100000 in
theorem cw_38 : cwP 38 := rfl
set_option maxRecDepth 100000 in
theorem cw_39 : cwP 39 := rfl
set_option maxRecDepth 100000 in
theorem cw_40 : cwP 40 := rfl
set_option maxRecDepth 100000 in
theorem cw_41 : cwP 41 := rfl
set_option maxRecDepth 100000 in
theorem cw_42 : cwP 42 := rfl
set_option maxRecDepth 100000 in
theorem cw_43 : cwP 43 := rfl
set_option maxRecDepth 100000 in
theorem cw_44 : cwP 44 := rfl
set_option maxRecDepth 100000 in
theorem cw_45 : cwP 45 := rfl
set_option maxRecDepth 100000 in
theorem cw_46 : cwP 46 := rfl
set_option maxRecDepth 100000 in
theorem cw_47 : cwP 47 := rfl
set_option maxRecDepth 100000 in
theorem cw_48 : cwP 48 := rfl
set_option maxRecDepth 100000 in
theorem cw_49 : cwP 49 := rfl
set_option maxRecDepth 100000 in
theorem cw_50 : cwP 50 := rfl
set_option maxRecDepth 100000 in
theorem cw_51 : cwP 51 := rfl
set_option maxRecDepth 100000 in
theorem cw_52 : cwP 52 := rfl
set_option maxRecDepth 100000 in
theorem cw_53 : cwP 53 := rfl
set_option maxRecDepth 100000 in
theorem cw_54 : cwP 54 := rfl
set_option maxRecDepth 100000 in
theorem cw_55 : cwP 55 := rfl
set_option maxRecDepth 100000 in
theorem cw_56 : cwP 56 := rfl
set_option maxRecDepth 100000 in
theorem cw_57 : cwP 57 := rfl
set_option maxRecDepth 100000 in
theorem cw_58 : cwP 58 := rfl
set_option maxRecDepth 100000 in
theorem cw_59 : cwP 59 := rfl
set_option maxRecDepth 100000 in
theorem cw_60 : cwP 60 := rfl
set_option maxRecDepth 100000 in
theorem cw_61 : cwP 61 := rfl
set_option maxRecDepth 100000 in
theorem cw_62 : cwP 62 := rfl
set_option maxRecDepth 100000 in
theorem cw_63 : cwP 63 := rfl
set_option maxRecDepth 100000 in
theorem cw_64 : cwP 64 := rfl
set_option maxRecDepth 100000 in
theorem cw_65 : cwP 65 := rfl
set_option maxRecDepth 100000 in
theorem cw_66 : cwP 66 := rfl
set_option maxRecDepth 100000 in
theorem cw_67 : cwP 67 := rfl
set_option maxRecDepth 100000 in
theorem cw_68 : cwP 68 := rfl
set_option maxRecDepth 100000 in
theorem cw_69 : cwP 69 := rfl
set_option maxRecDepth 100000 in
theorem cw_70 : cwP 70 := rfl
set_option maxRecDepth 100000 in
theorem cw_71 : cwP 71 := rfl
set_option maxRecDepth 100000 in
theorem cw_72 : cwP 72 := rfl
set_option maxRecDepth 100000 in
theorem cw_73 : cwP 73 := rfl
set_option maxRecDepth 100000 in
theorem cw_74 : cwP 74 := rfl
set_option maxRecDepth 100000 in
theorem cw_75 : cwP 75 := rfl
set_option maxRecDepth 100000 in
theorem cw_76 : cwP 76 := rfl
set_option maxRecDepth 100000 in
theorem cw_77 : cwP 77 := rfl
set_option maxRecDepth 100000 in
theorem cw_78 : cwP 78 := rfl
set_option maxRecDepth 100000 in
theorem cw_79 : cwP 79 := rfl
set_option maxRecDepth 100000 in
theorem cw_80 : cwP 80 := rfl
set_option maxRecDepth 100000 in
theorem cw_81 : cwP 81 := rfl
set_option maxRecDepth 100000 in
theorem cw_82 : cwP 82 := rfl
set_option maxRecDepth 100000 in
theorem cw_83 : cwP 83 := rfl
set_option maxRecDepth 100000 in
theorem cw_84 : cwP 84 := rfl
set_option maxRecDepth 100000 in
theorem cw_85 : cwP 85 := rfl
set_option maxRecDepth 100000 in
theorem cw_86 : cwP 86 := rfl
set_option maxRecDepth 100000 in
theorem cw_87 : cwP 87 := rfl
set_option maxRecDepth 100000 in
theorem cw_88 : cwP 88 := rfl
set_option maxRecDepth 100000 in
theorem cw_89 : cwP 89 := rfl
set_option maxRecDepth 100000 in
theorem cw_90 : cwP 90 := rfl
set_option maxRecDepth 100000 in
theorem cw_91 : cwP 91 := rfl
set_option maxRecDepth 100000 in
theorem cw_92 : cwP 92 := rfl
set_option maxRecDepth 100000 in
theorem cw_93 : cwP 93 := rfl
set_option maxRecDepth 100000 in
theorem cw_94 : cwP 94 := rfl
set_option maxRecDepth 100000 in
theorem cw_95 : cwP 95 := rfl
set_option maxRecDepth 100000 in
theorem cw_96 : cwP 96 := rfl
set_option maxRecDepth 100000 in
theorem cw_97 : cwP 97 := rfl
set_option maxRecDepth 100000 in
theorem cw_98 : cwP 98 := rfl
set_option maxRecDepth 100000 in
theorem cw_99 : cwP 99 := rfl
set_option maxRecDepth 100000 in
theorem cw_100 : cwP 100 := rfl
set_option maxRecDepth 100000 in
theorem cw_101 : cwP 101 := rfl
set_option maxRecDepth 100000 in
theorem cw_102 : cwP 102 := rfl
set_option maxRecDepth 100000 in
theorem cw_103 : cwP 103 := rfl
set_option maxRecDepth 100000 in
theorem cw_104 : cwP 104 := rfl
set_option maxRecDepth 100000 in
theorem cw_105 : cwP 105 := rfl
set_option maxRecDepth 100000 in
theorem cw_106 : cwP 106 := rfl
set_option maxRecDepth 100000 in
theorem cw_107 : cwP 107 := rfl
set_option maxRecDepth 100000 in
theorem cw_108 : cwP 108 := rfl
set_option maxRecDepth 100000 in
theorem cw_109 : cwP 109 := rfl
set_option maxRecDepth 100000 in
theorem cw_110 : cwP 110 := rfl
set_option maxRecDepth 100000 in
theorem cw_111 : cwP 111 := rfl
set_option maxRecDepth 100000 in
theorem cw_112 : cwP 112 := rfl
set_option maxRecDepth 100000 in
theorem cw_113 : cwP 113 := rfl
set_option maxRecDepth 100000 in
theorem cw_114 : cwP 114 := rfl
set_option maxRecDepth 100000 in
theorem cw_115 : cwP 115 := rfl
set_option maxRecDepth 100000 in
theorem cw_116 : cwP 116 := rfl
set_option maxRecDepth 100000 in
theorem cw_117 : cwP 117 := rfl
set_option maxRecDepth 100000 in
theorem cw_118 : cwP 118 := rfl
set_option maxRecDepth 100000 in
theorem cw_119 : cwP 119 := rfl
set_option maxRecDepth 100000 in
theorem cw_120 : cwP 120 := rfl
set_option maxRecDepth 100000 in
theorem cw_121 : cwP 121 := rfl
set_option maxRecDepth 100000 in
theorem cw_122 : cwP 122 := rfl
set_option maxRecDepth 100000 in
theorem cw_123 : cwP 123 := rfl
set_option maxRecDepth 100000 in
theorem cw_124 : cwP 124 := rfl
set_option maxRecDepth 100000 in
theorem cw_125 : cwP 125 := rfl
set_option maxRecDepth 100000 in
theorem cw_126 : cwP 126 := rfl
set_option maxRecDepth 100000 in
theorem cw_127 : cwP 127 := rfl
set_option maxRecDepth 100000 in
theorem cw_128 : cwP 128 := rfl
set_option maxRecDepth 100000 in
theorem cw_129 : cwP 129 := rfl
set_option maxRecDepth 100000 in
theorem cw_130 : cwP 130 := rfl
set_option maxRecDepth 100000 in
theorem cw_131 : cwP 131 := rfl
set_option maxRecDepth 100000 in
theorem cw_132 : cwP 132 := rfl
set_option maxRecDepth 100000 in
theorem cw_133 : cwP 133 := rfl
set_option maxRecDepth 100000 in
theorem cw_134 : cwP 134 := rfl
set_option maxRecDepth 100000 in
theorem cw_135 : cwP 135 := rfl
set_option maxRecDepth 100000 in
theorem cw_136 : cwP 136 := rfl
set_option maxRecDepth 100000 in
theorem cw_137 : cwP 137 := rfl
set_option maxRecDepth 100000 in
theorem cw_138 : cwP 138 := rfl
set_option maxRecDepth 100000 in
theorem cw_139 : cwP 139 := rfl
set_option maxRecDepth 100000 in
theorem cw_140 : cwP 140 := rfl
set_option maxRecDepth 100000 in
theorem cw_141 : cwP 141 := rfl
set_option maxRecDepth 100000 in
theorem cw_142 : cwP 142 := rfl
set_option maxRecDepth 100000 in
theorem cw_143 : cwP 143 := rfl
set_option maxRecDepth 100000 in
theorem cw_144 : cwP 144 := rfl
set_option maxRecDepth 100000 in
theorem cw_145 : cwP 145 := rfl
set_option maxRecDepth 100000 in
theorem cw_146 : cwP 146 := rfl
set_option maxRecDepth 100000 in
theorem cw_147 : cwP 147 := rfl
set_option maxRecDepth 100000 in
theorem cw_148 : cwP 148 := rfl
set_option maxRecDepth 100000 in
theorem cw_149 : cwP 149 := rfl
set_option maxRecDepth 100000 in
theorem cw_150 : cwP 150 := rfl
set_option maxRecDepth 100000 in
theorem cw_151 : cwP 151 := rfl
set_option maxRecDepth 100000 in
theorem cw_152 : cwP 152 := rfl
set_option maxRecDepth 100000 in
theorem cw_153 : cwP 153 := rfl
set_option maxRecDepth 100000 in
theorem cw_154 : cwP 154 := rfl
set_option maxRecDepth 100000 in
theorem cw_155 : cwP 155 := rfl
set_option maxRecDepth 100000 in
theorem cw_156 : cwP 156 := rfl
set_option maxRecDepth 100000 in
theorem cw_157 : cwP 157 := rfl
set_option maxRecDepth 100000 in
theorem cw_158 : cwP 158 := rfl
set_option maxRecDepth 100000 in
theorem cw_159 : cwP 159 := rfl
set_option maxRecDepth 100000 in
theorem cw_160 : cwP 160 := rfl
set_option maxRecDepth 100000 in
theorem cw_161 : cwP 161 := rfl
set_option maxRecDepth 100000 in
theorem cw_162 : cwP 162 := rfl
set_option maxRecDepth 100000 in
theorem cw_163 : cwP 163 := rfl
set_option maxRecDepth 100000 in
theorem cw_164 : cwP 164 := rfl
set_option maxRecDepth 100000 in
theorem cw_165 : cwP 165 := rfl
set_option maxRecDepth 100000 in
theorem cw_166 : cwP 166 := rfl
set_option maxRecDepth 100000 in
theorem cw_167 : cwP 167 := rfl
set_option maxRecDepth 100000 in
theorem cw_168 : cwP 168 := rfl
set_option maxRecDepth 100000 in
theorem cw_169 : cwP 169 := rfl
set_option maxRecDepth 100000 in
theorem cw_170 : cwP 170 := rfl
set_option maxRecDepth 100000 in
theorem cw_171 : cwP 171 := rfl
set_option maxRecDepth 100000 in
theorem cw_172 : cwP 172 := rfl
set_option maxRecDepth 100000 in
theorem cw_173 : cwP 173 := rfl
set_option maxRecDepth 100000 in
theorem cw_174 : cwP 174 := rfl
set_option maxRecDepth 100000 in
theorem cw_175 : cwP 175 := rfl
set_option maxRecDepth 100000 in
theorem cw_176 : cwP 176 := rfl
set_option maxRecDepth 100000 in
theorem cw_177 : cwP 177 := rfl
set_option maxRecDepth 100000 in
theorem cw_178 : cwP 178 := rfl
set_option maxRecDepth 100000 in
theorem cw_179 : cwP 179 := rfl
set_option maxRecDepth 100000 in
theorem cw_180 : cwP 180 := rfl
set_option maxRecDepth 100000 in
theorem cw_181 : cwP 181 := rfl
set_option maxRecDepth 100000 in
theorem cw_182 : cwP 182 := rfl
set_option maxRecDepth 100000 in
theorem cw_183 : cwP 183 := rfl
set_option maxRecDepth 100000 in
theorem cw_184 : cwP 184 := rfl
set_option maxRecDepth 100000 in
theorem cw_185 : cwP 185 := rfl
set_option maxRecDepth 100000 in
theorem cw_186 : cwP 186 := rfl
set_option maxRecDepth 100000 in
theorem cw_187 : cwP 187 := rfl
set_option maxRecDepth 100000 in
theorem cw_188 : cwP 188 := rfl
set_option maxRecDepth 100000 in
theorem cw_189 : cwP 189 := rfl
set_option maxRecDepth 100000 in
theorem cw_190 : cwP 190 := rfl
set_option maxRecDepth 100000 in
theorem cw_191 : cwP 191 := rfl
set_option maxRecDepth 100000 in
theorem cw_192 : cwP 192 := rfl
set_option maxRecDepth 100000 in
theorem cw_193 : cwP 193 := rfl
set_option maxRecDepth 100000 in
theorem cw_194 : cwP 194 := rfl
set_option maxRecDepth 100000 in
theorem cw_195 : cwP 195 := rfl
set_option maxRecDepth 100000 in
theorem cw_196 : cwP 196 := rfl
set_option maxRecDepth 100000 in
theorem cw_197 : cwP 197 := rfl
set_option maxRecDepth 100000 in
theorem cw_198 : cwP 198 := rfl
set_option maxRecDepth 100000 in
theorem cw_199 : cwP 199 := rfl
set_option maxRecDepth 100000 in
theorem cw_200 : cwP 200 := rfl
set_option maxRecDepth 100000 in
theorem cw_201 : cwP 201 := rfl
set_option maxRecDepth 100000 in
theorem cw_202 : cwP 202 := rfl
set_option maxRecDepth 100000 in
theorem cw_203 : cwP 203 := rfl
set_option maxRecDepth 100000 in
theorem cw_204 : cwP 204 := rfl
set_option maxRecDepth 100000 in
theorem cw_205 : cwP 205 := rfl
set_option maxRecDepth 100000 in
theorem cw_206 : cwP 206 := rfl
set_option maxRecDepth 100000 in
theorem cw_207 : cwP 207 := rfl
set_option maxRecDepth 100000 in
theorem cw_208 : cwP 208 := rfl
set_option maxRecDepth 100000 in
theorem cw_209 : cwP 209 := rfl
set_option maxRecDepth 100000 in
theorem cw_210 : cwP 210 := rfl
set_option maxRecDepth 100000 in
theorem cw_211 : cwP 211 := rfl
set_option maxRecDepth 100000 in
theorem cw_212 : cwP 212 := rfl
set_option maxRecDepth 100000 in
theorem cw_213 : cwP 213 := rfl
set_option maxRecDepth 100000 in
theorem cw_214 : cwP 214 := rfl
set_option maxRecDepth 100000 in
theorem cw_215 : cwP 215 := rfl
set_option maxRecDepth 100000 in
theorem cw_216 : cwP 216 := rfl
set_option maxRecDepth 100000 in
theorem cw_217 : cwP 217 := rfl
set_option maxRecDepth 100000 in
theorem cw_218 : cwP 218 := rfl
set_option maxRecDepth 100000 in
theorem cw_219 : cwP 219 := rfl
set_option maxRecDepth 100000 in
theorem cw_220 : cwP 220 := rfl
set_option maxRecDepth 100000 in
theorem cw_221 : cwP 221 := rfl
set_option maxRecDepth 100000 in
theorem cw_222 : cwP 222 := rfl
set_option maxRecDepth 100000 in
theorem cw_223 : cwP 223 := rfl
set_option maxRecDepth 100000 in
theorem cw_224 : cwP 224 := rfl
set_option maxRecDepth 100000 in
theorem cw_225 : cwP 225 := rfl
set_option maxRecDepth 100000 in
theorem cw_226 : cwP 226 := rfl
set_option maxRecDepth 100000 in
theorem cw_227 : cwP 227 := rfl
set_option maxRecDepth 100000 in
theorem cw_228 : cwP 228 := rfl
set_option maxRecDepth 100000 in
theorem cw_229 : cwP 229 := rfl
set_option maxRecDepth 100000 in
theorem cw_230 : cwP 230 := rfl
set_option maxRecDepth 100000 in
theorem cw_231 : cwP 231 := rfl
set_option maxRecDepth 100000 in
theorem cw_232 : cwP 232 := rfl
set_option maxRecDepth 100000 in
theorem cw_233 : cwP 233 := rfl
set_option maxRecDepth 100000 in
theorem cw_234 : cwP 234 := rfl
set_option maxRecDepth 100000 in
theorem cw_235 : cwP 235 := rfl
set_option maxRecDepth 100000 in
theorem cw_236 : cwP 236 := rfl
set_option maxRecDepth 100000 in
theorem cw_237 : cwP 237 := rfl
set_option maxRecDepth 100000 in
theorem cw_238 : cwP 238 := rfl
set_option maxRecDepth 100000 in
theorem cw_239 : cwP 239 := rfl
set_option maxRecDepth 100000 in
theorem cw_240 : cwP 240 := rfl
set_option maxRecDepth 100000 in
theorem cw_241 : cwP 241 := rfl
set_option maxRecDepth 100000 in
theorem cw_242 : cwP 242 := rfl
set_option maxRecDepth 100000 in
theorem cw_243 : cwP 243 := rfl
set_option maxRecDepth 100000 in
theorem cw_244 : cwP 244 := rfl
set_option maxRecDepth 100000 in
theorem cw_245 : cwP 245 := rfl
set_option maxRecDepth 100000 in
theorem cw_246 : cwP 246 := rfl
set_option maxRecDepth 100000 in
theorem cw_247 : cwP 247 := rfl
set_option maxRecDepth 100000 in
theorem cw_248 : cwP 248 := rfl
set_option maxRecDepth 100000 in
theorem cw_249 : cwP 249 := rfl
set_option maxRecDepth 100000 in
theorem cw_250 : cwP 250 := rfl
set_option maxRecDepth 100000 in
theorem cw_251 : cwP 251 := rfl
set_option maxRecDepth 100000 in
theorem cw_252 : cwP 252 := rfl
set_option maxRecDepth 100000 in
theorem cw_253 : cwP 253 := rfl
set_option maxRecDepth 100000 in
theorem cw_254 : cwP 254 := rfl
set_option maxRecDepth 100000 in
theorem cw_255 : cwP 255 := rfl
set_option maxRecDepth 100000 in
theorem cw_256 : cwP 256 := rfl
set_option maxRecDepth 100000 in
theorem cw_257 : cwP 257 := rfl
set_option maxRecDepth 100000 in
theorem cw_258 : cwP 258 := rfl
set_option maxRecDepth 100000 in
theorem cw_259 : cwP 259 := rfl
set_option maxRecDepth 100000 in
theorem cw_260 : cwP 260 := rfl
set_option maxRecDepth 100000 in
theorem cw_261 : cwP 261 := rfl
set_option maxRecDepth 100000 in
theorem cw_262 : cwP 262 := rfl
set_option maxRecDepth 100000 in
theorem cw_263 : cwP 263 := rfl
set_option maxRecDepth 100000 in
theorem cw_264 : cwP 264 := rfl
set_option maxRecDepth 100000 in
theorem cw_265 : cwP 265 := rfl
set_option maxRecDepth 100000 in
theorem cw_266 : cwP 266 := rfl
set_option maxRecDepth 100000 in
theorem cw_267 : cwP 267 := rfl
set_option maxRecDepth 100000 in
theorem cw_268 : cwP 268 := rfl
set_option maxRecDepth 100000 in
theorem cw_269 : cwP 269 := rfl
set_option maxRecDepth 100000 in
theorem cw_270 : cwP 270 := rfl
theorem cw_all_g0 : ∀ j ∈ [0, 1, 2, 3, 4, 5, 6, 7, 8, 9, 10, 11, 12, 13, 14, 15, 16, 17, 18, 19, 20, 21, 22, 23], cwP j := List.forall_mem_cons.mpr ⟨cw_0, List.forall_mem_cons.mpr ⟨cw_1, List.forall_mem_cons.mpr ⟨cw_2, List.forall_mem_cons.mpr ⟨cw_3, List.forall_mem_cons.mpr ⟨cw_4, List.forall_mem_cons.mpr ⟨cw_5, List.forall_mem_cons.mpr ⟨cw_6, List.forall_mem_cons.mpr ⟨cw_7, List.forall_mem_cons.mpr ⟨cw_8, List.forall_mem_cons.mpr ⟨cw_9, List.forall_mem_cons.mpr ⟨cw_10, List.forall_mem_cons.mpr ⟨cw_11, List.forall_mem_cons.mpr ⟨cw_12, List.forall_mem_cons.mpr ⟨cw_13, List.forall_mem_cons.mpr ⟨cw_14, List.forall_mem_cons.mpr ⟨cw_15, List.forall_mem_cons.mpr ⟨cw_16, List.forall_mem_cons.mpr ⟨cw_17, List.forall_mem_cons.mpr ⟨cw_18, List.forall_mem_cons.mpr ⟨cw_19, List.forall_mem_cons.mpr ⟨cw_20, List.forall_mem_cons.mpr ⟨cw_21, List.forall_mem_cons.mpr ⟨cw_22, List.forall_mem_cons.mpr ⟨cw_23, fun _ h => absurd h List.not_mem_nil⟩⟩⟩⟩⟩⟩⟩⟩⟩⟩⟩⟩⟩⟩⟩⟩⟩⟩⟩⟩⟩⟩⟩⟩
theorem cw_all_g24 : ∀ j ∈ [24, 25, 26, 27, 28, 29, 30, 31, 32, 33, 34, 35, 36, 37, 38, 39, 40, 41, 42, 43, 44, 45, 46, 47], cwP j := List.forall_mem_cons.mpr ⟨cw_24, List.forall_mem_cons.mpr ⟨cw_25, List.forall_mem_cons.mpr ⟨cw_26, List.forall_mem_cons.mpr ⟨cw_27, List.forall_mem_cons.mpr ⟨cw_28, List.forall_mem_cons.mpr ⟨cw_29, List.forall_mem_cons.mpr ⟨cw_30, List.forall_mem_cons.mpr ⟨cw_31, List.forall_mem_cons.mpr ⟨cw_32, List.forall_mem_cons.mpr ⟨cw_33, List.forall_mem_cons.mpr ⟨cw_34, List.forall_mem_cons.mpr ⟨cw_35, List.forall_mem_cons.mpr ⟨cw_36, List.forall_mem_cons.mpr ⟨cw_37, List.forall_mem_cons.mpr ⟨cw_38, List.forall_mem_cons.mpr ⟨cw_39, List.forall_mem_cons.mpr ⟨cw_40, List.forall_mem_cons.mpr ⟨cw_41, List.forall_mem_cons.mpr ⟨cw_42, List.forall_mem_cons.mpr ⟨cw_43, List.forall_mem_cons.mpr ⟨cw_44, List.forall_mem_cons.mpr ⟨cw_45, List.forall_mem_cons.mpr ⟨cw_46, List.forall_mem_cons.mpr ⟨cw_47, fun _ h => absurd h List.not_mem_nil⟩⟩⟩⟩⟩⟩⟩⟩⟩⟩⟩⟩⟩⟩⟩⟩⟩⟩⟩⟩⟩⟩⟩⟩
theorem cw_all_g48 : ∀ j ∈ [48, 49, 50, 51, 52, 53, 54, 55, 56, 57, 58, 59, 60, 61, 62, 63, 64, 65, 66, 67, 68, 69, 70, 71], cwP j := List.forall_mem_cons.mpr ⟨cw_48, List.forall_mem_cons.mpr ⟨cw_49, List.forall_mem_cons.mpr ⟨cw_50, List.forall_mem_cons.mpr ⟨cw_51, List.forall_mem_cons.mpr ⟨cw_52, List.forall_mem_cons.mpr ⟨cw_53, List.forall_mem_cons.mpr ⟨cw_54, List.forall_mem_cons.mpr ⟨cw_55, List.forall_mem_cons.mpr ⟨cw_56, List.forall_mem_cons.mpr ⟨cw_57, List.forall_mem_cons.mpr ⟨cw_58, List.forall_mem_cons.mpr ⟨cw_59, List.forall_mem_cons.mpr ⟨cw_60, List.forall_mem_cons.mpr ⟨cw_61, List.forall_mem_cons.mpr ⟨cw_62, List.forall_mem_cons.mpr ⟨cw_63, List.forall_mem_cons.mpr ⟨cw_64, List.forall_mem_cons.mpr ⟨cw_65, List.forall_mem_cons.mpr ⟨cw_66, List.forall_mem_cons.mpr ⟨cw_67, List.forall_mem_cons.mpr ⟨cw_68, List.forall_mem_cons.mpr ⟨cw_69, List.forall_mem_cons.mpr ⟨cw_70, List.forall_mem_cons.mpr ⟨cw_71, fun _ h => absurd h List.not_mem_nil⟩⟩⟩⟩⟩⟩⟩⟩⟩⟩⟩⟩⟩⟩⟩⟩⟩⟩⟩⟩⟩⟩⟩⟩
theorem cw_all_g72 : ∀ j ∈ [72, 73, 74, 75, 76, 77, 78, 79, 80, 81, 82, 83, 84, 85, 86, 87, 88, 89, 90, 91, 92, 93, 94, 95], cwP j := List.forall_mem_cons.mpr ⟨cw_72, List.forall_mem_cons.mpr ⟨cw_73, List.forall_mem_cons.mpr ⟨cw_74, List.forall_mem_cons.mpr ⟨cw_75, List.forall_mem_cons.mpr ⟨cw_76, List.forall_mem_cons.mpr ⟨cw_77, List.forall_mem_cons.mpr ⟨cw_78, List.forall_mem_cons.mpr ⟨cw_79, List.forall_mem_cons.mpr ⟨cw_80, List.forall_mem_cons.mpr ⟨cw_81, List.forall_mem_cons.mpr ⟨cw_82, List.forall_mem_cons.mpr ⟨cw_83, List.forall_mem_cons.mpr ⟨cw_84, List.forall_mem_cons.mpr ⟨cw_85, List.forall_mem_cons.mpr ⟨cw_86, List.forall_mem_cons.mpr ⟨cw_87, List.forall_mem_cons.mpr ⟨cw_88, List.forall_mem_cons.mpr ⟨cw_89, List.forall_mem_cons.mpr ⟨cw_90, List.forall_mem_cons.mpr ⟨cw_91, List.forall_mem_cons.mpr ⟨cw_92, List.forall_mem_cons.mpr ⟨cw_93, List.forall_mem_cons.mpr ⟨cw_94, List.forall_mem_cons.mpr ⟨cw_95, fun _ h => absurd h List.not_mem_nil⟩⟩⟩⟩⟩⟩⟩⟩⟩⟩⟩⟩⟩⟩⟩⟩⟩⟩⟩⟩⟩⟩⟩⟩
theorem cw_all_g96 : ∀ j ∈ [96, 97, 98, 99, 100, 101, 102, 103, 104, 105, 106, 107, 108, 109, 110, 111, 112, 113, 114, 115, 116, 117, 118, 119], cwP j := List.forall_mem_cons.mpr ⟨cw_96, List.forall_mem_cons.mpr ⟨cw_97, List.forall_mem_cons.mpr ⟨cw_98, List.forall_mem_cons.mpr ⟨cw_99, List.forall_mem_cons.mpr ⟨cw_100, List.forall_mem_cons.mpr ⟨cw_101, List.forall_mem_cons.mpr ⟨cw_102, List.forall_mem_cons.mpr ⟨cw_103, List.forall_mem_cons.mpr ⟨cw_104, List.forall_mem_cons.mpr ⟨cw_105, List.forall_mem_cons.mpr ⟨cw_106, List.forall_mem_cons.mpr ⟨cw_107, List.forall_mem_cons.mpr ⟨cw_108, List.forall_mem_cons.mpr ⟨cw_109, List.forall_mem_cons.mpr ⟨cw_110, List.forall_mem_cons.mpr ⟨cw_111, List.forall_mem_cons.mpr ⟨cw_112, List.forall_mem_cons.mpr ⟨cw_113, List.forall_mem_cons.mpr ⟨cw_114, List.forall_mem_cons.mpr ⟨cw_115, List.forall_mem_cons.mpr ⟨cw_116, List.forall_mem_cons.mpr ⟨cw_117, List.forall_mem_cons.mpr ⟨cw_118, List.forall_mem_cons.mpr ⟨cw_119, fun _ h => absurd h List.not_mem_nil⟩⟩⟩⟩⟩⟩⟩⟩⟩⟩⟩⟩⟩⟩⟩⟩⟩⟩⟩⟩⟩⟩⟩⟩
theorem cw_all_g120 : ∀ j ∈ [120, 121, 122, 123, 124, 125, 126, 127, 128, 129, 130, 131, 132, 133, 134, 135, 136, 137, 138, 139, 140, 141, 142, 143], cwP j := List.forall_mem_cons.mpr ⟨cw_120, List.forall_mem_cons.mpr ⟨cw_121, List.forall_mem_cons.mpr ⟨cw_122, List.forall_mem_cons.mpr ⟨cw_123, List.forall_mem_cons.mpr ⟨cw_124, List.forall_mem_cons.mpr ⟨cw_125, List.forall_mem_cons.mpr ⟨cw_126, List.forall_mem_cons.mpr ⟨cw_127, List.forall_mem_cons.mpr ⟨cw_128, List.forall_mem_cons.mpr ⟨cw_129, List.forall_mem_cons.mpr ⟨cw_130, List.forall_mem_cons.mpr ⟨cw_131, List.forall_mem_cons.mpr ⟨cw_132, List.forall_mem_cons.mpr ⟨cw_133, List.forall_mem_cons.mpr ⟨cw_134, List.forall_mem_cons.mpr ⟨cw_135, List.forall_mem_cons.mpr ⟨cw_136, List.forall_mem_cons.mpr ⟨cw_137, List.forall_mem_cons.mpr ⟨cw_138, List.forall_mem_cons.mpr ⟨cw_139, List.forall_mem_cons.mpr ⟨cw_140, List.forall_mem_cons.mpr ⟨cw_141, List.forall_mem_cons.mpr ⟨cw_142, List.forall_mem_cons.mpr ⟨cw_143, fun _ h => absurd h List.not_mem_nil⟩⟩⟩⟩⟩⟩⟩⟩⟩⟩⟩⟩⟩⟩⟩⟩⟩⟩⟩⟩⟩⟩⟩⟩
theorem cw_all_g144 : ∀ j ∈ [144, 145, 146, 147, 148, 149, 150, 151, 152, 153, 154, 155, 156, 157, 158, 159, 160, 161, 162, 163, 164, 165, 166, 167], cwP j := List.forall_mem_cons.mpr ⟨cw_144, List.forall_mem_cons.mpr ⟨cw_145, List.forall_mem_cons.mpr ⟨cw_146, List.forall_mem_cons.mpr ⟨cw_147, List.forall_mem_cons.mpr ⟨cw_148, List.forall_mem_cons.mpr ⟨cw_149, List.forall_mem_cons.mpr ⟨cw_150, List.forall_mem_cons.mpr ⟨cw_151, List.forall_mem_cons.mpr ⟨cw_152, List.forall_mem_cons.mpr ⟨cw_153, List.forall_mem_cons.mpr ⟨cw_154, List.forall_mem_cons.mpr ⟨cw_155, List.forall_mem_cons.mpr ⟨cw_156, List.forall_mem_cons.mpr ⟨cw_157, List.forall_mem_cons.mpr ⟨cw_158, List.forall_mem_cons.mpr ⟨cw_159, List.forall_mem_cons.mpr ⟨cw_160, List.forall_mem_cons.mpr ⟨cw_161, List.forall_mem_cons.mpr ⟨cw_162, List.forall_mem_cons.mpr ⟨cw_163, List.forall_mem_cons.mpr ⟨cw_164, List.forall_mem_cons.mpr ⟨cw_165, List.forall_mem_cons.mpr ⟨cw_166, List.forall_mem_cons.mpr ⟨cw_167, fun _ h => absurd h List.not_mem_nil⟩⟩⟩⟩⟩⟩⟩⟩⟩⟩⟩⟩⟩⟩⟩⟩⟩⟩⟩⟩⟩⟩⟩⟩
theorem cw_all_g168 : ∀ j ∈ [168, 169, 170, 171, 172, 173, 174, 175, 176, 177, 178, 179, 180, 181, 182, 183, 184, 185, 186, 187, 188, 189, 190, 191], cwP j := List.forall_mem_cons.mpr ⟨cw_168, List.forall_mem_cons.mpr ⟨cw_169, List.forall_mem_cons.mpr ⟨cw_170, List.forall_mem_cons.mpr ⟨cw_171, List.forall_mem_cons.mpr ⟨cw_172, List.forall_mem_cons.mpr ⟨cw_173, List.forall_mem_cons.mpr ⟨cw_174, List.forall_mem_cons.mpr ⟨cw_175, List.forall_mem_cons.mpr ⟨cw_176, List.forall_mem_cons.mpr ⟨cw_177, List.forall_mem_cons.mpr ⟨cw_178, List.forall_mem_cons.mpr ⟨cw_179, List.forall_mem_cons.mpr ⟨cw_180, List.forall_mem_cons.mpr ⟨cw_181, List.forall_mem_cons.mpr ⟨cw_182, List.forall_mem_cons.mpr ⟨cw_183, List.forall_mem_cons.mpr ⟨cw_184, List.forall_mem_cons.mpr ⟨cw_185, List.forall_mem_cons.mpr ⟨cw_186, List.forall_mem_cons.mpr ⟨cw_187, List.forall_mem_cons.mpr ⟨cw_188, List.forall_mem_cons.mpr ⟨cw_189, List.forall_mem_cons.mpr ⟨cw_190, List.forall_mem_cons.mpr ⟨cw_191, fun _ h => absurd h List.not_mem_nil⟩⟩⟩⟩⟩⟩⟩⟩⟩⟩⟩⟩⟩⟩⟩⟩⟩⟩⟩⟩⟩⟩⟩⟩
theorem cw_all_g192 : ∀ j ∈ [192, 193, 194, 195, 196, 197, 198, 199, 200, 201, 202, 203, 204, 205, 206, 207, 208, 209, 210, 211, 212, 213, 214, 215], cwP j := List.forall_mem_cons.mpr ⟨cw_192, List.forall_mem_cons.mpr ⟨cw_193, List.forall_mem_cons.mpr ⟨cw_194, List.forall_mem_cons.mpr ⟨cw_195, List.forall_mem_cons.mpr ⟨cw_196, List.forall_mem_cons.mpr ⟨cw_197, List.forall_mem_cons.mpr ⟨cw_198, List.forall_mem_cons.mpr ⟨cw_199, List.forall_mem_cons.mpr ⟨cw_200, List.forall_mem_cons.mpr ⟨cw_201, List.forall_mem_cons.mpr ⟨cw_202, List.forall_mem_cons.mpr ⟨cw_203, List.forall_mem_cons.mpr ⟨cw_204, List.forall_mem_cons.mpr ⟨cw_205, List.forall_mem_cons.mpr ⟨cw_206, List.forall_mem_cons.mpr ⟨cw_207, List.forall_mem_cons.mpr ⟨cw_208, List.forall_mem_cons.mpr ⟨cw_209, List.forall_mem_cons.mpr ⟨cw_210, List.forall_mem_cons.mpr ⟨cw_211, List.forall_mem_cons.mpr ⟨cw_212, List.forall_mem_cons.mpr ⟨cw_213, List.forall_mem_cons.mpr ⟨cw_214, List.forall_mem_cons.mpr ⟨cw_215, fun _ h => absurd h List.not_mem_nil⟩⟩⟩⟩⟩⟩⟩⟩⟩⟩⟩⟩⟩⟩⟩⟩⟩⟩⟩⟩⟩⟩⟩⟩
theorem cw_all_g216 : ∀ j ∈ [216, 217, 218, 219, 220, 221, 222, 223, 224, 225, 226, 227, 228, 229, 230, 231, 232, 233, 234, 235, 236, 237, 238, 239], cwP j := List.forall_mem_cons.mpr ⟨cw_216, List.forall_mem_cons.mpr ⟨cw_217, List.forall_mem_cons.mpr ⟨cw_218, List.forall_mem_cons.mpr ⟨cw_219, List.forall_mem_cons.mpr ⟨cw_220, List.forall_mem_cons.mpr ⟨cw_221, List.forall_mem_cons.mpr ⟨cw_222, List.forall_mem_cons.mpr ⟨cw_223, List.forall_mem_cons.mpr ⟨cw_224, List.forall_mem_cons.mpr ⟨cw_225, List.forall_mem_cons.mpr ⟨cw_226, List.forall_mem_cons.mpr ⟨cw_227, List.forall_mem_cons.mpr ⟨cw_228, List.forall_mem_cons.mpr ⟨cw_229, List.forall_mem_cons.mpr ⟨cw_230, List.forall_mem_cons.mpr ⟨cw_231, List.forall_mem_cons.mpr ⟨cw_232, List.forall_mem_cons.mpr ⟨cw_233, List.forall_mem_cons.mpr ⟨cw_234, List.forall_mem_cons.mpr ⟨cw_235, List.forall_mem_cons.mpr ⟨cw_236, List.forall_mem_cons.mpr ⟨cw_237, List.forall_mem_cons.mpr ⟨cw_238, List.forall_mem_cons.mpr ⟨cw_239, fun _ h => absurd h List.not_mem_nil⟩⟩⟩⟩⟩⟩⟩⟩⟩⟩⟩⟩⟩⟩⟩⟩⟩⟩⟩⟩⟩⟩⟩⟩
theorem cw_all_g240 : ∀ j ∈ [240, 241, 242, 243, 244, 245, 246, 247, 248, 249, 250, 251, 252, 253, 254, 255, 256, 257, 258, 259, 260, 261, 262, 263], cwP j := List.forall_mem_cons.mpr ⟨cw_240, List.forall_mem_cons.mpr ⟨cw_241, List.forall_mem_cons.mpr ⟨cw_242, List.forall_mem_cons.mpr ⟨cw_243, List.forall_mem_cons.mpr ⟨cw_244, List.forall_mem_cons.mpr ⟨cw_245, List.forall_mem_cons.mpr ⟨cw_246, List.forall_mem_cons.mpr ⟨cw_247, List.forall_mem_cons.mpr ⟨cw_248, List.forall_mem_cons.mpr ⟨cw_249, List.forall_mem_cons.mpr ⟨cw_250, List.forall_mem_cons.mpr ⟨cw_251, List.forall_mem_cons.mpr ⟨cw_252, List.forall_mem_cons.mpr ⟨cw_253, List.forall_mem_cons.mpr ⟨cw_254, List.forall_mem_cons.mpr ⟨cw_255, List.forall_mem_cons.mpr ⟨cw_256, List.forall_mem_cons.mpr ⟨cw_257, List.forall_mem_cons.mpr ⟨cw_258, List.forall_mem_cons.mpr ⟨cw_259, List.forall_mem_cons.mpr ⟨cw_260, List.forall_mem_cons.mpr ⟨cw_261, List.forall_mem_cons.mpr ⟨cw_262, List.forall_mem_cons.mpr ⟨cw_263, fun _ h => absurd h List.not_mem_nil⟩⟩⟩⟩⟩⟩⟩⟩⟩⟩⟩⟩⟩⟩⟩⟩⟩⟩⟩⟩⟩⟩⟩⟩
theorem cw_all_g264 : ∀ j ∈ [264, 265, 266, 267, 268, 269, 270], cwP j := List.forall_mem_cons.mpr ⟨cw_264, List.forall_mem_cons.mpr ⟨cw_265, List.forall_mem_cons.mpr ⟨cw_266, List.forall_mem_cons.mpr ⟨cw_267, List.forall_mem_cons.mpr ⟨cw_268, List.forall_mem_cons.mpr ⟨cw_269, List.forall_mem_cons.mpr ⟨cw_270, fun _ h => absurd h List.not_mem_nil⟩⟩⟩⟩⟩⟩⟩
theorem cw_all {j : Nat} (hj : j < 271) : cwP j := by
  have h : ∀ j ∈ [0, 1, 2, 3, 4, 5, 6, 7, 8, 9, 10, 11, 12, 13, 14, 15, 16, 17, 18, 19, 20, 21, 22, 23] ++ ([24, 25, 26, 27, 28, 29, 30, 31, 32, 33, 34, 35, 36, 37, 38, 39, 40, 41, 42, 43, 44, 45, 46, 47] ++ ([48, 49, 50, 51, 52, 53, 54, 55, 56, 57, 58, 59, 60, 61, 62, 63, 64, 65, 66, 67, 68, 69, 70, 71] ++ ([72, 73, 74, 75, 76, 77, 78, 79, 80, 81, 82, 83, 84, 85, 86, 87, 88, 89, 90, 91, 92, 93, 94, 95] ++ ([96, 97, 98, 99, 100, 101, 102, 103, 104, 105, 106, 107, 108, 109, 110, 111, 112, 113, 114, 115, 116, 117, 118, 119] ++ ([120, 121, 122, 123, 124, 125, 126, 127, 128, 129, 130, 131, 132, 133, 134, 135, 136, 137, 138, 139, 140, 141, 142, 143] ++ ([144, 145, 146, 147, 148, 149, 150, 151, 152, 153, 154, 155, 156, 157, 158, 159, 160, 161, 162, 163, 164, 165, 166, 167] ++ ([168, 169, 170, 171, 172, 173, 174, 175, 176, 177, 178, 179, 180, 181, 182, 183, 184, 185, 186, 187, 188, 189, 190, 191] ++ ([192, 193, 194, 195, 196, 197, 198, 199, 200, 201, 202, 203, 204, 205, 206, 207, 208, 209, 210, 211, 212, 213, 214, 215] ++ ([216, 217, 218, 219, 220, 221, 222, 223, 224, 225, 226, 227, 228, 229, 230, 231, 232, 233, 234, 235, 236, 237, 238, 239] ++ ([240, 241, 242, 243, 244, 245, 246, 247, 248, 249, 250, 251, 252, 253, 254, 255, 256, 257, 258, 259, 260, 261, 262, 263] ++ ([264, 265, 266, 267, 268, 269, 270]))))))))))), cwP j := List.forall_mem_append.mpr ⟨cw_all_g0, List.forall_mem_append.mpr ⟨cw_all_g24, List.forall_mem_append.mpr ⟨cw_all_g48, List.forall_mem_append.mpr ⟨cw_all_g72, List.forall_mem_append.mpr ⟨cw_all_g96, List.forall_mem_append.mpr ⟨cw_all_g120, List.forall_mem_append.mpr ⟨cw_all_g144, List.forall_mem_append.mpr ⟨cw_all_g168, List.forall_mem_append.mpr ⟨cw_all_g192, List.forall_mem_append.mpr ⟨cw_all_g216, List.forall_mem_append.mpr ⟨cw_all_g240, cw_all_g264⟩⟩⟩⟩⟩⟩⟩⟩⟩⟩⟩
  exact h j (by rw [show [0, 1, 2, 3, 4, 5, 6, 7, 8, 9, 10, 11, 12, 13, 14, 15, 16, 17, 18, 19, 20, 21, 22, 23] ++ ([24, 25, 26, 27, 28, 29, 30, 31, 32, 33, 34, 35, 36, 37, 38, 39, 40, 41, 42, 43, 44, 45, 46, 47] ++ ([48, 49, 50, 51, 52, 53, 54, 55, 56, 57, 58, 59, 60, 61, 62, 63, 64, 65, 66, 67, 68, 69, 70, 71] ++ ([72, 73, 74, 75, 76, 77, 78, 79, 80, 81, 82, 83, 84, 85, 86, 87, 88, 89, 90, 91, 92, 93, 94, 95] ++ ([96, 97, 98, 99, 100, 101, 102, 103, 104, 105, 106, 107, 108, 109, 110, 111, 112, 113, 114, 115, 116, 117, 118, 119] ++ ([120, 121, 122, 123, 124, 125, 126, 127, 128, 129, 130, 131, 132, 133, 134, 135, 136, 137, 138, 139, 140, 141, 142, 143] ++ ([144, 145, 146, 147, 148, 149, 150, 151, 152, 153, 154, 155, 156, 157, 158, 159, 160, 161, 162, 163, 164, 165, 166, 167] ++ ([168, 169, 170, 171, 172, 173, 174, 175, 176, 177, 178, 179, 180, 181, 182, 183, 184, 185, 186, 187, 188, 189, 190, 191] ++ ([192, 193, 194, 195, 196, 197, 198, 199, 200, 201, 202, 203, 204, 205, 206, 207, 208, 209, 210, 211, 212, 213, 214, 215] ++ ([216, 217, 218, 219, 220, 221, 222, 223, 224, 225, 226, 227, 228, 229, 230, 231, 232, 233, 234, 235, 236, 237, 238, 239] ++ ([240, 241, 242, 243, 244, 245, 246, 247, 248, 249, 250, 251, 252, 253, 254, 255, 256, 257, 258, 259, 260, 261, 262, 263] ++ ([264, 265, 266, 267, 268, 269, 270]))))))))))) = List.range 271 from by decide +kernel]; exact List.mem_range.mpr hj)
