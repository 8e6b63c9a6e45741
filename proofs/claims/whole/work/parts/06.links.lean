/-! the cells and links, by name; the methods -/
theorem kd_0 : kd 0 = (0, 11) := rfl
theorem kd_1 : kd 1 = (0, 9) := rfl
theorem kd_2 : kd 2 = (2, 900) := rfl
theorem kd_3 : kd 3 = (0, 5) := rfl
theorem kd_4 : kd 4 = (0, 6) := rfl
theorem kd_5 : kd 5 = (1, 18) := rfl
theorem kd_6 : kd 6 = (1, 18) := rfl
theorem kd_7 : kd 7 = (1, 18) := rfl
theorem kd_8 : kd 8 = (1, 12) := rfl
theorem kd_9 : kd 9 = (1, 12) := rfl
theorem kd_10 : kd 10 = (0, 8) := rfl
theorem kd_11 : kd 11 = (1, 84) := rfl
theorem kd_12 : kd 12 = (1, 12) := rfl
theorem kd_13 : kd 13 = (1, 18) := rfl
theorem kd_14 : kd 14 = (1, 18) := rfl
theorem kd_15 : kd 15 = (1, 12) := rfl
theorem kd_16 : kd 16 = (1, 12) := rfl
theorem kd_17 : kd 17 = (1, 12) := rfl
theorem kd_18 : kd 18 = (1, 12) := rfl
theorem kd_19 : kd 19 = (1, 100) := rfl
theorem kd_20 : kd 20 = (0, 3) := rfl
theorem kd_21 : kd 21 = (1, 12) := rfl
theorem kd_22 : kd 22 = (1, 12) := rfl
theorem kd_23 : kd 23 = (1, 12) := rfl
theorem kd_24 : kd 24 = (0, 6) := rfl
theorem kd_25 : kd 25 = (1, 18) := rfl
theorem kd_26 : kd 26 = (1, 18) := rfl
theorem kd_27 : kd 27 = (1, 18) := rfl
theorem kd_28 : kd 28 = (1, 12) := rfl
theorem kd_29 : kd 29 = (1, 12) := rfl
theorem kd_30 : kd 30 = (0, 8) := rfl
theorem kd_31 : kd 31 = (1, 84) := rfl
theorem kd_32 : kd 32 = (1, 12) := rfl
theorem kd_33 : kd 33 = (1, 18) := rfl
theorem kd_34 : kd 34 = (1, 18) := rfl
theorem kd_35 : kd 35 = (1, 12) := rfl
theorem kd_36 : kd 36 = (1, 12) := rfl
theorem kd_37 : kd 37 = (1, 12) := rfl
theorem kd_38 : kd 38 = (1, 12) := rfl
theorem kd_39 : kd 39 = (1, 100) := rfl
theorem kd_40 : kd 40 = (0, 3) := rfl
theorem kd_41 : kd 41 = (1, 12) := rfl
theorem kd_42 : kd 42 = (1, 12) := rfl
theorem kd_43 : kd 43 = (1, 12) := rfl
theorem kd_44 : kd 44 = (0, 10) := rfl
theorem kd_45 : kd 45 = (0, 4) := rfl
theorem kd_46 : kd 46 = (1, 10) := rfl
theorem kd_47 : kd 47 = (1, 10) := rfl
theorem kd_48 : kd 48 = (0, 7) := rfl
theorem kd_49 : kd 49 = (1, 10) := rfl
theorem kd_50 : kd 50 = (0, 1) := rfl
theorem kd_51 : kd 51 = (0, 7) := rfl
theorem kd_52 : kd 52 = (1, 10) := rfl
theorem kd_53 : kd 53 = (1, 10) := rfl
theorem kd_54 : kd 54 = (1, 5120) := rfl
theorem kd_55 : kd 55 = (1, 5120) := rfl
theorem kd_56 : kd 56 = (0, 0) := rfl
theorem kd_57 : kd 57 = (0, 3) := rfl
theorem kd_58 : kd 58 = (1, 12) := rfl
theorem kd_59 : kd 59 = (1, 12) := rfl
theorem kd_60 : kd 60 = (1, 12) := rfl
theorem kd_61 : kd 61 = (0, 2) := rfl
theorem kd_62 : kd 62 = (4, 12) := rfl
theorem kd_63 : kd 63 = (0, 8) := rfl
theorem kd_64 : kd 64 = (1, 84) := rfl
theorem kd_65 : kd 65 = (1, 12) := rfl
theorem kd_66 : kd 66 = (1, 18) := rfl
theorem kd_67 : kd 67 = (1, 18) := rfl
theorem kd_68 : kd 68 = (1, 12) := rfl
theorem kd_69 : kd 69 = (1, 12) := rfl
theorem kd_70 : kd 70 = (1, 12) := rfl
theorem kd_71 : kd 71 = (1, 12) := rfl
theorem kd_72 : kd 72 = (1, 100) := rfl
theorem kd_73 : kd 73 = (0, 3) := rfl
theorem kd_74 : kd 74 = (1, 12) := rfl
theorem kd_75 : kd 75 = (1, 12) := rfl
theorem kd_76 : kd 76 = (1, 12) := rfl
theorem kd_77 : kd 77 = (0, 8) := rfl
theorem kd_78 : kd 78 = (1, 84) := rfl
theorem kd_79 : kd 79 = (1, 12) := rfl
theorem kd_80 : kd 80 = (1, 18) := rfl
theorem kd_81 : kd 81 = (1, 18) := rfl
theorem kd_82 : kd 82 = (1, 12) := rfl
theorem kd_83 : kd 83 = (1, 12) := rfl
theorem kd_84 : kd 84 = (1, 12) := rfl
theorem kd_85 : kd 85 = (1, 12) := rfl
theorem kd_86 : kd 86 = (1, 100) := rfl
theorem kd_87 : kd 87 = (0, 3) := rfl
theorem kd_88 : kd 88 = (1, 12) := rfl
theorem kd_89 : kd 89 = (1, 12) := rfl
theorem kd_90 : kd 90 = (1, 12) := rfl
theorem kd_91 : kd 91 = (0, 8) := rfl
theorem kd_92 : kd 92 = (1, 84) := rfl
theorem kd_93 : kd 93 = (1, 12) := rfl
theorem kd_94 : kd 94 = (1, 18) := rfl
theorem kd_95 : kd 95 = (1, 18) := rfl
theorem kd_96 : kd 96 = (1, 12) := rfl
theorem kd_97 : kd 97 = (1, 12) := rfl
theorem kd_98 : kd 98 = (1, 12) := rfl
theorem kd_99 : kd 99 = (1, 12) := rfl
theorem kd_100 : kd 100 = (1, 100) := rfl
theorem kd_101 : kd 101 = (0, 3) := rfl
theorem kd_102 : kd 102 = (1, 12) := rfl
theorem kd_103 : kd 103 = (1, 12) := rfl
theorem kd_104 : kd 104 = (1, 12) := rfl
theorem kd_105 : kd 105 = (0, 8) := rfl
theorem kd_106 : kd 106 = (1, 84) := rfl
theorem kd_107 : kd 107 = (1, 12) := rfl
theorem kd_108 : kd 108 = (1, 18) := rfl
theorem kd_109 : kd 109 = (1, 18) := rfl
theorem kd_110 : kd 110 = (1, 12) := rfl
theorem kd_111 : kd 111 = (1, 12) := rfl
theorem kd_112 : kd 112 = (1, 12) := rfl
theorem kd_113 : kd 113 = (1, 12) := rfl
theorem kd_114 : kd 114 = (1, 100) := rfl
theorem kd_115 : kd 115 = (0, 3) := rfl
theorem kd_116 : kd 116 = (1, 12) := rfl
theorem kd_117 : kd 117 = (1, 12) := rfl
theorem kd_118 : kd 118 = (1, 12) := rfl
theorem kd_119 : kd 119 = (0, 8) := rfl
theorem kd_120 : kd 120 = (1, 84) := rfl
theorem kd_121 : kd 121 = (1, 12) := rfl
theorem kd_122 : kd 122 = (1, 18) := rfl
theorem kd_123 : kd 123 = (1, 18) := rfl
theorem kd_124 : kd 124 = (1, 12) := rfl
theorem kd_125 : kd 125 = (1, 12) := rfl
theorem kd_126 : kd 126 = (1, 12) := rfl
theorem kd_127 : kd 127 = (1, 12) := rfl
theorem kd_128 : kd 128 = (1, 100) := rfl
theorem kd_129 : kd 129 = (0, 3) := rfl
theorem kd_130 : kd 130 = (1, 12) := rfl
theorem kd_131 : kd 131 = (1, 12) := rfl
theorem kd_132 : kd 132 = (1, 12) := rfl
theorem kd_133 : kd 133 = (0, 8) := rfl
theorem kd_134 : kd 134 = (1, 84) := rfl
theorem kd_135 : kd 135 = (1, 12) := rfl
theorem kd_136 : kd 136 = (1, 18) := rfl
theorem kd_137 : kd 137 = (1, 18) := rfl
theorem kd_138 : kd 138 = (1, 12) := rfl
theorem kd_139 : kd 139 = (1, 12) := rfl
theorem kd_140 : kd 140 = (1, 12) := rfl
theorem kd_141 : kd 141 = (1, 12) := rfl
theorem kd_142 : kd 142 = (1, 100) := rfl
theorem kd_143 : kd 143 = (0, 3) := rfl
theorem kd_144 : kd 144 = (1, 12) := rfl
theorem kd_145 : kd 145 = (1, 12) := rfl
theorem kd_146 : kd 146 = (1, 12) := rfl
theorem kd_147 : kd 147 = (0, 8) := rfl
theorem kd_148 : kd 148 = (1, 84) := rfl
theorem kd_149 : kd 149 = (1, 12) := rfl
theorem kd_150 : kd 150 = (1, 18) := rfl
theorem kd_151 : kd 151 = (1, 18) := rfl
theorem kd_152 : kd 152 = (1, 12) := rfl
theorem kd_153 : kd 153 = (1, 12) := rfl
theorem kd_154 : kd 154 = (1, 12) := rfl
theorem kd_155 : kd 155 = (1, 12) := rfl
theorem kd_156 : kd 156 = (1, 100) := rfl
theorem kd_157 : kd 157 = (0, 3) := rfl
theorem kd_158 : kd 158 = (1, 12) := rfl
theorem kd_159 : kd 159 = (1, 12) := rfl
theorem kd_160 : kd 160 = (1, 12) := rfl
theorem kd_161 : kd 161 = (0, 8) := rfl
theorem kd_162 : kd 162 = (1, 84) := rfl
theorem kd_163 : kd 163 = (1, 12) := rfl
theorem kd_164 : kd 164 = (1, 18) := rfl
theorem kd_165 : kd 165 = (1, 18) := rfl
theorem kd_166 : kd 166 = (1, 12) := rfl
theorem kd_167 : kd 167 = (1, 12) := rfl
theorem kd_168 : kd 168 = (1, 12) := rfl
theorem kd_169 : kd 169 = (1, 12) := rfl
theorem kd_170 : kd 170 = (1, 100) := rfl
theorem kd_171 : kd 171 = (0, 3) := rfl
theorem kd_172 : kd 172 = (1, 12) := rfl
theorem kd_173 : kd 173 = (1, 12) := rfl
theorem kd_174 : kd 174 = (1, 12) := rfl
theorem kd_175 : kd 175 = (0, 8) := rfl
theorem kd_176 : kd 176 = (1, 84) := rfl
theorem kd_177 : kd 177 = (1, 12) := rfl
theorem kd_178 : kd 178 = (1, 18) := rfl
theorem kd_179 : kd 179 = (1, 18) := rfl
theorem kd_180 : kd 180 = (1, 12) := rfl
theorem kd_181 : kd 181 = (1, 12) := rfl
theorem kd_182 : kd 182 = (1, 12) := rfl
theorem kd_183 : kd 183 = (1, 12) := rfl
theorem kd_184 : kd 184 = (1, 100) := rfl
theorem kd_185 : kd 185 = (0, 3) := rfl
theorem kd_186 : kd 186 = (1, 12) := rfl
theorem kd_187 : kd 187 = (1, 12) := rfl
theorem kd_188 : kd 188 = (1, 12) := rfl
theorem kd_189 : kd 189 = (0, 8) := rfl
theorem kd_190 : kd 190 = (1, 84) := rfl
theorem kd_191 : kd 191 = (1, 12) := rfl
theorem kd_192 : kd 192 = (1, 18) := rfl
theorem kd_193 : kd 193 = (1, 18) := rfl
theorem kd_194 : kd 194 = (1, 12) := rfl
theorem kd_195 : kd 195 = (1, 12) := rfl
theorem kd_196 : kd 196 = (1, 12) := rfl
theorem kd_197 : kd 197 = (1, 12) := rfl
theorem kd_198 : kd 198 = (1, 100) := rfl
theorem kd_199 : kd 199 = (0, 3) := rfl
theorem kd_200 : kd 200 = (1, 12) := rfl
theorem kd_201 : kd 201 = (1, 12) := rfl
theorem kd_202 : kd 202 = (1, 12) := rfl
theorem kd_203 : kd 203 = (0, 8) := rfl
theorem kd_204 : kd 204 = (1, 84) := rfl
theorem kd_205 : kd 205 = (1, 12) := rfl
theorem kd_206 : kd 206 = (1, 18) := rfl
theorem kd_207 : kd 207 = (1, 18) := rfl
theorem kd_208 : kd 208 = (1, 12) := rfl
theorem kd_209 : kd 209 = (1, 12) := rfl
theorem kd_210 : kd 210 = (1, 12) := rfl
theorem kd_211 : kd 211 = (1, 12) := rfl
theorem kd_212 : kd 212 = (1, 100) := rfl
theorem kd_213 : kd 213 = (0, 3) := rfl
theorem kd_214 : kd 214 = (1, 12) := rfl
theorem kd_215 : kd 215 = (1, 12) := rfl
theorem kd_216 : kd 216 = (1, 12) := rfl
theorem kd_217 : kd 217 = (0, 8) := rfl
theorem kd_218 : kd 218 = (1, 84) := rfl
theorem kd_219 : kd 219 = (1, 12) := rfl
theorem kd_220 : kd 220 = (1, 18) := rfl
theorem kd_221 : kd 221 = (1, 18) := rfl
theorem kd_222 : kd 222 = (1, 12) := rfl
theorem kd_223 : kd 223 = (1, 12) := rfl
theorem kd_224 : kd 224 = (1, 12) := rfl
theorem kd_225 : kd 225 = (1, 12) := rfl
theorem kd_226 : kd 226 = (1, 100) := rfl
theorem kd_227 : kd 227 = (0, 3) := rfl
theorem kd_228 : kd 228 = (1, 12) := rfl
theorem kd_229 : kd 229 = (1, 12) := rfl
theorem kd_230 : kd 230 = (1, 12) := rfl
theorem kd_231 : kd 231 = (4, 2) := rfl
theorem kd_232 : kd 232 = (0, 8) := rfl
theorem kd_233 : kd 233 = (1, 84) := rfl
theorem kd_234 : kd 234 = (1, 12) := rfl
theorem kd_235 : kd 235 = (1, 18) := rfl
theorem kd_236 : kd 236 = (1, 18) := rfl
theorem kd_237 : kd 237 = (1, 12) := rfl
theorem kd_238 : kd 238 = (1, 12) := rfl
theorem kd_239 : kd 239 = (1, 12) := rfl
theorem kd_240 : kd 240 = (1, 12) := rfl
theorem kd_241 : kd 241 = (1, 100) := rfl
theorem kd_242 : kd 242 = (0, 3) := rfl
theorem kd_243 : kd 243 = (1, 12) := rfl
theorem kd_244 : kd 244 = (1, 12) := rfl
theorem kd_245 : kd 245 = (1, 12) := rfl
theorem kd_246 : kd 246 = (0, 8) := rfl
theorem kd_247 : kd 247 = (1, 84) := rfl
theorem kd_248 : kd 248 = (1, 12) := rfl
theorem kd_249 : kd 249 = (1, 18) := rfl
theorem kd_250 : kd 250 = (1, 18) := rfl
theorem kd_251 : kd 251 = (1, 12) := rfl
theorem kd_252 : kd 252 = (1, 12) := rfl
theorem kd_253 : kd 253 = (1, 12) := rfl
theorem kd_254 : kd 254 = (1, 12) := rfl
theorem kd_255 : kd 255 = (1, 100) := rfl
theorem kd_256 : kd 256 = (0, 3) := rfl
theorem kd_257 : kd 257 = (1, 12) := rfl
theorem kd_258 : kd 258 = (1, 12) := rfl
theorem kd_259 : kd 259 = (1, 12) := rfl
theorem kd_260 : kd 260 = (3, 2) := rfl
theorem kd_261 : kd 261 = (0, 12) := rfl
theorem kd_262 : kd 262 = (2, 900) := rfl
theorem kd_263 : kd 263 = (1, 7) := rfl
theorem kd_264 : kd 264 = (1, 7) := rfl
theorem kd_265 : kd 265 = (1, 36) := rfl
theorem kd_266 : kd 266 = (1, 36) := rfl
theorem kd_267 : kd 267 = (1, 36) := rfl
theorem kd_268 : kd 268 = (1, 36) := rfl
theorem kd_269 : kd 269 = (1, 36) := rfl
theorem kd_270 : kd 270 = (1, 24) := rfl
theorem kd_271 : kd 271 = (1, 24) := rfl
theorem kd_272 : kd 272 = (1, 24) := rfl
theorem kd_273 : kd 273 = (1, 168) := rfl
theorem kd_274 : kd 274 = (1, 332) := rfl
theorem kd_275 : kd 275 = (1, 3984) := rfl
theorem kd_276 : kd 276 = (1, 664) := rfl
theorem kd_277 : kd 277 = (3, 2) := rfl
theorem kd_278 : kd 278 = (1, 10) := rfl
theorem kd_279 : kd 279 = (3, 10) := rfl
theorem kd_280 : kd 280 = (1, 10) := rfl
theorem kd_281 : kd 281 = (1, 10240) := rfl
theorem kd_282 : kd 282 = (1, 12) := rfl
theorem kd_283 : kd 283 = (1, 12) := rfl
theorem kd_284 : kd 284 = (1, 12) := rfl
theorem kd_285 : kd 285 = (1, 12) := rfl
theorem rf_0_0 : Rf0 0 0 = some 1 := rfl
theorem rf_0_1 : Rf0 0 1 = some 3 := rfl
theorem rf_0_2 : Rf0 0 2 = some 24 := rfl
theorem rf_0_3 : Rf0 0 3 = some 30 := rfl
theorem rf_0_4 : Rf0 0 4 = some 44 := rfl
theorem rf_0_5 : Rf0 0 5 = some 45 := rfl
theorem rf_0_6 : Rf0 0 6 = some 48 := rfl
theorem rf_0_7 : Rf0 0 7 = some 50 := rfl
theorem rf_0_8 : Rf0 0 8 = some 56 := rfl
theorem rf_0_9 : Rf0 0 9 = some 61 := rfl
theorem rf_0_10 : Rf0 0 10 = some 231 := rfl
theorem rf_0_11 : Rf0 0 11 = some 260 := rfl
theorem rf_1_0 : Rf0 1 0 = some 2 := rfl
theorem rf_3_0 : Rf0 3 0 = some 1 := rfl
theorem rf_3_1 : Rf0 3 1 = some 4 := rfl
theorem rf_3_2 : Rf0 3 2 = some 10 := rfl
theorem rf_4_7 : Rf0 4 7 = some 5 := rfl
theorem rf_4_8 : Rf0 4 8 = some 6 := rfl
theorem rf_4_9 : Rf0 4 9 = some 7 := rfl
theorem rf_4_10 : Rf0 4 10 = some 8 := rfl
theorem rf_4_11 : Rf0 4 11 = some 9 := rfl
theorem rf_10_2 : Rf0 10 2 = some 11 := rfl
theorem rf_10_3 : Rf0 10 3 = some 12 := rfl
theorem rf_10_4 : Rf0 10 4 = some 13 := rfl
theorem rf_10_5 : Rf0 10 5 = some 14 := rfl
theorem rf_10_6 : Rf0 10 6 = some 15 := rfl
theorem rf_10_7 : Rf0 10 7 = some 16 := rfl
theorem rf_10_8 : Rf0 10 8 = some 17 := rfl
theorem rf_10_9 : Rf0 10 9 = some 18 := rfl
theorem rf_10_10 : Rf0 10 10 = some 19 := rfl
theorem rf_10_11 : Rf0 10 11 = some 20 := rfl
theorem rf_20_3 : Rf0 20 3 = some 21 := rfl
theorem rf_20_4 : Rf0 20 4 = some 22 := rfl
theorem rf_20_5 : Rf0 20 5 = some 23 := rfl
theorem rf_24_7 : Rf0 24 7 = some 25 := rfl
theorem rf_24_8 : Rf0 24 8 = some 26 := rfl
theorem rf_24_9 : Rf0 24 9 = some 27 := rfl
theorem rf_24_10 : Rf0 24 10 = some 28 := rfl
theorem rf_24_11 : Rf0 24 11 = some 29 := rfl
theorem rf_30_2 : Rf0 30 2 = some 31 := rfl
theorem rf_30_3 : Rf0 30 3 = some 32 := rfl
theorem rf_30_4 : Rf0 30 4 = some 33 := rfl
theorem rf_30_5 : Rf0 30 5 = some 34 := rfl
theorem rf_30_6 : Rf0 30 6 = some 35 := rfl
theorem rf_30_7 : Rf0 30 7 = some 36 := rfl
theorem rf_30_8 : Rf0 30 8 = some 37 := rfl
theorem rf_30_9 : Rf0 30 9 = some 38 := rfl
theorem rf_30_10 : Rf0 30 10 = some 39 := rfl
theorem rf_30_11 : Rf0 30 11 = some 40 := rfl
theorem rf_40_3 : Rf0 40 3 = some 41 := rfl
theorem rf_40_4 : Rf0 40 4 = some 42 := rfl
theorem rf_40_5 : Rf0 40 5 = some 43 := rfl
theorem rf_44_0 : Rf0 44 0 = some 24 := rfl
theorem rf_44_1 : Rf0 44 1 = some 30 := rfl
theorem rf_45_0 : Rf0 45 0 = some 24 := rfl
theorem rf_45_1 : Rf0 45 1 = some 30 := rfl
theorem rf_45_2 : Rf0 45 2 = some 46 := rfl
theorem rf_45_3 : Rf0 45 3 = some 47 := rfl
theorem rf_48_0 : Rf0 48 0 = some 49 := rfl
theorem rf_50_0 : Rf0 50 0 = some 24 := rfl
theorem rf_50_1 : Rf0 50 1 = some 44 := rfl
theorem rf_50_2 : Rf0 50 2 = some 45 := rfl
theorem rf_50_3 : Rf0 50 3 = some 51 := rfl
theorem rf_50_4 : Rf0 50 4 = some 53 := rfl
theorem rf_50_5 : Rf0 50 5 = some 54 := rfl
theorem rf_50_6 : Rf0 50 6 = some 55 := rfl
theorem rf_51_0 : Rf0 51 0 = some 52 := rfl
theorem rf_56_0 : Rf0 56 0 = some 24 := rfl
theorem rf_56_1 : Rf0 56 1 = some 30 := rfl
theorem rf_56_2 : Rf0 56 2 = some 44 := rfl
theorem rf_56_3 : Rf0 56 3 = some 45 := rfl
theorem rf_56_4 : Rf0 56 4 = some 57 := rfl
theorem rf_57_3 : Rf0 57 3 = some 58 := rfl
theorem rf_57_4 : Rf0 57 4 = some 59 := rfl
theorem rf_57_5 : Rf0 57 5 = some 60 := rfl
theorem rf_61_0 : Rf0 61 0 = some 62 := rfl
theorem rf_63_2 : Rf0 63 2 = some 64 := rfl
theorem rf_63_3 : Rf0 63 3 = some 65 := rfl
theorem rf_63_4 : Rf0 63 4 = some 66 := rfl
theorem rf_63_5 : Rf0 63 5 = some 67 := rfl
theorem rf_63_6 : Rf0 63 6 = some 68 := rfl
theorem rf_63_7 : Rf0 63 7 = some 69 := rfl
theorem rf_63_8 : Rf0 63 8 = some 70 := rfl
theorem rf_63_9 : Rf0 63 9 = some 71 := rfl
theorem rf_63_10 : Rf0 63 10 = some 72 := rfl
theorem rf_63_11 : Rf0 63 11 = some 73 := rfl
theorem rf_73_3 : Rf0 73 3 = some 74 := rfl
theorem rf_73_4 : Rf0 73 4 = some 75 := rfl
theorem rf_73_5 : Rf0 73 5 = some 76 := rfl
theorem rf_77_2 : Rf0 77 2 = some 78 := rfl
theorem rf_77_3 : Rf0 77 3 = some 79 := rfl
theorem rf_77_4 : Rf0 77 4 = some 80 := rfl
theorem rf_77_5 : Rf0 77 5 = some 81 := rfl
theorem rf_77_6 : Rf0 77 6 = some 82 := rfl
theorem rf_77_7 : Rf0 77 7 = some 83 := rfl
theorem rf_77_8 : Rf0 77 8 = some 84 := rfl
theorem rf_77_9 : Rf0 77 9 = some 85 := rfl
theorem rf_77_10 : Rf0 77 10 = some 86 := rfl
theorem rf_77_11 : Rf0 77 11 = some 87 := rfl
theorem rf_87_3 : Rf0 87 3 = some 88 := rfl
theorem rf_87_4 : Rf0 87 4 = some 89 := rfl
theorem rf_87_5 : Rf0 87 5 = some 90 := rfl
theorem rf_91_2 : Rf0 91 2 = some 92 := rfl
theorem rf_91_3 : Rf0 91 3 = some 93 := rfl
theorem rf_91_4 : Rf0 91 4 = some 94 := rfl
theorem rf_91_5 : Rf0 91 5 = some 95 := rfl
theorem rf_91_6 : Rf0 91 6 = some 96 := rfl
theorem rf_91_7 : Rf0 91 7 = some 97 := rfl
theorem rf_91_8 : Rf0 91 8 = some 98 := rfl
theorem rf_91_9 : Rf0 91 9 = some 99 := rfl
theorem rf_91_10 : Rf0 91 10 = some 100 := rfl
theorem rf_91_11 : Rf0 91 11 = some 101 := rfl
theorem rf_101_3 : Rf0 101 3 = some 102 := rfl
theorem rf_101_4 : Rf0 101 4 = some 103 := rfl
theorem rf_101_5 : Rf0 101 5 = some 104 := rfl
theorem rf_105_2 : Rf0 105 2 = some 106 := rfl
theorem rf_105_3 : Rf0 105 3 = some 107 := rfl
theorem rf_105_4 : Rf0 105 4 = some 108 := rfl
theorem rf_105_5 : Rf0 105 5 = some 109 := rfl
theorem rf_105_6 : Rf0 105 6 = some 110 := rfl
theorem rf_105_7 : Rf0 105 7 = some 111 := rfl
theorem rf_105_8 : Rf0 105 8 = some 112 := rfl
theorem rf_105_9 : Rf0 105 9 = some 113 := rfl
theorem rf_105_10 : Rf0 105 10 = some 114 := rfl
theorem rf_105_11 : Rf0 105 11 = some 115 := rfl
theorem rf_115_3 : Rf0 115 3 = some 116 := rfl
theorem rf_115_4 : Rf0 115 4 = some 117 := rfl
theorem rf_115_5 : Rf0 115 5 = some 118 := rfl
theorem rf_119_2 : Rf0 119 2 = some 120 := rfl
theorem rf_119_3 : Rf0 119 3 = some 121 := rfl
theorem rf_119_4 : Rf0 119 4 = some 122 := rfl
theorem rf_119_5 : Rf0 119 5 = some 123 := rfl
theorem rf_119_6 : Rf0 119 6 = some 124 := rfl
theorem rf_119_7 : Rf0 119 7 = some 125 := rfl
theorem rf_119_8 : Rf0 119 8 = some 126 := rfl
theorem rf_119_9 : Rf0 119 9 = some 127 := rfl
theorem rf_119_10 : Rf0 119 10 = some 128 := rfl
theorem rf_119_11 : Rf0 119 11 = some 129 := rfl
theorem rf_129_3 : Rf0 129 3 = some 130 := rfl
theorem rf_129_4 : Rf0 129 4 = some 131 := rfl
theorem rf_129_5 : Rf0 129 5 = some 132 := rfl
theorem rf_133_2 : Rf0 133 2 = some 134 := rfl
theorem rf_133_3 : Rf0 133 3 = some 135 := rfl
theorem rf_133_4 : Rf0 133 4 = some 136 := rfl
theorem rf_133_5 : Rf0 133 5 = some 137 := rfl
theorem rf_133_6 : Rf0 133 6 = some 138 := rfl
theorem rf_133_7 : Rf0 133 7 = some 139 := rfl
theorem rf_133_8 : Rf0 133 8 = some 140 := rfl
theorem rf_133_9 : Rf0 133 9 = some 141 := rfl
theorem rf_133_10 : Rf0 133 10 = some 142 := rfl
theorem rf_133_11 : Rf0 133 11 = some 143 := rfl
theorem rf_143_3 : Rf0 143 3 = some 144 := rfl
theorem rf_143_4 : Rf0 143 4 = some 145 := rfl
theorem rf_143_5 : Rf0 143 5 = some 146 := rfl
theorem rf_147_2 : Rf0 147 2 = some 148 := rfl
theorem rf_147_3 : Rf0 147 3 = some 149 := rfl
theorem rf_147_4 : Rf0 147 4 = some 150 := rfl
theorem rf_147_5 : Rf0 147 5 = some 151 := rfl
theorem rf_147_6 : Rf0 147 6 = some 152 := rfl
theorem rf_147_7 : Rf0 147 7 = some 153 := rfl
theorem rf_147_8 : Rf0 147 8 = some 154 := rfl
theorem rf_147_9 : Rf0 147 9 = some 155 := rfl
theorem rf_147_10 : Rf0 147 10 = some 156 := rfl
theorem rf_147_11 : Rf0 147 11 = some 157 := rfl
theorem rf_157_3 : Rf0 157 3 = some 158 := rfl
theorem rf_157_4 : Rf0 157 4 = some 159 := rfl
theorem rf_157_5 : Rf0 157 5 = some 160 := rfl
theorem rf_161_2 : Rf0 161 2 = some 162 := rfl
theorem rf_161_3 : Rf0 161 3 = some 163 := rfl
theorem rf_161_4 : Rf0 161 4 = some 164 := rfl
theorem rf_161_5 : Rf0 161 5 = some 165 := rfl
theorem rf_161_6 : Rf0 161 6 = some 166 := rfl
theorem rf_161_7 : Rf0 161 7 = some 167 := rfl
theorem rf_161_8 : Rf0 161 8 = some 168 := rfl
theorem rf_161_9 : Rf0 161 9 = some 169 := rfl
theorem rf_161_10 : Rf0 161 10 = some 170 := rfl
theorem rf_161_11 : Rf0 161 11 = some 171 := rfl
theorem rf_171_3 : Rf0 171 3 = some 172 := rfl
theorem rf_171_4 : Rf0 171 4 = some 173 := rfl
theorem rf_171_5 : Rf0 171 5 = some 174 := rfl
theorem rf_175_2 : Rf0 175 2 = some 176 := rfl
theorem rf_175_3 : Rf0 175 3 = some 177 := rfl
theorem rf_175_4 : Rf0 175 4 = some 178 := rfl
theorem rf_175_5 : Rf0 175 5 = some 179 := rfl
theorem rf_175_6 : Rf0 175 6 = some 180 := rfl
theorem rf_175_7 : Rf0 175 7 = some 181 := rfl
theorem rf_175_8 : Rf0 175 8 = some 182 := rfl
theorem rf_175_9 : Rf0 175 9 = some 183 := rfl
theorem rf_175_10 : Rf0 175 10 = some 184 := rfl
theorem rf_175_11 : Rf0 175 11 = some 185 := rfl
theorem rf_185_3 : Rf0 185 3 = some 186 := rfl
theorem rf_185_4 : Rf0 185 4 = some 187 := rfl
theorem rf_185_5 : Rf0 185 5 = some 188 := rfl
theorem rf_189_2 : Rf0 189 2 = some 190 := rfl
theorem rf_189_3 : Rf0 189 3 = some 191 := rfl
theorem rf_189_4 : Rf0 189 4 = some 192 := rfl
theorem rf_189_5 : Rf0 189 5 = some 193 := rfl
theorem rf_189_6 : Rf0 189 6 = some 194 := rfl
theorem rf_189_7 : Rf0 189 7 = some 195 := rfl
theorem rf_189_8 : Rf0 189 8 = some 196 := rfl
theorem rf_189_9 : Rf0 189 9 = some 197 := rfl
theorem rf_189_10 : Rf0 189 10 = some 198 := rfl
theorem rf_189_11 : Rf0 189 11 = some 199 := rfl
theorem rf_199_3 : Rf0 199 3 = some 200 := rfl
theorem rf_199_4 : Rf0 199 4 = some 201 := rfl
theorem rf_199_5 : Rf0 199 5 = some 202 := rfl
theorem rf_203_2 : Rf0 203 2 = some 204 := rfl
theorem rf_203_3 : Rf0 203 3 = some 205 := rfl
theorem rf_203_4 : Rf0 203 4 = some 206 := rfl
theorem rf_203_5 : Rf0 203 5 = some 207 := rfl
theorem rf_203_6 : Rf0 203 6 = some 208 := rfl
theorem rf_203_7 : Rf0 203 7 = some 209 := rfl
theorem rf_203_8 : Rf0 203 8 = some 210 := rfl
theorem rf_203_9 : Rf0 203 9 = some 211 := rfl
theorem rf_203_10 : Rf0 203 10 = some 212 := rfl
theorem rf_203_11 : Rf0 203 11 = some 213 := rfl
theorem rf_213_3 : Rf0 213 3 = some 214 := rfl
theorem rf_213_4 : Rf0 213 4 = some 215 := rfl
theorem rf_213_5 : Rf0 213 5 = some 216 := rfl
theorem rf_217_2 : Rf0 217 2 = some 218 := rfl
theorem rf_217_3 : Rf0 217 3 = some 219 := rfl
theorem rf_217_4 : Rf0 217 4 = some 220 := rfl
theorem rf_217_5 : Rf0 217 5 = some 221 := rfl
theorem rf_217_6 : Rf0 217 6 = some 222 := rfl
theorem rf_217_7 : Rf0 217 7 = some 223 := rfl
theorem rf_217_8 : Rf0 217 8 = some 224 := rfl
theorem rf_217_9 : Rf0 217 9 = some 225 := rfl
theorem rf_217_10 : Rf0 217 10 = some 226 := rfl
theorem rf_217_11 : Rf0 217 11 = some 227 := rfl
theorem rf_227_3 : Rf0 227 3 = some 228 := rfl
theorem rf_227_4 : Rf0 227 4 = some 229 := rfl
theorem rf_227_5 : Rf0 227 5 = some 230 := rfl
theorem rf_232_2 : Rf0 232 2 = some 233 := rfl
theorem rf_232_3 : Rf0 232 3 = some 234 := rfl
theorem rf_232_4 : Rf0 232 4 = some 235 := rfl
theorem rf_232_5 : Rf0 232 5 = some 236 := rfl
theorem rf_232_6 : Rf0 232 6 = some 237 := rfl
theorem rf_232_7 : Rf0 232 7 = some 238 := rfl
theorem rf_232_8 : Rf0 232 8 = some 239 := rfl
theorem rf_232_9 : Rf0 232 9 = some 240 := rfl
theorem rf_232_10 : Rf0 232 10 = some 241 := rfl
theorem rf_232_11 : Rf0 232 11 = some 242 := rfl
theorem rf_242_3 : Rf0 242 3 = some 243 := rfl
theorem rf_242_4 : Rf0 242 4 = some 244 := rfl
theorem rf_242_5 : Rf0 242 5 = some 245 := rfl
theorem rf_246_2 : Rf0 246 2 = some 247 := rfl
theorem rf_246_3 : Rf0 246 3 = some 248 := rfl
theorem rf_246_4 : Rf0 246 4 = some 249 := rfl
theorem rf_246_5 : Rf0 246 5 = some 250 := rfl
theorem rf_246_6 : Rf0 246 6 = some 251 := rfl
theorem rf_246_7 : Rf0 246 7 = some 252 := rfl
theorem rf_246_8 : Rf0 246 8 = some 253 := rfl
theorem rf_246_9 : Rf0 246 9 = some 254 := rfl
theorem rf_246_10 : Rf0 246 10 = some 255 := rfl
theorem rf_246_11 : Rf0 246 11 = some 256 := rfl
theorem rf_256_3 : Rf0 256 3 = some 257 := rfl
theorem rf_256_4 : Rf0 256 4 = some 258 := rfl
theorem rf_256_5 : Rf0 256 5 = some 259 := rfl
theorem rf_261_1 : Rf0 261 1 = some 262 := rfl
theorem rf_261_10 : Rf0 261 10 = some 263 := rfl
theorem rf_261_11 : Rf0 261 11 = some 264 := rfl
theorem rf_261_12 : Rf0 261 12 = some 265 := rfl
theorem rf_261_13 : Rf0 261 13 = some 266 := rfl
theorem rf_261_14 : Rf0 261 14 = some 267 := rfl
theorem rf_261_15 : Rf0 261 15 = some 268 := rfl
theorem rf_261_16 : Rf0 261 16 = some 269 := rfl
theorem rf_261_17 : Rf0 261 17 = some 270 := rfl
theorem rf_261_18 : Rf0 261 18 = some 271 := rfl
theorem rf_261_19 : Rf0 261 19 = some 272 := rfl
theorem rf_261_20 : Rf0 261 20 = some 273 := rfl
theorem rf_261_22 : Rf0 261 22 = some 274 := rfl
theorem rf_261_23 : Rf0 261 23 = some 275 := rfl
theorem rf_261_25 : Rf0 261 25 = some 276 := rfl
theorem rf_261_26 : Rf0 261 26 = some 277 := rfl
theorem rf_261_27 : Rf0 261 27 = some 278 := rfl
theorem rf_261_28 : Rf0 261 28 = some 279 := rfl
theorem rf_261_29 : Rf0 261 29 = some 280 := rfl
theorem rf_261_31 : Rf0 261 31 = some 281 := rfl
theorem rf_261_41 : Rf0 261 41 = some 282 := rfl
theorem rf_261_42 : Rf0 261 42 = some 283 := rfl
theorem rf_261_43 : Rf0 261 43 = some 284 := rfl
theorem rf_261_44 : Rf0 261 44 = some 285 := rfl
theorem fl_9_9 : Cond.fieldLink RX9 9 (TX9 0).1 (TX9 0).2.1 (TX9 0).2.2.1 ∈ tbl := tb_in 86 (by decide +kernel) rfl
theorem fl_11_95 : Cond.fieldLink RX11 95 (TX9 1).1 (TX9 1).2.1 (TX9 1).2.2.1 ∈ tbl := tb_in 87 (by decide +kernel) rfl
theorem fl_9_15 : Cond.fieldLink RX9 15 (TX9 1).1 (TX9 1).2.1 (TX9 1).2.2.1 ∈ tbl := tb_in 88 (by decide +kernel) rfl
theorem fl_9_25 : Cond.fieldLink RX9 25 (TX9 2).1 (TX9 2).2.1 (TX9 2).2.2.1 ∈ tbl := tb_in 89 (by decide +kernel) rfl
theorem fl_5_96 : Cond.fieldLink RX5 96 (TX9 3).1 (TX9 3).2.1 (TX9 3).2.2.1 ∈ tbl := tb_in 90 (by decide +kernel) rfl
theorem fl_9_34 : Cond.fieldLink RX9 34 (TX9 3).1 (TX9 3).2.1 (TX9 3).2.2.1 ∈ tbl := tb_in 91 (by decide +kernel) rfl
theorem fl_9_28 : Cond.fieldLink RX9 28 (TX9 4).1 (TX9 4).2.1 (TX9 4).2.2.1 ∈ tbl := tb_in 92 (by decide +kernel) rfl
theorem fl_5_45 : Cond.fieldLink RX5 45 (TX9 5).1 (TX9 5).2.1 (TX9 5).2.2.1 ∈ tbl := tb_in 93 (by decide +kernel) rfl
theorem fl_9_41 : Cond.fieldLink RX9 41 (TX9 5).1 (TX9 5).2.1 (TX9 5).2.2.1 ∈ tbl := tb_in 94 (by decide +kernel) rfl
theorem ml_11_18 : Cond.methodLink RX11 18 yX5_init ∈ tbl := tb_in 111 (by decide +kernel) rfl
theorem ml_5_11 : Cond.methodLink RX5 11 yX6_init ∈ tbl := tb_in 117 (by decide +kernel) rfl
theorem ml_6_27 : Cond.methodLink RX6 27 yX6_clear ∈ tbl := tb_in 121 (by decide +kernel) rfl
theorem fl_6_30 : Cond.fieldLink RX6 30 (TX6 0).1 (TX6 0).2.1 (TX6 0).2.2.1 ∈ tbl := tb_in 125 (by decide +kernel) rfl
theorem fl_11_130 : Cond.fieldLink RX11 130 (TX6 0).1 (TX6 0).2.1 (TX6 0).2.2.1 ∈ tbl := tb_in 126 (by decide +kernel) rfl
theorem fl_5_107 : Cond.fieldLink RX5 107 (TX6 0).1 (TX6 0).2.1 (TX6 0).2.2.1 ∈ tbl := tb_in 127 (by decide +kernel) rfl
theorem fl_1_111 : Cond.fieldLink RX1 111 (TX6 0).1 (TX6 0).2.1 (TX6 0).2.2.1 ∈ tbl := tb_in 128 (by decide +kernel) rfl
theorem fl_6_34 : Cond.fieldLink RX6 34 (TX6 1).1 (TX6 1).2.1 (TX6 1).2.2.1 ∈ tbl := tb_in 129 (by decide +kernel) rfl
theorem fl_4_37 : Cond.fieldLink RX4 37 (TX6 1).1 (TX6 1).2.1 (TX6 1).2.2.1 ∈ tbl := tb_in 130 (by decide +kernel) rfl
theorem fl_5_101 : Cond.fieldLink RX5 101 (TX6 1).1 (TX6 1).2.1 (TX6 1).2.2.1 ∈ tbl := tb_in 131 (by decide +kernel) rfl
theorem fl_11_133 : Cond.fieldLink RX11 133 (TX6 1).1 (TX6 1).2.1 (TX6 1).2.2.1 ∈ tbl := tb_in 132 (by decide +kernel) rfl
theorem fl_6_37 : Cond.fieldLink RX6 37 (TX6 2).1 (TX6 2).2.1 (TX6 2).2.2.1 ∈ tbl := tb_in 133 (by decide +kernel) rfl
theorem fl_10_33 : Cond.fieldLink RX10 33 (TX6 2).1 (TX6 2).2.1 (TX6 2).2.2.1 ∈ tbl := tb_in 134 (by decide +kernel) rfl
theorem fl_11_127 : Cond.fieldLink RX11 127 (TX6 2).1 (TX6 2).2.1 (TX6 2).2.2.1 ∈ tbl := tb_in 135 (by decide +kernel) rfl
theorem fl_0_108 : Cond.fieldLink RX0 108 (TX6 2).1 (TX6 2).2.1 (TX6 2).2.2.1 ∈ tbl := tb_in 136 (by decide +kernel) rfl
theorem fl_5_104 : Cond.fieldLink RX5 104 (TX6 2).1 (TX6 2).2.1 (TX6 2).2.2.1 ∈ tbl := tb_in 137 (by decide +kernel) rfl
theorem fl_1_87 : Cond.fieldLink RX1 87 (TX6 2).1 (TX6 2).2.1 (TX6 2).2.2.1 ∈ tbl := tb_in 138 (by decide +kernel) rfl
theorem fl_6_40 : Cond.fieldLink RX6 40 (TX6 3).1 (TX6 3).2.1 (TX6 3).2.2.1 ∈ tbl := tb_in 139 (by decide +kernel) rfl
theorem fl_0_58 : Cond.fieldLink RX0 58 (TX6 3).1 (TX6 3).2.1 (TX6 3).2.2.1 ∈ tbl := tb_in 140 (by decide +kernel) rfl
theorem fl_1_58 : Cond.fieldLink RX1 58 (TX6 3).1 (TX6 3).2.1 (TX6 3).2.2.1 ∈ tbl := tb_in 141 (by decide +kernel) rfl
theorem fl_5_72 : Cond.fieldLink RX5 72 (TX6 3).1 (TX6 3).2.1 (TX6 3).2.2.1 ∈ tbl := tb_in 142 (by decide +kernel) rfl
theorem fl_11_136 : Cond.fieldLink RX11 136 (TX6 3).1 (TX6 3).2.1 (TX6 3).2.2.1 ∈ tbl := tb_in 143 (by decide +kernel) rfl
theorem fl_0_41 : Cond.fieldLink RX0 41 (TX6 4).1 (TX6 4).2.1 (TX6 4).2.2.1 ∈ tbl := tb_in 144 (by decide +kernel) rfl
theorem fl_6_43 : Cond.fieldLink RX6 43 (TX6 4).1 (TX6 4).2.1 (TX6 4).2.2.1 ∈ tbl := tb_in 145 (by decide +kernel) rfl
theorem fl_5_77 : Cond.fieldLink RX5 77 (TX6 4).1 (TX6 4).2.1 (TX6 4).2.2.1 ∈ tbl := tb_in 146 (by decide +kernel) rfl
theorem fl_1_104 : Cond.fieldLink RX1 104 (TX6 4).1 (TX6 4).2.1 (TX6 4).2.2.1 ∈ tbl := tb_in 147 (by decide +kernel) rfl
theorem fl_11_296 : Cond.fieldLink RX11 296 (TX6 4).1 (TX6 4).2.1 (TX6 4).2.2.1 ∈ tbl := tb_in 148 (by decide +kernel) rfl
theorem fl_6_46 : Cond.fieldLink RX6 46 (TX6 5).1 (TX6 5).2.1 (TX6 5).2.2.1 ∈ tbl := tb_in 149 (by decide +kernel) rfl
theorem fl_5_81 : Cond.fieldLink RX5 81 (TX6 5).1 (TX6 5).2.1 (TX6 5).2.2.1 ∈ tbl := tb_in 150 (by decide +kernel) rfl
theorem fl_11_229 : Cond.fieldLink RX11 229 (TX6 5).1 (TX6 5).2.1 (TX6 5).2.2.1 ∈ tbl := tb_in 151 (by decide +kernel) rfl
theorem fl_6_49 : Cond.fieldLink RX6 49 (TX6 6).1 (TX6 6).2.1 (TX6 6).2.2.1 ∈ tbl := tb_in 152 (by decide +kernel) rfl
theorem fl_5_83 : Cond.fieldLink RX5 83 (TX6 6).1 (TX6 6).2.1 (TX6 6).2.2.1 ∈ tbl := tb_in 153 (by decide +kernel) rfl
theorem fl_11_232 : Cond.fieldLink RX11 232 (TX6 6).1 (TX6 6).2.1 (TX6 6).2.2.1 ∈ tbl := tb_in 154 (by decide +kernel) rfl
theorem fl_6_9 : Cond.fieldLink RX6 9 (TX6 7).1 (TX6 7).2.1 (TX6 7).2.2.1 ∈ tbl := tb_in 155 (by decide +kernel) rfl
theorem fl_4_43 : Cond.fieldLink RX4 43 (TX6 7).1 (TX6 7).2.1 (TX6 7).2.2.1 ∈ tbl := tb_in 156 (by decide +kernel) rfl
theorem fl_5_117 : Cond.fieldLink RX5 117 (TX6 7).1 (TX6 7).2.1 (TX6 7).2.2.1 ∈ tbl := tb_in 157 (by decide +kernel) rfl
theorem fl_6_15 : Cond.fieldLink RX6 15 (TX6 8).1 (TX6 8).2.1 (TX6 8).2.2.1 ∈ tbl := tb_in 158 (by decide +kernel) rfl
theorem fl_4_46 : Cond.fieldLink RX4 46 (TX6 8).1 (TX6 8).2.1 (TX6 8).2.2.1 ∈ tbl := tb_in 159 (by decide +kernel) rfl
theorem fl_5_121 : Cond.fieldLink RX5 121 (TX6 8).1 (TX6 8).2.1 (TX6 8).2.2.1 ∈ tbl := tb_in 160 (by decide +kernel) rfl
theorem fl_6_18 : Cond.fieldLink RX6 18 (TX6 9).1 (TX6 9).2.1 (TX6 9).2.2.1 ∈ tbl := tb_in 161 (by decide +kernel) rfl
theorem fl_4_64 : Cond.fieldLink RX4 64 (TX6 9).1 (TX6 9).2.1 (TX6 9).2.2.1 ∈ tbl := tb_in 162 (by decide +kernel) rfl
theorem fl_5_124 : Cond.fieldLink RX5 124 (TX6 9).1 (TX6 9).2.1 (TX6 9).2.2.1 ∈ tbl := tb_in 163 (by decide +kernel) rfl
theorem fl_6_21 : Cond.fieldLink RX6 21 (TX6 10).1 (TX6 10).2.1 (TX6 10).2.2.1 ∈ tbl := tb_in 164 (by decide +kernel) rfl
theorem fl_10_38 : Cond.fieldLink RX10 38 (TX6 10).1 (TX6 10).2.1 (TX6 10).2.2.1 ∈ tbl := tb_in 165 (by decide +kernel) rfl
theorem fl_0_114 : Cond.fieldLink RX0 114 (TX6 10).1 (TX6 10).2.1 (TX6 10).2.2.1 ∈ tbl := tb_in 166 (by decide +kernel) rfl
theorem fl_1_94 : Cond.fieldLink RX1 94 (TX6 10).1 (TX6 10).2.1 (TX6 10).2.2.1 ∈ tbl := tb_in 167 (by decide +kernel) rfl
theorem fl_5_138 : Cond.fieldLink RX5 138 (TX6 10).1 (TX6 10).2.1 (TX6 10).2.2.1 ∈ tbl := tb_in 168 (by decide +kernel) rfl
theorem fl_11_146 : Cond.fieldLink RX11 146 (TX6 10).1 (TX6 10).2.1 (TX6 10).2.2.1 ∈ tbl := tb_in 169 (by decide +kernel) rfl
theorem fl_6_24 : Cond.fieldLink RX6 24 (TX6 11).1 (TX6 11).2.1 (TX6 11).2.2.1 ∈ tbl := tb_in 170 (by decide +kernel) rfl
theorem fl_10_45 : Cond.fieldLink RX10 45 (TX6 11).1 (TX6 11).2.1 (TX6 11).2.2.1 ∈ tbl := tb_in 171 (by decide +kernel) rfl
theorem fl_5_141 : Cond.fieldLink RX5 141 (TX6 11).1 (TX6 11).2.1 (TX6 11).2.2.1 ∈ tbl := tb_in 172 (by decide +kernel) rfl
theorem ml_8_41 : Cond.methodLink RX8 41 yX3_init ∈ tbl := tb_in 207 (by decide +kernel) rfl
theorem ml_3_21 : Cond.methodLink RX3 21 yX3_clear ∈ tbl := tb_in 211 (by decide +kernel) rfl
theorem fl_3_24 : Cond.fieldLink RX3 24 (TX3 0).1 (TX3 0).2.1 (TX3 0).2.2.1 ∈ tbl := tb_in 215 (by decide +kernel) rfl
theorem fl_0_98 : Cond.fieldLink RX0 98 (TX3 0).1 (TX3 0).2.1 (TX3 0).2.2.1 ∈ tbl := tb_in 216 (by decide +kernel) rfl
theorem fl_11_214 : Cond.fieldLink RX11 214 (TX3 0).1 (TX3 0).2.1 (TX3 0).2.2.1 ∈ tbl := tb_in 217 (by decide +kernel) rfl
theorem fl_3_28 : Cond.fieldLink RX3 28 (TX3 1).1 (TX3 1).2.1 (TX3 1).2.2.1 ∈ tbl := tb_in 218 (by decide +kernel) rfl
theorem fl_11_236 : Cond.fieldLink RX11 236 (TX3 1).1 (TX3 1).2.1 (TX3 1).2.2.1 ∈ tbl := tb_in 219 (by decide +kernel) rfl
theorem fl_3_31 : Cond.fieldLink RX3 31 (TX3 2).1 (TX3 2).2.1 (TX3 2).2.2.1 ∈ tbl := tb_in 220 (by decide +kernel) rfl
theorem fl_0_124 : Cond.fieldLink RX0 124 (TX3 2).1 (TX3 2).2.1 (TX3 2).2.2.1 ∈ tbl := tb_in 221 (by decide +kernel) rfl
theorem fl_11_249 : Cond.fieldLink RX11 249 (TX3 2).1 (TX3 2).2.1 (TX3 2).2.2.1 ∈ tbl := tb_in 222 (by decide +kernel) rfl
theorem fl_3_9 : Cond.fieldLink RX3 9 (TX3 3).1 (TX3 3).2.1 (TX3 3).2.2.1 ∈ tbl := tb_in 223 (by decide +kernel) rfl
theorem fl_11_242 : Cond.fieldLink RX11 242 (TX3 3).1 (TX3 3).2.1 (TX3 3).2.2.1 ∈ tbl := tb_in 224 (by decide +kernel) rfl
theorem fl_3_15 : Cond.fieldLink RX3 15 (TX3 4).1 (TX3 4).2.1 (TX3 4).2.2.1 ∈ tbl := tb_in 225 (by decide +kernel) rfl
theorem fl_11_245 : Cond.fieldLink RX11 245 (TX3 4).1 (TX3 4).2.1 (TX3 4).2.2.1 ∈ tbl := tb_in 226 (by decide +kernel) rfl
theorem fl_3_18 : Cond.fieldLink RX3 18 (TX3 5).1 (TX3 5).2.1 (TX3 5).2.2.1 ∈ tbl := tb_in 227 (by decide +kernel) rfl
theorem fl_11_248 : Cond.fieldLink RX11 248 (TX3 5).1 (TX3 5).2.1 (TX3 5).2.2.1 ∈ tbl := tb_in 228 (by decide +kernel) rfl
theorem fl_10_29 : Cond.fieldLink RX10 29 (TX8 0).1 (TX8 0).2.1 (TX8 0).2.2.1 ∈ tbl := tb_in 242 (by decide +kernel) rfl
theorem fl_8_50 : Cond.fieldLink RX8 50 (TX8 0).1 (TX8 0).2.1 (TX8 0).2.2.1 ∈ tbl := tb_in 243 (by decide +kernel) rfl
theorem fl_11_139 : Cond.fieldLink RX11 139 (TX8 0).1 (TX8 0).2.1 (TX8 0).2.2.1 ∈ tbl := tb_in 244 (by decide +kernel) rfl
theorem fl_8_46 : Cond.fieldLink RX8 46 (TX8 1).1 (TX8 1).2.1 (TX8 1).2.2.1 ∈ tbl := tb_in 245 (by decide +kernel) rfl
theorem fl_11_264 : Cond.fieldLink RX11 264 (TX8 1).1 (TX8 1).2.1 (TX8 1).2.2.1 ∈ tbl := tb_in 246 (by decide +kernel) rfl
theorem fl_8_9 : Cond.fieldLink RX8 9 (TX8 2).1 (TX8 2).2.1 (TX8 2).2.2.1 ∈ tbl := tb_in 247 (by decide +kernel) rfl
theorem fl_10_25 : Cond.fieldLink RX10 25 (TX8 2).1 (TX8 2).2.1 (TX8 2).2.2.1 ∈ tbl := tb_in 248 (by decide +kernel) rfl
theorem fl_5_147 : Cond.fieldLink RX5 147 (TX8 2).1 (TX8 2).2.1 (TX8 2).2.2.1 ∈ tbl := tb_in 249 (by decide +kernel) rfl
theorem fl_11_153 : Cond.fieldLink RX11 153 (TX8 2).1 (TX8 2).2.1 (TX8 2).2.2.1 ∈ tbl := tb_in 250 (by decide +kernel) rfl
theorem fl_8_15 : Cond.fieldLink RX8 15 (TX8 3).1 (TX8 3).2.1 (TX8 3).2.2.1 ∈ tbl := tb_in 251 (by decide +kernel) rfl
theorem fl_0_135 : Cond.fieldLink RX0 135 (TX8 3).1 (TX8 3).2.1 (TX8 3).2.2.1 ∈ tbl := tb_in 252 (by decide +kernel) rfl
theorem fl_5_144 : Cond.fieldLink RX5 144 (TX8 3).1 (TX8 3).2.1 (TX8 3).2.2.1 ∈ tbl := tb_in 253 (by decide +kernel) rfl
theorem fl_11_270 : Cond.fieldLink RX11 270 (TX8 3).1 (TX8 3).2.1 (TX8 3).2.2.1 ∈ tbl := tb_in 254 (by decide +kernel) rfl
theorem fl_8_18 : Cond.fieldLink RX8 18 (TX8 4).1 (TX8 4).2.1 (TX8 4).2.2.1 ∈ tbl := tb_in 255 (by decide +kernel) rfl
theorem fl_4_61 : Cond.fieldLink RX4 61 (TX8 4).1 (TX8 4).2.1 (TX8 4).2.2.1 ∈ tbl := tb_in 256 (by decide +kernel) rfl
theorem fl_5_130 : Cond.fieldLink RX5 130 (TX8 4).1 (TX8 4).2.1 (TX8 4).2.2.1 ∈ tbl := tb_in 257 (by decide +kernel) rfl
theorem fl_11_162 : Cond.fieldLink RX11 162 (TX8 4).1 (TX8 4).2.1 (TX8 4).2.2.1 ∈ tbl := tb_in 258 (by decide +kernel) rfl
theorem fl_8_21 : Cond.fieldLink RX8 21 (TX8 5).1 (TX8 5).2.1 (TX8 5).2.2.1 ∈ tbl := tb_in 259 (by decide +kernel) rfl
theorem fl_4_56 : Cond.fieldLink RX4 56 (TX8 5).1 (TX8 5).2.1 (TX8 5).2.2.1 ∈ tbl := tb_in 260 (by decide +kernel) rfl
theorem fl_5_133 : Cond.fieldLink RX5 133 (TX8 5).1 (TX8 5).2.1 (TX8 5).2.2.1 ∈ tbl := tb_in 261 (by decide +kernel) rfl
theorem fl_11_159 : Cond.fieldLink RX11 159 (TX8 5).1 (TX8 5).2.1 (TX8 5).2.2.1 ∈ tbl := tb_in 262 (by decide +kernel) rfl
theorem fl_8_24 : Cond.fieldLink RX8 24 (TX8 6).1 (TX8 6).2.1 (TX8 6).2.2.1 ∈ tbl := tb_in 263 (by decide +kernel) rfl
theorem fl_0_130 : Cond.fieldLink RX0 130 (TX8 6).1 (TX8 6).2.1 (TX8 6).2.2.1 ∈ tbl := tb_in 264 (by decide +kernel) rfl
theorem fl_11_217 : Cond.fieldLink RX11 217 (TX8 6).1 (TX8 6).2.1 (TX8 6).2.2.1 ∈ tbl := tb_in 265 (by decide +kernel) rfl
theorem fl_8_27 : Cond.fieldLink RX8 27 (TX8 7).1 (TX8 7).2.1 (TX8 7).2.2.1 ∈ tbl := tb_in 266 (by decide +kernel) rfl
theorem fl_11_220 : Cond.fieldLink RX11 220 (TX8 7).1 (TX8 7).2.1 (TX8 7).2.2.1 ∈ tbl := tb_in 267 (by decide +kernel) rfl
theorem fl_8_30 : Cond.fieldLink RX8 30 (TX8 8).1 (TX8 8).2.1 (TX8 8).2.2.1 ∈ tbl := tb_in 268 (by decide +kernel) rfl
theorem fl_11_223 : Cond.fieldLink RX11 223 (TX8 8).1 (TX8 8).2.1 (TX8 8).2.2.1 ∈ tbl := tb_in 269 (by decide +kernel) rfl
theorem fl_8_33 : Cond.fieldLink RX8 33 (TX8 9).1 (TX8 9).2.1 (TX8 9).2.2.1 ∈ tbl := tb_in 270 (by decide +kernel) rfl
theorem fl_11_226 : Cond.fieldLink RX11 226 (TX8 9).1 (TX8 9).2.1 (TX8 9).2.2.1 ∈ tbl := tb_in 271 (by decide +kernel) rfl
theorem fl_8_36 : Cond.fieldLink RX8 36 (TX8 10).1 (TX8 10).2.1 (TX8 10).2.2.1 ∈ tbl := tb_in 272 (by decide +kernel) rfl
theorem fl_11_184 : Cond.fieldLink RX11 184 (TX8 10).1 (TX8 10).2.1 (TX8 10).2.2.1 ∈ tbl := tb_in 273 (by decide +kernel) rfl
theorem fl_8_42 : Cond.fieldLink RX8 42 (TX8 11).1 (TX8 11).2.1 (TX8 11).2.2.1 ∈ tbl := tb_in 274 (by decide +kernel) rfl
theorem fl_11_235 : Cond.fieldLink RX11 235 (TX8 11).1 (TX8 11).2.1 (TX8 11).2.2.1 ∈ tbl := tb_in 275 (by decide +kernel) rfl
theorem fl_5_25 : Cond.fieldLink RX5 25 (TX5 0).1 (TX5 0).2.1 (TX5 0).2.2.1 ∈ tbl := tb_in 301 (by decide +kernel) rfl
theorem fl_5_12 : Cond.fieldLink RX5 12 (TX5 1).1 (TX5 1).2.1 (TX5 1).2.2.1 ∈ tbl := tb_in 302 (by decide +kernel) rfl
theorem fl_11_109 : Cond.fieldLink RX11 109 (TX5 1).1 (TX5 1).2.1 (TX5 1).2.2.1 ∈ tbl := tb_in 303 (by decide +kernel) rfl
theorem fl_5_21 : Cond.fieldLink RX5 21 (TX5 2).1 (TX5 2).2.1 (TX5 2).2.2.1 ∈ tbl := tb_in 304 (by decide +kernel) rfl
theorem fl_11_114 : Cond.fieldLink RX11 114 (TX5 2).1 (TX5 2).2.1 (TX5 2).2.2.1 ∈ tbl := tb_in 305 (by decide +kernel) rfl
theorem fl_5_32 : Cond.fieldLink RX5 32 (TX5 3).1 (TX5 3).2.1 (TX5 3).2.2.1 ∈ tbl := tb_in 306 (by decide +kernel) rfl
theorem fl_5_36 : Cond.fieldLink RX5 36 (TX5 4).1 (TX5 4).2.1 (TX5 4).2.2.1 ∈ tbl := tb_in 307 (by decide +kernel) rfl
theorem fl_11_106 : Cond.fieldLink RX11 106 (TX5 4).1 (TX5 4).2.1 (TX5 4).2.2.1 ∈ tbl := tb_in 308 (by decide +kernel) rfl
theorem ml_11_27 : Cond.methodLink RX11 27 yX6_init ∈ tbl := tb_in 321 (by decide +kernel) rfl
theorem ml_11_41 : Cond.methodLink RX11 41 yX10_init ∈ tbl := tb_in 326 (by decide +kernel) rfl
theorem fl_10_9 : Cond.fieldLink RX10 9 (TX10 0).1 (TX10 0).2.1 (TX10 0).2.2.1 ∈ tbl := tb_in 330 (by decide +kernel) rfl
theorem fl_10_15 : Cond.fieldLink RX10 15 (TX10 1).1 (TX10 1).2.1 (TX10 1).2.2.1 ∈ tbl := tb_in 331 (by decide +kernel) rfl
theorem ml_11_50 : Cond.methodLink RX11 50 yX4_init ∈ tbl := tb_in 339 (by decide +kernel) rfl
theorem fl_4_18 : Cond.fieldLink RX4 18 (TX4 0).1 (TX4 0).2.1 (TX4 0).2.2.1 ∈ tbl := tb_in 343 (by decide +kernel) rfl
theorem fl_4_22 : Cond.fieldLink RX4 22 (TX4 1).1 (TX4 1).2.1 (TX4 1).2.2.1 ∈ tbl := tb_in 344 (by decide +kernel) rfl
theorem fl_4_9 : Cond.fieldLink RX4 9 (TX4 2).1 (TX4 2).2.1 (TX4 2).2.2.1 ∈ tbl := tb_in 345 (by decide +kernel) rfl
theorem fl_4_15 : Cond.fieldLink RX4 15 (TX4 3).1 (TX4 3).2.1 (TX4 3).2.2.1 ∈ tbl := tb_in 346 (by decide +kernel) rfl
theorem fl_7_9 : Cond.fieldLink RX7 9 (TX7 0).1 (TX7 0).2.1 (TX7 0).2.2.1 ∈ tbl := tb_in 362 (by decide +kernel) rfl
theorem fl_0_82 : Cond.fieldLink RX0 82 (TX7 0).1 (TX7 0).2.1 (TX7 0).2.2.1 ∈ tbl := tb_in 363 (by decide +kernel) rfl
theorem fl_7_15 : Cond.fieldLink RX7 15 (TX7 1).1 (TX7 1).2.1 (TX7 1).2.2.1 ∈ tbl := tb_in 364 (by decide +kernel) rfl
theorem fl_0_77 : Cond.fieldLink RX0 77 (TX7 1).1 (TX7 1).2.1 (TX7 1).2.2.1 ∈ tbl := tb_in 365 (by decide +kernel) rfl
theorem ml_11_64 : Cond.methodLink RX11 64 yX1_init ∈ tbl := tb_in 373 (by decide +kernel) rfl
theorem kl_1_28 : Cond.constant RX1 28 (2147483647) ∈ tbl := tb_in 379 (by decide +kernel) rfl
theorem fl_1_33 : Cond.fieldLink RX1 33 (TX1 0).1 (TX1 0).2.1 (TX1 0).2.2.1 ∈ tbl := tb_in 380 (by decide +kernel) rfl
theorem fl_1_37 : Cond.fieldLink RX1 37 (TX1 1).1 (TX1 1).2.1 (TX1 1).2.2.1 ∈ tbl := tb_in 381 (by decide +kernel) rfl
theorem fl_1_41 : Cond.fieldLink RX1 41 (TX1 2).1 (TX1 2).2.1 (TX1 2).2.2.1 ∈ tbl := tb_in 382 (by decide +kernel) rfl
theorem fl_1_12 : Cond.fieldLink RX1 12 (TX1 3).1 (TX1 3).2.1 (TX1 3).2.2.1 ∈ tbl := tb_in 383 (by decide +kernel) rfl
theorem fl_11_199 : Cond.fieldLink RX11 199 (TX1 3).1 (TX1 3).2.1 (TX1 3).2.2.1 ∈ tbl := tb_in 384 (by decide +kernel) rfl
theorem fl_1_18 : Cond.fieldLink RX1 18 (TX1 4).1 (TX1 4).2.1 (TX1 4).2.2.1 ∈ tbl := tb_in 385 (by decide +kernel) rfl
theorem fl_1_22 : Cond.fieldLink RX1 22 (TX1 5).1 (TX1 5).2.1 (TX1 5).2.2.1 ∈ tbl := tb_in 386 (by decide +kernel) rfl
theorem fl_1_25 : Cond.fieldLink RX1 25 (TX1 6).1 (TX1 6).2.1 (TX1 6).2.2.1 ∈ tbl := tb_in 387 (by decide +kernel) rfl
theorem fl_1_66 : Cond.fieldLink RX1 66 (TX1 7).1 (TX1 7).2.1 (TX1 7).2.2.1 ∈ tbl := tb_in 388 (by decide +kernel) rfl
theorem fl_1_29 : Cond.fieldLink RX1 29 (TX1 8).1 (TX1 8).2.1 (TX1 8).2.2.1 ∈ tbl := tb_in 389 (by decide +kernel) rfl
theorem fl_11_196 : Cond.fieldLink RX11 196 (TX1 8).1 (TX1 8).2.1 (TX1 8).2.2.1 ∈ tbl := tb_in 390 (by decide +kernel) rfl
theorem fl_1_45 : Cond.fieldLink RX1 45 (TX1 9).1 (TX1 9).2.1 (TX1 9).2.2.1 ∈ tbl := tb_in 391 (by decide +kernel) rfl
theorem ml_11_73 : Cond.methodLink RX11 73 yX0_init ∈ tbl := tb_in 415 (by decide +kernel) rfl
theorem ml_0_11 : Cond.methodLink RX0 11 yX3_init ∈ tbl := tb_in 420 (by decide +kernel) rfl
theorem fl_0_18 : Cond.fieldLink RX0 18 (TX0 0).1 (TX0 0).2.1 (TX0 0).2.2.1 ∈ tbl := tb_in 421 (by decide +kernel) rfl
theorem fl_0_22 : Cond.fieldLink RX0 22 (TX0 1).1 (TX0 1).2.1 (TX0 1).2.2.1 ∈ tbl := tb_in 422 (by decide +kernel) rfl
theorem fl_0_26 : Cond.fieldLink RX0 26 (TX0 2).1 (TX0 2).2.1 (TX0 2).2.2.1 ∈ tbl := tb_in 423 (by decide +kernel) rfl
theorem fl_0_30 : Cond.fieldLink RX0 30 (TX0 3).1 (TX0 3).2.1 (TX0 3).2.2.1 ∈ tbl := tb_in 424 (by decide +kernel) rfl
theorem fl_0_12 : Cond.fieldLink RX0 12 (TX0 4).1 (TX0 4).2.1 (TX0 4).2.2.1 ∈ tbl := tb_in 425 (by decide +kernel) rfl
theorem fl_11_210 : Cond.fieldLink RX11 210 (TX0 4).1 (TX0 4).2.1 (TX0 4).2.2.1 ∈ tbl := tb_in 426 (by decide +kernel) rfl
theorem fl_0_37 : Cond.fieldLink RX0 37 (TX0 5).1 (TX0 5).2.1 (TX0 5).2.2.1 ∈ tbl := tb_in 427 (by decide +kernel) rfl
theorem fl_0_46 : Cond.fieldLink RX0 46 (TX0 6).1 (TX0 6).2.1 (TX0 6).2.2.1 ∈ tbl := tb_in 428 (by decide +kernel) rfl
theorem fl_0_67 : Cond.fieldLink RX0 67 (TX0 7).1 (TX0 7).2.1 (TX0 7).2.2.1 ∈ tbl := tb_in 429 (by decide +kernel) rfl
theorem fl_0_70 : Cond.fieldLink RX0 70 (TX0 8).1 (TX0 8).2.1 (TX0 8).2.2.1 ∈ tbl := tb_in 430 (by decide +kernel) rfl
theorem fl_0_55 : Cond.fieldLink RX0 55 (TX0 9).1 (TX0 9).2.1 (TX0 9).2.2.1 ∈ tbl := tb_in 431 (by decide +kernel) rfl
theorem fl_0_73 : Cond.fieldLink RX0 73 (TX0 10).1 (TX0 10).2.1 (TX0 10).2.2.1 ∈ tbl := tb_in 432 (by decide +kernel) rfl
theorem ml_11_82 : Cond.methodLink RX11 82 yX2_init ∈ tbl := tb_in 458 (by decide +kernel) rfl
theorem fl_2_11 : Cond.fieldLink RX2 11 (TX2 0).1 (TX2 0).2.1 (TX2 0).2.2.1 ∈ tbl := tb_in 465 (by decide +kernel) rfl
theorem fl_2_22 : Cond.fieldLink RX2 22 (TX2 1).1 (TX2 1).2.1 (TX2 1).2.2.1 ∈ tbl := tb_in 466 (by decide +kernel) rfl
theorem fl_2_18 : Cond.fieldLink RX2 18 (TX2 2).1 (TX2 2).2.1 (TX2 2).2.2.1 ∈ tbl := tb_in 467 (by decide +kernel) rfl
theorem fl_11_273 : Cond.fieldLink RX11 273 (TX2 2).1 (TX2 2).2.1 (TX2 2).2.2.1 ∈ tbl := tb_in 468 (by decide +kernel) rfl
theorem fl_11_10 : Cond.fieldLink RX11 10 (TX11 0).1 (TX11 0).2.1 (TX11 0).2.2.1 ∈ tbl := tb_in 476 (by decide +kernel) rfl
theorem fl_11_21 : Cond.fieldLink RX11 21 (TX11 1).1 (TX11 1).2.1 (TX11 1).2.2.1 ∈ tbl := tb_in 477 (by decide +kernel) rfl
theorem fl_11_28 : Cond.fieldLink RX11 28 (TX11 2).1 (TX11 2).2.1 (TX11 2).2.2.1 ∈ tbl := tb_in 478 (by decide +kernel) rfl
theorem fl_11_35 : Cond.fieldLink RX11 35 (TX11 3).1 (TX11 3).2.1 (TX11 3).2.2.1 ∈ tbl := tb_in 479 (by decide +kernel) rfl
theorem fl_11_44 : Cond.fieldLink RX11 44 (TX11 4).1 (TX11 4).2.1 (TX11 4).2.2.1 ∈ tbl := tb_in 480 (by decide +kernel) rfl
theorem fl_11_51 : Cond.fieldLink RX11 51 (TX11 5).1 (TX11 5).2.1 (TX11 5).2.2.1 ∈ tbl := tb_in 481 (by decide +kernel) rfl
theorem fl_11_58 : Cond.fieldLink RX11 58 (TX11 6).1 (TX11 6).2.1 (TX11 6).2.2.1 ∈ tbl := tb_in 482 (by decide +kernel) rfl
theorem fl_11_67 : Cond.fieldLink RX11 67 (TX11 7).1 (TX11 7).2.1 (TX11 7).2.2.1 ∈ tbl := tb_in 483 (by decide +kernel) rfl
theorem fl_11_76 : Cond.fieldLink RX11 76 (TX11 8).1 (TX11 8).2.1 (TX11 8).2.2.1 ∈ tbl := tb_in 484 (by decide +kernel) rfl
theorem fl_11_83 : Cond.fieldLink RX11 83 (TX11 9).1 (TX11 9).2.1 (TX11 9).2.2.1 ∈ tbl := tb_in 485 (by decide +kernel) rfl
theorem fl_11_87 : Cond.fieldLink RX11 87 (TX11 10).1 (TX11 10).2.1 (TX11 10).2.2.1 ∈ tbl := tb_in 486 (by decide +kernel) rfl
theorem fl_11_91 : Cond.fieldLink RX11 91 (TX11 11).1 (TX11 11).2.1 (TX11 11).2.2.1 ∈ tbl := tb_in 487 (by decide +kernel) rfl
theorem ml_11_99 : Cond.methodLink RX11 99 yX9_addFour ∈ tbl := tb_in 518 (by decide +kernel) rfl
theorem ml_11_103 : Cond.methodLink RX11 103 yX5_readRound ∈ tbl := tb_in 526 (by decide +kernel) rfl
theorem ml_5_29 : Cond.methodLink RX5 29 yX6_clear ∈ tbl := tb_in 530 (by decide +kernel) rfl
theorem ml_5_39 : Cond.methodLink RX5 39 yX9_begin ∈ tbl := tb_in 531 (by decide +kernel) rfl
theorem ml_9_19 : Cond.methodLink RX9 19 Lib.Math.min.name ∈ tbl := tb_in 535 (by decide +kernel) rfl
theorem ml_9_31 : Cond.methodLink RX9 31 yX9_advance ∈ tbl := tb_in 538 (by decide +kernel) rfl
theorem ml_9_37 : Cond.methodLink RX9 37 yX9_kindOf ∈ tbl := tb_in 542 (by decide +kernel) rfl
theorem ml_5_48 : Cond.methodLink RX5 48 yX5_readStatement ∈ tbl := tb_in 545 (by decide +kernel) rfl
theorem ml_5_56 : Cond.methodLink RX5 56 yX9_isWord ∈ tbl := tb_in 550 (by decide +kernel) rfl
theorem ml_9_44 : Cond.methodLink RX9 44 yJ0_length_8abf5 ∈ tbl := tb_in 554 (by decide +kernel) rfl
theorem ml_9_49 : Cond.methodLink RX9 49 yJ0_charAt_5068e ∈ tbl := tb_in 564 (by decide +kernel) rfl
theorem ml_5_60 : Cond.methodLink RX5 60 yX5_readNodes ∈ tbl := tb_in 602 (by decide +kernel) rfl
theorem ml_5_97 : Cond.methodLink RX5 97 yX5_fail ∈ tbl := tb_in 606 (by decide +kernel) rfl
theorem ml_5_65 : Cond.methodLink RX5 65 yX5_takeOnce ∈ tbl := tb_in 610 (by decide +kernel) rfl
theorem ml_5_110 : Cond.methodLink RX5 110 yX9_advance ∈ tbl := tb_in 614 (by decide +kernel) rfl
theorem ml_5_68 : Cond.methodLink RX5 68 yX5_readNumber ∈ tbl := tb_in 615 (by decide +kernel) rfl
theorem ml_5_150 : Cond.methodLink RX5 150 yX9_value ∈ tbl := tb_in 619 (by decide +kernel) rfl
theorem ml_5_88 : Cond.methodLink RX5 88 yX5_readStreet ∈ tbl := tb_in 627 (by decide +kernel) rfl
theorem ml_5_113 : Cond.methodLink RX5 113 yX6_joins ∈ tbl := tb_in 631 (by decide +kernel) rfl
theorem ml_5_127 : Cond.methodLink RX5 127 yX5_readGate ∈ tbl := tb_in 635 (by decide +kernel) rfl
theorem ml_5_93 : Cond.methodLink RX5 93 yX5_readHouse ∈ tbl := tb_in 641 (by decide +kernel) rfl
theorem ml_5_51 : Cond.methodLink RX5 51 yX5_readSemicolon ∈ tbl := tb_in 645 (by decide +kernel) rfl
theorem ml_11_110 : Cond.methodLink RX11 110 yX6_copyFrom ∈ tbl := tb_in 649 (by decide +kernel) rfl
theorem ml_6_52 : Cond.methodLink RX6 52 arraycopyName ∈ tbl := tb_in 653 (by decide +kernel) rfl
theorem ml_11_115 : Cond.methodLink RX11 115 yX8_copyFrom ∈ tbl := tb_in 656 (by decide +kernel) rfl
theorem ml_8_53 : Cond.methodLink RX8 53 arraycopyName ∈ tbl := tb_in 660 (by decide +kernel) rfl
theorem ml_8_59 : Cond.methodLink RX8 59 yX3_copyFrom ∈ tbl := tb_in 661 (by decide +kernel) rfl
theorem ml_3_34 : Cond.methodLink RX3 34 arraycopyName ∈ tbl := tb_in 665 (by decide +kernel) rfl
theorem ml_11_118 : Cond.methodLink RX11 118 yX2_clear ∈ tbl := tb_in 666 (by decide +kernel) rfl
theorem ml_11_121 : Cond.methodLink RX11 121 yX11_emptySlots ∈ tbl := tb_in 670 (by decide +kernel) rfl
theorem ml_11_124 : Cond.methodLink RX11 124 yX1_forget ∈ tbl := tb_in 674 (by decide +kernel) rfl
theorem ml_11_142 : Cond.methodLink RX11 142 yX11_isHouse ∈ tbl := tb_in 702 (by decide +kernel) rfl
theorem ml_11_150 : Cond.methodLink RX11 150 yX11_isWeekday ∈ tbl := tb_in 710 (by decide +kernel) rfl
theorem ml_11_156 : Cond.methodLink RX11 156 yX11_isStreet ∈ tbl := tb_in 717 (by decide +kernel) rfl
theorem ml_11_165 : Cond.methodLink RX11 165 yX11_isNode ∈ tbl := tb_in 725 (by decide +kernel) rfl
theorem ml_11_168 : Cond.methodLink RX11 168 yX4_arrivalsFrom ∈ tbl := tb_in 729 (by decide +kernel) rfl
theorem kl_4_26 : Cond.constant RX4 26 (2147483647) ∈ tbl := tb_in 733 (by decide +kernel) rfl
theorem ml_4_27 : Cond.methodLink RX4 27 yJ7_fill_53178 ∈ tbl := tb_in 734 (by decide +kernel) rfl
theorem ml_4_33 : Cond.methodLink RX4 33 yX4_sweepStreets ∈ tbl := tb_in 737 (by decide +kernel) rfl
theorem ml_4_49 : Cond.methodLink RX4 49 yX4_improveDeparture ∈ tbl := tb_in 741 (by decide +kernel) rfl
theorem ml_4_53 : Cond.methodLink RX4 53 yX4_improveArrival ∈ tbl := tb_in 745 (by decide +kernel) rfl
theorem kl_11_172 : Cond.constant RX11 172 (2147483647) ∈ tbl := tb_in 749 (by decide +kernel) rfl
theorem ml_11_173 : Cond.methodLink RX11 173 yX10_demandOf ∈ tbl := tb_in 754 (by decide +kernel) rfl
theorem ml_10_19 : Cond.methodLink RX10 19 yX8_isSkipped ∈ tbl := tb_in 758 (by decide +kernel) rfl
theorem ml_11_177 : Cond.methodLink RX11 177 yX10_sumOfDemands ∈ tbl := tb_in 766 (by decide +kernel) rfl
theorem ml_10_41 : Cond.methodLink RX10 41 yX10_demandOf ∈ tbl := tb_in 770 (by decide +kernel) rfl
theorem ml_11_181 : Cond.methodLink RX11 181 yX10_stopSet ∈ tbl := tb_in 775 (by decide +kernel) rfl
theorem ml_11_187 : Cond.methodLink RX11 187 yX11_chooseByHabit ∈ tbl := tb_in 787 (by decide +kernel) rfl
theorem ml_11_288 : Cond.methodLink RX11 288 yX7_clear ∈ tbl := tb_in 791 (by decide +kernel) rfl
theorem ml_11_289 : Cond.methodLink RX11 289 yX11_horseChoice ∈ tbl := tb_in 795 (by decide +kernel) rfl
theorem ml_11_293 : Cond.methodLink RX11 293 yX7_add ∈ tbl := tb_in 799 (by decide +kernel) rfl
theorem ml_11_190 : Cond.methodLink RX11 190 yX7_stopAt ∈ tbl := tb_in 803 (by decide +kernel) rfl
theorem ml_11_193 : Cond.methodLink RX11 193 yX1_find ∈ tbl := tb_in 811 (by decide +kernel) rfl
theorem ml_1_49 : Cond.methodLink RX1 49 yX7_clear ∈ tbl := tb_in 815 (by decide +kernel) rfl
theorem ml_1_52 : Cond.methodLink RX1 52 yX10_sumOfDemands ∈ tbl := tb_in 816 (by decide +kernel) rfl
theorem ml_1_63 : Cond.methodLink RX1 63 yX10_stopSet ∈ tbl := tb_in 817 (by decide +kernel) rfl
theorem ml_1_69 : Cond.methodLink RX1 69 yX1_sumVisits ∈ tbl := tb_in 818 (by decide +kernel) rfl
theorem ml_1_81 : Cond.methodLink RX1 81 yJ7_fill_53178 ∈ tbl := tb_in 822 (by decide +kernel) rfl
theorem ml_1_90 : Cond.methodLink RX1 90 yX10_demandOf ∈ tbl := tb_in 823 (by decide +kernel) rfl
theorem ml_1_97 : Cond.methodLink RX1 97 yX10_visitMinutes ∈ tbl := tb_in 824 (by decide +kernel) rfl
theorem ml_1_72 : Cond.methodLink RX1 72 yX1_findEarliest ∈ tbl := tb_in 828 (by decide +kernel) rfl
theorem ml_1_100 : Cond.methodLink RX1 100 yX1_place ∈ tbl := tb_in 832 (by decide +kernel) rfl
theorem ml_1_107 : Cond.methodLink RX1 107 yX1_isPart ∈ tbl := tb_in 835 (by decide +kernel) rfl
theorem ml_1_114 : Cond.methodLink RX1 114 yX1_isLast ∈ tbl := tb_in 839 (by decide +kernel) rfl
theorem ml_1_118 : Cond.methodLink RX1 118 yX1_driveOn ∈ tbl := tb_in 842 (by decide +kernel) rfl
theorem ml_1_122 : Cond.methodLink RX1 122 yX4_arrivalsFrom ∈ tbl := tb_in 846 (by decide +kernel) rfl
theorem ml_1_128 : Cond.methodLink RX1 128 Lib.Math.min.name ∈ tbl := tb_in 847 (by decide +kernel) rfl
theorem ml_1_75 : Cond.methodLink RX1 75 yX1_findLatest ∈ tbl := tb_in 848 (by decide +kernel) rfl
theorem ml_1_133 : Cond.methodLink RX1 133 yX4_departuresTo ∈ tbl := tb_in 852 (by decide +kernel) rfl
theorem ml_1_136 : Cond.methodLink RX1 136 yX1_allow ∈ tbl := tb_in 856 (by decide +kernel) rfl
theorem ml_1_140 : Cond.methodLink RX1 140 Lib.Math.max.name ∈ tbl := tb_in 860 (by decide +kernel) rfl
theorem ml_1_78 : Cond.methodLink RX1 78 yX1_walk ∈ tbl := tb_in 863 (by decide +kernel) rfl
theorem ml_1_143 : Cond.methodLink RX1 143 yX1_firstInTime ∈ tbl := tb_in 867 (by decide +kernel) rfl
theorem ml_1_147 : Cond.methodLink RX1 147 yX7_add ∈ tbl := tb_in 871 (by decide +kernel) rfl
theorem ml_11_200 : Cond.methodLink RX11 200 yX11_isChoice ∈ tbl := tb_in 880 (by decide +kernel) rfl
theorem ml_11_203 : Cond.methodLink RX11 203 yX11_chooseRoute ∈ tbl := tb_in 883 (by decide +kernel) rfl
theorem ml_11_283 : Cond.methodLink RX11 283 yX7_copyFrom ∈ tbl := tb_in 887 (by decide +kernel) rfl
theorem ml_7_26 : Cond.methodLink RX7 26 arraycopyName ∈ tbl := tb_in 891 (by decide +kernel) rfl
theorem ml_11_285 : Cond.methodLink RX11 285 yX7_fillByNumber ∈ tbl := tb_in 892 (by decide +kernel) rfl
theorem ml_7_19 : Cond.methodLink RX7 19 yX7_clear ∈ tbl := tb_in 896 (by decide +kernel) rfl
theorem ml_7_22 : Cond.methodLink RX7 22 yX7_add ∈ tbl := tb_in 897 (by decide +kernel) rfl
theorem ml_11_206 : Cond.methodLink RX11 206 yX0_travel ∈ tbl := tb_in 898 (by decide +kernel) rfl
theorem ml_0_34 : Cond.methodLink RX0 34 yX3_clear ∈ tbl := tb_in 902 (by decide +kernel) rfl
theorem ml_0_49 : Cond.methodLink RX0 49 yX10_sumOfDemands ∈ tbl := tb_in 903 (by decide +kernel) rfl
theorem ml_0_61 : Cond.methodLink RX0 61 Lib.Math.min.name ∈ tbl := tb_in 904 (by decide +kernel) rfl
theorem ml_0_86 : Cond.methodLink RX0 86 yX0_driveTo ∈ tbl := tb_in 905 (by decide +kernel) rfl
theorem ml_0_101 : Cond.methodLink RX0 101 yX4_arrivalsFrom ∈ tbl := tb_in 909 (by decide +kernel) rfl
theorem kl_0_107 : Cond.constant RX0 107 (2147483647) ∈ tbl := tb_in 910 (by decide +kernel) rfl
theorem ml_0_90 : Cond.methodLink RX0 90 yX0_serveStop ∈ tbl := tb_in 911 (by decide +kernel) rfl
theorem ml_0_111 : Cond.methodLink RX0 111 yX10_demandOf ∈ tbl := tb_in 915 (by decide +kernel) rfl
theorem ml_0_117 : Cond.methodLink RX0 117 yX0_reload ∈ tbl := tb_in 916 (by decide +kernel) rfl
theorem ml_0_120 : Cond.methodLink RX0 120 yX0_serveHouse ∈ tbl := tb_in 920 (by decide +kernel) rfl
theorem ml_0_127 : Cond.methodLink RX0 127 yX10_visitMinutes ∈ tbl := tb_in 924 (by decide +kernel) rfl
theorem ml_0_138 : Cond.methodLink RX0 138 Lib.Math.max.name ∈ tbl := tb_in 925 (by decide +kernel) rfl
theorem ml_0_141 : Cond.methodLink RX0 141 yX3_add ∈ tbl := tb_in 926 (by decide +kernel) rfl
theorem ml_0_94 : Cond.methodLink RX0 94 yX10_demandAtNode ∈ tbl := tb_in 930 (by decide +kernel) rfl
theorem ml_11_239 : Cond.methodLink RX11 239 yX11_isVisit ∈ tbl := tb_in 970 (by decide +kernel) rfl
theorem ml_11_252 : Cond.methodLink RX11 252 yX11_beginChange ∈ tbl := tb_in 990 (by decide +kernel) rfl
theorem ml_11_280 : Cond.methodLink RX11 280 yX2_remember ∈ tbl := tb_in 994 (by decide +kernel) rfl
theorem ml_2_25 : Cond.methodLink RX2 25 yX8_copyFrom ∈ tbl := tb_in 998 (by decide +kernel) rfl
theorem ml_2_29 : Cond.methodLink RX2 29 Lib.Math.min.name ∈ tbl := tb_in 999 (by decide +kernel) rfl
theorem ml_11_255 : Cond.methodLink RX11 255 yX11_settleAccounts ∈ tbl := tb_in 1000 (by decide +kernel) rfl
theorem ml_11_259 : Cond.methodLink RX11 259 yX11_learnHabits ∈ tbl := tb_in 1004 (by decide +kernel) rfl
theorem ml_11_262 : Cond.methodLink RX11 262 yX3_copyFrom ∈ tbl := tb_in 1008 (by decide +kernel) rfl
theorem ml_11_267 : Cond.methodLink RX11 267 yX8_isSkipped ∈ tbl := tb_in 1013 (by decide +kernel) rfl
theorem ml_11_274 : Cond.methodLink RX11 274 yX2_recall ∈ tbl := tb_in 1034 (by decide +kernel) rfl
theorem ml_11_277 : Cond.methodLink RX11 277 yX11_isSlot ∈ tbl := tb_in 1042 (by decide +kernel) rfl
theorem ml_12_84 : Cond.methodLink RX12 84 yX12_clearLedger ∈ tbl := tb_in 1055 (by decide +kernel) rfl
theorem fl_12_87 : Cond.fieldLink RX12 87 (TX12 0).1 (TX12 0).2.1 (TX12 0).2.2.1 ∈ tbl := tb_in 1059 (by decide +kernel) rfl
theorem fl_12_7 : Cond.fieldLink RX12 7 (TX12 1).1 (TX12 1).2.1 (TX12 1).2.2.1 ∈ tbl := tb_in 1060 (by decide +kernel) rfl
theorem fl_12_91 : Cond.fieldLink RX12 91 (TX12 2).1 (TX12 2).2.1 (TX12 2).2.2.1 ∈ tbl := tb_in 1061 (by decide +kernel) rfl
theorem fl_12_98 : Cond.fieldLink RX12 98 (TX12 3).1 (TX12 3).2.1 (TX12 3).2.2.1 ∈ tbl := tb_in 1062 (by decide +kernel) rfl
theorem fl_12_104 : Cond.fieldLink RX12 104 (TX12 4).1 (TX12 4).2.1 (TX12 4).2.2.1 ∈ tbl := tb_in 1063 (by decide +kernel) rfl
theorem fl_12_101 : Cond.fieldLink RX12 101 (TX12 5).1 (TX12 5).2.1 (TX12 5).2.2.1 ∈ tbl := tb_in 1064 (by decide +kernel) rfl
theorem fl_12_111 : Cond.fieldLink RX12 111 (TX12 6).1 (TX12 6).2.1 (TX12 6).2.2.1 ∈ tbl := tb_in 1065 (by decide +kernel) rfl
theorem fl_12_126 : Cond.fieldLink RX12 126 (TX12 7).1 (TX12 7).2.1 (TX12 7).2.2.1 ∈ tbl := tb_in 1066 (by decide +kernel) rfl
theorem fl_12_129 : Cond.fieldLink RX12 129 (TX12 8).1 (TX12 8).2.1 (TX12 8).2.2.1 ∈ tbl := tb_in 1067 (by decide +kernel) rfl
theorem fl_12_132 : Cond.fieldLink RX12 132 (TX12 9).1 (TX12 9).2.1 (TX12 9).2.2.1 ∈ tbl := tb_in 1068 (by decide +kernel) rfl
theorem fl_12_13 : Cond.fieldLink RX12 13 (TX12 10).1 (TX12 10).2.1 (TX12 10).2.2.1 ∈ tbl := tb_in 1069 (by decide +kernel) rfl
theorem fl_12_17 : Cond.fieldLink RX12 17 (TX12 11).1 (TX12 11).2.1 (TX12 11).2.2.1 ∈ tbl := tb_in 1070 (by decide +kernel) rfl
theorem fl_12_20 : Cond.fieldLink RX12 20 (TX12 12).1 (TX12 12).2.1 (TX12 12).2.2.1 ∈ tbl := tb_in 1071 (by decide +kernel) rfl
theorem fl_12_23 : Cond.fieldLink RX12 23 (TX12 13).1 (TX12 13).2.1 (TX12 13).2.2.1 ∈ tbl := tb_in 1072 (by decide +kernel) rfl
theorem fl_12_26 : Cond.fieldLink RX12 26 (TX12 14).1 (TX12 14).2.1 (TX12 14).2.2.1 ∈ tbl := tb_in 1073 (by decide +kernel) rfl
theorem fl_12_29 : Cond.fieldLink RX12 29 (TX12 15).1 (TX12 15).2.1 (TX12 15).2.2.1 ∈ tbl := tb_in 1074 (by decide +kernel) rfl
theorem fl_12_32 : Cond.fieldLink RX12 32 (TX12 16).1 (TX12 16).2.1 (TX12 16).2.2.1 ∈ tbl := tb_in 1075 (by decide +kernel) rfl
theorem fl_12_35 : Cond.fieldLink RX12 35 (TX12 17).1 (TX12 17).2.1 (TX12 17).2.2.1 ∈ tbl := tb_in 1076 (by decide +kernel) rfl
theorem fl_12_38 : Cond.fieldLink RX12 38 (TX12 18).1 (TX12 18).2.1 (TX12 18).2.2.1 ∈ tbl := tb_in 1077 (by decide +kernel) rfl
theorem fl_12_41 : Cond.fieldLink RX12 41 (TX12 19).1 (TX12 19).2.1 (TX12 19).2.2.1 ∈ tbl := tb_in 1078 (by decide +kernel) rfl
theorem fl_12_44 : Cond.fieldLink RX12 44 (TX12 20).1 (TX12 20).2.1 (TX12 20).2.2.1 ∈ tbl := tb_in 1079 (by decide +kernel) rfl
theorem fl_12_165 : Cond.fieldLink RX12 165 (TX12 21).1 (TX12 21).2.1 (TX12 21).2.2.1 ∈ tbl := tb_in 1080 (by decide +kernel) rfl
theorem fl_12_47 : Cond.fieldLink RX12 47 (TX12 22).1 (TX12 22).2.1 (TX12 22).2.2.1 ∈ tbl := tb_in 1081 (by decide +kernel) rfl
theorem fl_12_50 : Cond.fieldLink RX12 50 (TX12 23).1 (TX12 23).2.1 (TX12 23).2.2.1 ∈ tbl := tb_in 1082 (by decide +kernel) rfl
theorem fl_12_196 : Cond.fieldLink RX12 196 (TX12 24).1 (TX12 24).2.1 (TX12 24).2.2.1 ∈ tbl := tb_in 1083 (by decide +kernel) rfl
theorem fl_12_53 : Cond.fieldLink RX12 53 (TX12 25).1 (TX12 25).2.1 (TX12 25).2.2.1 ∈ tbl := tb_in 1084 (by decide +kernel) rfl
theorem fl_12_56 : Cond.fieldLink RX12 56 (TX12 26).1 (TX12 26).2.1 (TX12 26).2.2.1 ∈ tbl := tb_in 1085 (by decide +kernel) rfl
theorem fl_12_60 : Cond.fieldLink RX12 60 (TX12 27).1 (TX12 27).2.1 (TX12 27).2.2.1 ∈ tbl := tb_in 1086 (by decide +kernel) rfl
theorem fl_12_63 : Cond.fieldLink RX12 63 (TX12 28).1 (TX12 28).2.1 (TX12 28).2.2.1 ∈ tbl := tb_in 1087 (by decide +kernel) rfl
theorem fl_12_66 : Cond.fieldLink RX12 66 (TX12 29).1 (TX12 29).2.1 (TX12 29).2.2.1 ∈ tbl := tb_in 1088 (by decide +kernel) rfl
theorem fl_12_242 : Cond.fieldLink RX12 242 (TX12 30).1 (TX12 30).2.1 (TX12 30).2.2.1 ∈ tbl := tb_in 1089 (by decide +kernel) rfl
theorem fl_12_69 : Cond.fieldLink RX12 69 (TX12 31).1 (TX12 31).2.1 (TX12 31).2.2.1 ∈ tbl := tb_in 1090 (by decide +kernel) rfl
theorem fl_12_255 : Cond.fieldLink RX12 255 (TX12 32).1 (TX12 32).2.1 (TX12 32).2.2.1 ∈ tbl := tb_in 1091 (by decide +kernel) rfl
theorem fl_12_271 : Cond.fieldLink RX12 271 (TX12 33).1 (TX12 33).2.1 (TX12 33).2.2.1 ∈ tbl := tb_in 1092 (by decide +kernel) rfl
theorem fl_12_278 : Cond.fieldLink RX12 278 (TX12 34).1 (TX12 34).2.1 (TX12 34).2.2.1 ∈ tbl := tb_in 1093 (by decide +kernel) rfl
theorem fl_12_287 : Cond.fieldLink RX12 287 (TX12 35).1 (TX12 35).2.1 (TX12 35).2.2.1 ∈ tbl := tb_in 1094 (by decide +kernel) rfl
theorem fl_12_281 : Cond.fieldLink RX12 281 (TX12 36).1 (TX12 36).2.1 (TX12 36).2.2.1 ∈ tbl := tb_in 1095 (by decide +kernel) rfl
theorem fl_12_311 : Cond.fieldLink RX12 311 (TX12 37).1 (TX12 37).2.1 (TX12 37).2.2.1 ∈ tbl := tb_in 1096 (by decide +kernel) rfl
theorem fl_12_274 : Cond.fieldLink RX12 274 (TX12 38).1 (TX12 38).2.1 (TX12 38).2.2.1 ∈ tbl := tb_in 1097 (by decide +kernel) rfl
theorem fl_12_296 : Cond.fieldLink RX12 296 (TX12 39).1 (TX12 39).2.1 (TX12 39).2.2.1 ∈ tbl := tb_in 1098 (by decide +kernel) rfl
theorem fl_12_290 : Cond.fieldLink RX12 290 (TX12 40).1 (TX12 40).2.1 (TX12 40).2.2.1 ∈ tbl := tb_in 1099 (by decide +kernel) rfl
theorem fl_12_72 : Cond.fieldLink RX12 72 (TX12 41).1 (TX12 41).2.1 (TX12 41).2.2.1 ∈ tbl := tb_in 1100 (by decide +kernel) rfl
theorem fl_12_75 : Cond.fieldLink RX12 75 (TX12 42).1 (TX12 42).2.1 (TX12 42).2.2.1 ∈ tbl := tb_in 1101 (by decide +kernel) rfl
theorem fl_12_78 : Cond.fieldLink RX12 78 (TX12 43).1 (TX12 43).2.1 (TX12 43).2.2.1 ∈ tbl := tb_in 1102 (by decide +kernel) rfl
theorem fl_12_81 : Cond.fieldLink RX12 81 (TX12 44).1 (TX12 44).2.1 (TX12 44).2.2.1 ∈ tbl := tb_in 1103 (by decide +kernel) rfl
theorem ml_12_94 : Cond.methodLink RX12 94 yX12_appendInt ∈ tbl := tb_in 1199 (by decide +kernel) rfl
theorem ml_12_118 : Cond.methodLink RX12 118 yX12_within ∈ tbl := tb_in 1207 (by decide +kernel) rfl
theorem ml_12_148 : Cond.methodLink RX12 148 yX12_nextToken ∈ tbl := tb_in 1210 (by decide +kernel) rfl
theorem ml_12_107 : Cond.methodLink RX12 107 yX12_byteAt ∈ tbl := tb_in 1214 (by decide +kernel) rfl
theorem kl_12_114 : Cond.constantLong RX12 114 (97) ∈ tbl := tb_in 1218 (by decide +kernel) rfl
theorem kl_12_116 : Cond.constantLong RX12 116 (122) ∈ tbl := tb_in 1219 (by decide +kernel) rfl
theorem kl_12_122 : Cond.constantLong RX12 122 (48) ∈ tbl := tb_in 1220 (by decide +kernel) rfl
theorem kl_12_124 : Cond.constantLong RX12 124 (57) ∈ tbl := tb_in 1221 (by decide +kernel) rfl
theorem ml_12_189 : Cond.methodLink RX12 189 yX12_statement ∈ tbl := tb_in 1222 (by decide +kernel) rfl
theorem ml_12_161 : Cond.methodLink RX12 161 yX12_is ∈ tbl := tb_in 1227 (by decide +kernel) rfl
theorem ml_12_135 : Cond.methodLink RX12 135 yJ0_length_8abf5 ∈ tbl := tb_in 1231 (by decide +kernel) rfl
theorem ml_12_140 : Cond.methodLink RX12 140 yJ0_charAt_5068e ∈ tbl := tb_in 1232 (by decide +kernel) rfl
theorem ml_12_170 : Cond.methodLink RX12 170 yX12_readStreet ∈ tbl := tb_in 1233 (by decide +kernel) rfl
theorem ml_12_144 : Cond.methodLink RX12 144 yX12_must ∈ tbl := tb_in 1237 (by decide +kernel) rfl
theorem ml_12_151 : Cond.methodLink RX12 151 yX12_number ∈ tbl := tb_in 1241 (by decide +kernel) rfl
theorem ml_12_155 : Cond.methodLink RX12 155 yX12_isJoined ∈ tbl := tb_in 1245 (by decide +kernel) rfl
theorem ml_12_175 : Cond.methodLink RX12 175 yX12_readHouse ∈ tbl := tb_in 1251 (by decide +kernel) rfl
theorem ml_12_180 : Cond.methodLink RX12 180 yX12_once ∈ tbl := tb_in 1256 (by decide +kernel) rfl
theorem ml_12_192 : Cond.methodLink RX12 192 yX12_adopt ∈ tbl := tb_in 1263 (by decide +kernel) rfl
theorem ml_12_199 : Cond.methodLink RX12 199 yX12_isHouse ∈ tbl := tb_in 1290 (by decide +kernel) rfl
theorem kl_12_203 : Cond.constantLong RX12 203 (6) ∈ tbl := tb_in 1298 (by decide +kernel) rfl
theorem ml_12_218 : Cond.methodLink RX12 218 yX12_isStreet ∈ tbl := tb_in 1303 (by decide +kernel) rfl
theorem ml_12_221 : Cond.methodLink RX12 221 yX12_isNode ∈ tbl := tb_in 1311 (by decide +kernel) rfl
theorem kl_12_224 : Cond.constantLong RX12 224 (9999) ∈ tbl := tb_in 1315 (by decide +kernel) rfl
theorem ml_12_226 : Cond.methodLink RX12 226 yX12_arrivalOf ∈ tbl := tb_in 1316 (by decide +kernel) rfl
theorem ml_12_214 : Cond.methodLink RX12 214 yX12_layArrivals ∈ tbl := tb_in 1320 (by decide +kernel) rfl
theorem kl_12_205 : Cond.constant RX12 205 (1000000000) ∈ tbl := tb_in 1324 (by decide +kernel) rfl
theorem ml_12_206 : Cond.methodLink RX12 206 yX12_through ∈ tbl := tb_in 1325 (by decide +kernel) rfl
theorem ml_12_209 : Cond.methodLink RX12 209 Lib.Math.min.name ∈ tbl := tb_in 1329 (by decide +kernel) rfl
theorem ml_12_230 : Cond.methodLink RX12 230 yX12_demandOf ∈ tbl := tb_in 1334 (by decide +kernel) rfl
theorem ml_12_233 : Cond.methodLink RX12 233 yX12_totalOf ∈ tbl := tb_in 1342 (by decide +kernel) rfl
theorem ml_12_236 : Cond.methodLink RX12 236 yX12_stopSet ∈ tbl := tb_in 1350 (by decide +kernel) rfl
theorem ml_12_239 : Cond.methodLink RX12 239 yX12_habitOf ∈ tbl := tb_in 1358 (by decide +kernel) rfl
theorem ml_12_258 : Cond.methodLink RX12 258 yX12_layHorse ∈ tbl := tb_in 1366 (by decide +kernel) rfl
theorem ml_12_261 : Cond.methodLink RX12 261 yX12_stopAt ∈ tbl := tb_in 1370 (by decide +kernel) rfl
theorem ml_12_264 : Cond.methodLink RX12 264 yX12_layFastest ∈ tbl := tb_in 1378 (by decide +kernel) rfl
theorem ml_12_252 : Cond.methodLink RX12 252 yX12_bestEnd ∈ tbl := tb_in 1382 (by decide +kernel) rfl
theorem ml_12_245 : Cond.methodLink RX12 245 yX12_stayAt ∈ tbl := tb_in 1386 (by decide +kernel) rfl
theorem ml_12_248 : Cond.methodLink RX12 248 yX12_goesOn ∈ tbl := tb_in 1390 (by decide +kernel) rfl
theorem kl_12_314 : Cond.constantLong RX12 314 (2) ∈ tbl := tb_in 1402 (by decide +kernel) rfl
theorem ml_12_316 : Cond.methodLink RX12 316 yX12_layOrder ∈ tbl := tb_in 1403 (by decide +kernel) rfl
theorem ml_12_268 : Cond.methodLink RX12 268 yX12_layByNumber ∈ tbl := tb_in 1407 (by decide +kernel) rfl
theorem ml_12_319 : Cond.methodLink RX12 319 yX12_playRound ∈ tbl := tb_in 1411 (by decide +kernel) rfl
theorem ml_12_305 : Cond.methodLink RX12 305 yX12_leaveOut ∈ tbl := tb_in 1415 (by decide +kernel) rfl
theorem ml_12_308 : Cond.methodLink RX12 308 yX12_visitStop ∈ tbl := tb_in 1419 (by decide +kernel) rfl
theorem ml_12_299 : Cond.methodLink RX12 299 yX12_reload ∈ tbl := tb_in 1423 (by decide +kernel) rfl
theorem ml_12_284 : Cond.methodLink RX12 284 yX12_stillWanted ∈ tbl := tb_in 1427 (by decide +kernel) rfl
theorem ml_12_302 : Cond.methodLink RX12 302 yX12_visit ∈ tbl := tb_in 1431 (by decide +kernel) rfl
theorem ml_12_293 : Cond.methodLink RX12 293 Lib.Math.max.name ∈ tbl := tb_in 1435 (by decide +kernel) rfl
theorem ml_12_322 : Cond.methodLink RX12 322 yX12_keepState ∈ tbl := tb_in 1440 (by decide +kernel) rfl
theorem ml_12_325 : Cond.methodLink RX12 325 yX12_learn ∈ tbl := tb_in 1444 (by decide +kernel) rfl
theorem ml_12_328 : Cond.methodLink RX12 328 yX12_recordOf ∈ tbl := tb_in 1484 (by decide +kernel) rfl
theorem kl_12_331 : Cond.constantLong RX12 331 (9) ∈ tbl := tb_in 1512 (by decide +kernel) rfl
theorem ml_12_333 : Cond.methodLink RX12 333 yX12_exchange ∈ tbl := tb_in 1513 (by decide +kernel) rfl
theorem kl_12_336 : Cond.constantLong RX12 336 (1439) ∈ tbl := tb_in 1525 (by decide +kernel) rfl
theorem kl_12_338 : Cond.constantLong RX12 338 (1440) ∈ tbl := tb_in 1526 (by decide +kernel) rfl
theorem cpN : Cond.native arraycopyName ∈ tbl := tb_in 655 (by decide +kernel) rfl
theorem cpS : Cond.static arraycopyName ∈ tbl := tb_in 654 (by decide +kernel) rfl
theorem cpI : Cond.initialized "java/lang/System" ∈ tbl := tb_in 70 (by decide +kernel) rfl
theorem maI : Cond.initialized "java/lang/Math" ∈ tbl := tb_in 65 (by decide +kernel) rfl
theorem minS : Cond.static Lib.Math.min.name ∈ tbl := tb_in 536 (by decide +kernel) rfl
theorem minC : Cond.code Lib.Math.min.name Lib.Math.min.code 2 (some .int) ∈ tbl := tb_in 537 (by decide +kernel) rfl
theorem maxS : Cond.static Lib.Math.max.name ∈ tbl := tb_in 861 (by decide +kernel) rfl
theorem maxC : Cond.code Lib.Math.max.name Lib.Math.max.code 2 (some .int) ∈ tbl := tb_in 862 (by decide +kernel) rfl
abbrev mX0_init : mD := (yX0_init, cX0_init, 5, none, 2, 60)
abbrev mX0_travel : mD := (yX0_travel, cX0_travel, 4, none, 6, 143)
abbrev mX0_driveTo : mD := (yX0_driveTo, cX0_driveTo, 3, (some .boolean), 3, 77)
abbrev mX0_serveStop : mD := (yX0_serveStop, cX0_serveStop, 4, none, 5, 120)
abbrev mX0_reload : mD := (yX0_reload, cX0_reload, 2, (some .boolean), 4, 99)
abbrev mX0_serveHouse : mD := (yX0_serveHouse, cX0_serveHouse, 6, none, 1, 40)
abbrev mX1_init : mD := (yX1_init, cX1_init, 4, none, 2, 60)
abbrev mX1_forget : mD := (yX1_forget, cX1_forget, 1, none, 0, 0)
abbrev mX1_find : mD := (yX1_find, cX1_find, 1, none, 5, 124)
abbrev mX1_sumVisits : mD := (yX1_sumVisits, cX1_sumVisits, 2, none, 2, 42)
abbrev mX1_place : mD := (yX1_place, cX1_place, 2, (some .int), 0, 0)
abbrev mX1_isLast : mD := (yX1_isLast, cX1_isLast, 2, (some .boolean), 0, 0)
abbrev mX1_isPart : mD := (yX1_isPart, cX1_isPart, 2, (some .boolean), 0, 0)
abbrev mX1_findEarliest : mD := (yX1_findEarliest, cX1_findEarliest, 3, none, 4, 102)
abbrev mX1_driveOn : mD := (yX1_driveOn, cX1_driveOn, 6, none, 3, 77)
abbrev mX1_findLatest : mD := (yX1_findLatest, cX1_findLatest, 4, none, 3, 77)
abbrev mX1_allow : mD := (yX1_allow, cX1_allow, 5, none, 1, 40)
abbrev mX1_walk : mD := (yX1_walk, cX1_walk, 6, none, 3, 77)
abbrev mX1_firstInTime : mD := (yX1_firstInTime, cX1_firstInTime, 5, (some .int), 1, 21)
abbrev mX2_init : mD := (yX2_init, cX2_init, 2, none, 3, 80)
abbrev mX2_clear : mD := (yX2_clear, cX2_clear, 1, none, 0, 0)
abbrev mX2_remember : mD := (yX2_remember, cX2_remember, 2, none, 3, 82)
abbrev mX2_recall : mD := (yX2_recall, cX2_recall, 2, none, 3, 82)
abbrev mX3_init : mD := (yX3_init, cX3_init, 1, none, 1, 40)
abbrev mX3_clear : mD := (yX3_clear, cX3_clear, 1, none, 0, 0)
abbrev mX3_add : mD := (yX3_add, cX3_add, 4, none, 0, 0)
abbrev mX3_copyFrom : mD := (yX3_copyFrom, cX3_copyFrom, 2, none, 1, 40)
abbrev mX4_init : mD := (yX4_init, cX4_init, 3, none, 1, 40)
abbrev mX4_arrivalsFrom : mD := (yX4_arrivalsFrom, cX4_arrivalsFrom, 3, (some (.array .int)), 2, 55)
abbrev mX4_sweepStreets : mD := (yX4_sweepStreets, cX4_sweepStreets, 9, none, 1, 27)
abbrev mX4_improveArrival : mD := (yX4_improveArrival, cX4_improveArrival, 8, (some .boolean), 0, 0)
abbrev mX4_departuresTo : mD := (yX4_departuresTo, cX4_departuresTo, 3, (some (.array .int)), 2, 55)
abbrev mX4_improveDeparture : mD := (yX4_improveDeparture, cX4_improveDeparture, 6, (some .boolean), 0, 0)
abbrev mX5_init : mD := (yX5_init, cX5_init, 2, none, 3, 80)
abbrev mX5_readRound : mD := (yX5_readRound, cX5_readRound, 3, none, 9, 193)
abbrev mX5_readStatement : mD := (yX5_readStatement, cX5_readStatement, 1, none, 8, 173)
abbrev mX5_readNodes : mD := (yX5_readNodes, cX5_readNodes, 1, none, 3, 64)
abbrev mX5_readStreet : mD := (yX5_readStreet, cX5_readStreet, 5, none, 7, 149)
abbrev mX5_readGate : mD := (yX5_readGate, cX5_readGate, 2, none, 6, 128)
abbrev mX5_readHouse : mD := (yX5_readHouse, cX5_readHouse, 3, none, 3, 64)
abbrev mX5_takeOnce : mD := (yX5_takeOnce, cX5_takeOnce, 2, none, 2, 41)
abbrev mX5_readNumber : mD := (yX5_readNumber, cX5_readNumber, 4, (some .int), 2, 41)
abbrev mX5_readSemicolon : mD := (yX5_readSemicolon, cX5_readSemicolon, 1, none, 2, 41)
abbrev mX5_fail : mD := (yX5_fail, cX5_fail, 3, none, 0, 0)
abbrev mX6_init : mD := (yX6_init, cX6_init, 1, none, 1, 40)
abbrev mX6_clear : mD := (yX6_clear, cX6_clear, 1, none, 0, 0)
abbrev mX6_copyFrom : mD := (yX6_copyFrom, cX6_copyFrom, 2, none, 1, 40)
abbrev mX6_joins : mD := (yX6_joins, cX6_joins, 6, (some .boolean), 0, 0)
abbrev mX7_init : mD := (yX7_init, cX7_init, 1, none, 1, 40)
abbrev mX7_clear : mD := (yX7_clear, cX7_clear, 1, none, 0, 0)
abbrev mX7_add : mD := (yX7_add, cX7_add, 2, none, 0, 0)
abbrev mX7_fillByNumber : mD := (yX7_fillByNumber, cX7_fillByNumber, 3, none, 1, 21)
abbrev mX7_copyFrom : mD := (yX7_copyFrom, cX7_copyFrom, 2, none, 1, 40)
abbrev mX7_stopAt : mD := (yX7_stopAt, cX7_stopAt, 2, (some .int), 0, 0)
abbrev mX8_init : mD := (yX8_init, cX8_init, 1, none, 2, 60)
abbrev mX8_isSkipped : mD := (yX8_isSkipped, cX8_isSkipped, 2, (some .boolean), 0, 0)
abbrev mX8_copyFrom : mD := (yX8_copyFrom, cX8_copyFrom, 2, none, 2, 61)
abbrev mX9_init : mD := (yX9_init, cX9_init, 1, none, 1, 40)
abbrev mX9_addFour : mD := (yX9_addFour, cX9_addFour, 3, none, 0, 0)
abbrev mX9_begin : mD := (yX9_begin, cX9_begin, 2, none, 2, 41)
abbrev mX9_advance : mD := (yX9_advance, cX9_advance, 2, none, 1, 20)
abbrev mX9_kindOf : mD := (yX9_kindOf, cX9_kindOf, 1, (some .int), 0, 0)
abbrev mX9_isWord : mD := (yX9_isWord, cX9_isWord, 3, (some .boolean), 5, 106)
abbrev mX9_value : mD := (yX9_value, cX9_value, 3, (some .int), 0, 0)
abbrev mX10_init : mD := (yX10_init, cX10_init, 3, none, 1, 40)
abbrev mX10_demandOf : mD := (yX10_demandOf, cX10_demandOf, 2, (some .int), 1, 21)
abbrev mX10_demandAtNode : mD := (yX10_demandAtNode, cX10_demandAtNode, 4, (some .int), 2, 42)
abbrev mX10_sumOfDemands : mD := (yX10_sumOfDemands, cX10_sumOfDemands, 3, (some .int), 2, 42)
abbrev mX10_stopSet : mD := (yX10_stopSet, cX10_stopSet, 3, (some .int), 2, 42)
abbrev mX10_visitMinutes : mD := (yX10_visitMinutes, cX10_visitMinutes, 2, (some .int), 0, 0)
abbrev mX11_init : mD := (yX11_init, cX11_init, 2, none, 4, 101)
abbrev mX11_append : mD := (yX11_append, cX11_append, 6, (some .int), 1, 22)
abbrev mX11_parse : mD := (yX11_parse, cX11_parse, 2, (some .int), 10, 215)
abbrev mX11_nodeCount : mD := (yX11_nodeCount, cX11_nodeCount, 1, (some .int), 0, 0)
abbrev mX11_streetCount : mD := (yX11_streetCount, cX11_streetCount, 1, (some .int), 0, 0)
abbrev mX11_houseCount : mD := (yX11_houseCount, cX11_houseCount, 1, (some .int), 0, 0)
abbrev mX11_capacity : mD := (yX11_capacity, cX11_capacity, 1, (some .int), 0, 0)
abbrev mX11_day : mD := (yX11_day, cX11_day, 1, (some .int), 0, 0)
abbrev mX11_houseNode : mD := (yX11_houseNode, cX11_houseNode, 2, (some .int), 1, 21)
abbrev mX11_order : mD := (yX11_order, cX11_order, 3, (some .int), 1, 21)
abbrev mX11_isOpen : mD := (yX11_isOpen, cX11_isOpen, 5, (some .int), 1, 21)
abbrev mX11_arrival : mD := (yX11_arrival, cX11_arrival, 5, (some .int), 3, 77)
abbrev mX11_demand : mD := (yX11_demand, cX11_demand, 2, (some .int), 2, 42)
abbrev mX11_totalDemand : mD := (yX11_totalDemand, cX11_totalDemand, 1, (some .int), 3, 64)
abbrev mX11_stops : mD := (yX11_stops, cX11_stops, 1, (some .int), 3, 64)
abbrev mX11_habit : mD := (yX11_habit, cX11_habit, 3, (some .int), 1, 21)
abbrev mX11_horseStop : mD := (yX11_horseStop, cX11_horseStop, 2, (some .int), 5, 126)
abbrev mX11_fastestFinish : mD := (yX11_fastestFinish, cX11_fastestFinish, 1, (some .int), 6, 144)
abbrev mX11_fastestStop : mD := (yX11_fastestStop, cX11_fastestStop, 2, (some .int), 6, 144)
abbrev mX11_previewFinish : mD := (yX11_previewFinish, cX11_previewFinish, 2, (some .int), 7, 166)
abbrev mX11_bottlesAt : mD := (yX11_bottlesAt, cX11_bottlesAt, 2, (some .int), 1, 21)
abbrev mX11_delivered : mD := (yX11_delivered, cX11_delivered, 2, (some .int), 1, 21)
abbrev mX11_returned : mD := (yX11_returned, cX11_returned, 2, (some .int), 1, 21)
abbrev mX11_broken : mD := (yX11_broken, cX11_broken, 2, (some .int), 1, 21)
abbrev mX11_bill : mD := (yX11_bill, cX11_bill, 2, (some .int), 1, 21)
abbrev mX11_bottlesOut : mD := (yX11_bottlesOut, cX11_bottlesOut, 3, (some .int), 0, 0)
abbrev mX11_finish : mD := (yX11_finish, cX11_finish, 1, (some .int), 0, 0)
abbrev mX11_visitCount : mD := (yX11_visitCount, cX11_visitCount, 1, (some .int), 0, 0)
abbrev mX11_visitHouse : mD := (yX11_visitHouse, cX11_visitHouse, 2, (some .int), 1, 21)
abbrev mX11_visitMinute : mD := (yX11_visitMinute, cX11_visitMinute, 2, (some .int), 1, 21)
abbrev mX11_visitReturned : mD := (yX11_visitReturned, cX11_visitReturned, 2, (some .int), 1, 21)
abbrev mX11_reloads : mD := (yX11_reloads, cX11_reloads, 1, (some .int), 0, 0)
abbrev mX11_carryOut : mD := (yX11_carryOut, cX11_carryOut, 2, (some .int), 7, 166)
abbrev mX11_setSkipped : mD := (yX11_setSkipped, cX11_setSkipped, 3, (some .boolean), 5, 123)
abbrev mX11_breakBottles : mD := (yX11_breakBottles, cX11_breakBottles, 3, (some .int), 5, 123)
abbrev mX11_setOrder : mD := (yX11_setOrder, cX11_setOrder, 6, (some .int), 5, 123)
abbrev mX11_setKeep : mD := (yX11_setKeep, cX11_setKeep, 4, (some .int), 5, 123)
abbrev mX11_setGate : mD := (yX11_setGate, cX11_setGate, 4, (some .boolean), 5, 123)
abbrev mX11_undo : mD := (yX11_undo, cX11_undo, 1, (some .int), 4, 103)
abbrev mX11_saveSnapshot : mD := (yX11_saveSnapshot, cX11_saveSnapshot, 2, (some .boolean), 3, 82)
abbrev mX11_restoreSnapshot : mD := (yX11_restoreSnapshot, cX11_restoreSnapshot, 2, (some .boolean), 3, 82)
abbrev mX11_isHouse : mD := (yX11_isHouse, cX11_isHouse, 2, (some .boolean), 0, 0)
abbrev mX11_isStreet : mD := (yX11_isStreet, cX11_isStreet, 2, (some .boolean), 0, 0)
abbrev mX11_isNode : mD := (yX11_isNode, cX11_isNode, 2, (some .boolean), 0, 0)
abbrev mX11_isVisit : mD := (yX11_isVisit, cX11_isVisit, 2, (some .boolean), 0, 0)
abbrev mX11_isWeekday : mD := (yX11_isWeekday, cX11_isWeekday, 1, (some .boolean), 0, 0)
abbrev mX11_isChoice : mD := (yX11_isChoice, cX11_isChoice, 1, (some .boolean), 0, 0)
abbrev mX11_isSlot : mD := (yX11_isSlot, cX11_isSlot, 1, (some .boolean), 0, 0)
abbrev mX11_emptySlots : mD := (yX11_emptySlots, cX11_emptySlots, 2, none, 0, 0)
abbrev mX11_beginChange : mD := (yX11_beginChange, cX11_beginChange, 1, none, 4, 103)
abbrev mX11_chooseRoute : mD := (yX11_chooseRoute, cX11_chooseRoute, 2, (some .boolean), 6, 144)
abbrev mX11_chooseByHabit : mD := (yX11_chooseByHabit, cX11_chooseByHabit, 4, none, 4, 103)
abbrev mX11_horseChoice : mD := (yX11_horseChoice, cX11_horseChoice, 7, (some .int), 3, 77)
abbrev mX11_settleAccounts : mD := (yX11_settleAccounts, cX11_settleAccounts, 5, none, 2, 42)
abbrev mX11_learnHabits : mD := (yX11_learnHabits, cX11_learnHabits, 5, none, 0, 0)
abbrev mX12_init : mD := (yX12_init, cX12_init, 1, none, 1, 40)
abbrev mX12_within : mD := (yX12_within, cX12_within, 6, (some .boolean), 0, 0)
abbrev mX12_appendInt : mD := (yX12_appendInt, cX12_appendInt, 3, none, 0, 0)
abbrev mX12_append : mD := (yX12_append, cX12_append, 6, (some .int), 1, 22)
abbrev mX12_byteAt : mD := (yX12_byteAt, cX12_byteAt, 2, (some .int), 0, 0)
abbrev mX12_nextToken : mD := (yX12_nextToken, cX12_nextToken, 2, none, 1, 25)
abbrev mX12_must : mD := (yX12_must, cX12_must, 3, (some .boolean), 0, 0)
abbrev mX12_is : mD := (yX12_is, cX12_is, 3, (some .boolean), 5, 106)
abbrev mX12_number : mD := (yX12_number, cX12_number, 4, (some .int), 2, 46)
abbrev mX12_isJoined : mD := (yX12_isJoined, cX12_isJoined, 5, (some .boolean), 0, 0)
abbrev mX12_readStreet : mD := (yX12_readStreet, cX12_readStreet, 5, none, 6, 128)
abbrev mX12_readHouse : mD := (yX12_readHouse, cX12_readHouse, 3, none, 3, 69)
abbrev mX12_once : mD := (yX12_once, cX12_once, 2, none, 2, 46)
abbrev mX12_statement : mD := (yX12_statement, cX12_statement, 1, none, 7, 152)
abbrev mX12_adopt : mD := (yX12_adopt, cX12_adopt, 2, none, 0, 0)
abbrev mX12_parse : mD := (yX12_parse, cX12_parse, 3, (some .int), 8, 172)
abbrev mX12_clearLedger : mD := (yX12_clearLedger, cX12_clearLedger, 2, none, 0, 0)
abbrev mX12_keepState : mD := (yX12_keepState, cX12_keepState, 2, none, 0, 0)
abbrev mX12_isHouse : mD := (yX12_isHouse, cX12_isHouse, 2, (some .boolean), 1, 25)
abbrev mX12_isStreet : mD := (yX12_isStreet, cX12_isStreet, 2, (some .boolean), 1, 25)
abbrev mX12_isNode : mD := (yX12_isNode, cX12_isNode, 2, (some .boolean), 1, 25)
abbrev mX12_nodeCount : mD := (yX12_nodeCount, cX12_nodeCount, 1, (some .int), 0, 0)
abbrev mX12_streetCount : mD := (yX12_streetCount, cX12_streetCount, 1, (some .int), 0, 0)
abbrev mX12_houseCount : mD := (yX12_houseCount, cX12_houseCount, 1, (some .int), 0, 0)
abbrev mX12_capacity : mD := (yX12_capacity, cX12_capacity, 1, (some .int), 0, 0)
abbrev mX12_day : mD := (yX12_day, cX12_day, 1, (some .int), 0, 0)
abbrev mX12_houseNode : mD := (yX12_houseNode, cX12_houseNode, 2, (some .int), 2, 46)
abbrev mX12_order : mD := (yX12_order, cX12_order, 3, (some .int), 2, 46)
abbrev mX12_through : mD := (yX12_through, cX12_through, 4, (some .int), 0, 0)
abbrev mX12_layArrivals : mD := (yX12_layArrivals, cX12_layArrivals, 7, none, 1, 40)
abbrev mX12_arrivalOf : mD := (yX12_arrivalOf, cX12_arrivalOf, 4, (some .int), 2, 66)
abbrev mX12_isOpen : mD := (yX12_isOpen, cX12_isOpen, 3, (some .int), 2, 46)
abbrev mX12_arrival : mD := (yX12_arrival, cX12_arrival, 5, (some .int), 3, 89)
abbrev mX12_demandOf : mD := (yX12_demandOf, cX12_demandOf, 2, (some .int), 0, 0)
abbrev mX12_demand : mD := (yX12_demand, cX12_demand, 2, (some .int), 2, 46)
abbrev mX12_totalOf : mD := (yX12_totalOf, cX12_totalOf, 3, (some .int), 1, 21)
abbrev mX12_totalDemand : mD := (yX12_totalDemand, cX12_totalDemand, 1, (some .int), 2, 43)
abbrev mX12_stopSet : mD := (yX12_stopSet, cX12_stopSet, 3, (some .int), 1, 21)
abbrev mX12_stops : mD := (yX12_stops, cX12_stops, 1, (some .int), 2, 43)
abbrev mX12_habitOf : mD := (yX12_habitOf, cX12_habitOf, 3, (some .int), 0, 0)
abbrev mX12_habit : mD := (yX12_habit, cX12_habit, 3, (some .int), 2, 46)
abbrev mX12_layByNumber : mD := (yX12_layByNumber, cX12_layByNumber, 3, none, 2, 43)
abbrev mX12_layHorse : mD := (yX12_layHorse, cX12_layHorse, 5, none, 2, 66)
abbrev mX12_stayAt : mD := (yX12_stayAt, cX12_stayAt, 4, (some .int), 1, 21)
abbrev mX12_bestEnd : mD := (yX12_bestEnd, cX12_bestEnd, 6, (some .int), 3, 91)
abbrev mX12_goesOn : mD := (yX12_goesOn, cX12_goesOn, 6, none, 2, 66)
abbrev mX12_layFastest : mD := (yX12_layFastest, cX12_layFastest, 7, (some .boolean), 4, 116)
abbrev mX12_stopAt : mD := (yX12_stopAt, cX12_stopAt, 2, (some .int), 0, 0)
abbrev mX12_horseStop : mD := (yX12_horseStop, cX12_horseStop, 2, (some .int), 3, 90)
abbrev mX12_fastestFinish : mD := (yX12_fastestFinish, cX12_fastestFinish, 1, (some .int), 5, 142)
abbrev mX12_fastestStop : mD := (yX12_fastestStop, cX12_fastestStop, 2, (some .int), 5, 142)
abbrev mX12_layOrder : mD := (yX12_layOrder, cX12_layOrder, 2, (some .boolean), 5, 142)
abbrev mX12_stillWanted : mD := (yX12_stillWanted, cX12_stillWanted, 3, (some .int), 1, 21)
abbrev mX12_reload : mD := (yX12_reload, cX12_reload, 4, none, 3, 89)
abbrev mX12_visit : mD := (yX12_visit, cX12_visit, 4, none, 1, 40)
abbrev mX12_visitStop : mD := (yX12_visitStop, cX12_visitStop, 3, none, 4, 112)
abbrev mX12_leaveOut : mD := (yX12_leaveOut, cX12_leaveOut, 3, none, 0, 0)
abbrev mX12_playRound : mD := (yX12_playRound, cX12_playRound, 3, none, 5, 134)
abbrev mX12_previewFinish : mD := (yX12_previewFinish, cX12_previewFinish, 2, (some .int), 6, 163)
abbrev mX12_learn : mD := (yX12_learn, cX12_learn, 3, none, 0, 0)
abbrev mX12_carryOut : mD := (yX12_carryOut, cX12_carryOut, 5, (some .int), 6, 163)
abbrev mX12_bottlesAt : mD := (yX12_bottlesAt, cX12_bottlesAt, 2, (some .int), 2, 46)
abbrev mX12_delivered : mD := (yX12_delivered, cX12_delivered, 2, (some .int), 2, 46)
abbrev mX12_returned : mD := (yX12_returned, cX12_returned, 2, (some .int), 2, 46)
abbrev mX12_broken : mD := (yX12_broken, cX12_broken, 2, (some .int), 2, 46)
abbrev mX12_bill : mD := (yX12_bill, cX12_bill, 2, (some .int), 2, 46)
abbrev mX12_bottlesOut : mD := (yX12_bottlesOut, cX12_bottlesOut, 3, (some .int), 0, 0)
abbrev mX12_finish : mD := (yX12_finish, cX12_finish, 1, (some .int), 0, 0)
abbrev mX12_visitCount : mD := (yX12_visitCount, cX12_visitCount, 1, (some .int), 0, 0)
abbrev mX12_recordOf : mD := (yX12_recordOf, cX12_recordOf, 3, (some .int), 1, 25)
abbrev mX12_visitHouse : mD := (yX12_visitHouse, cX12_visitHouse, 2, (some .int), 2, 47)
abbrev mX12_visitMinute : mD := (yX12_visitMinute, cX12_visitMinute, 2, (some .int), 2, 47)
abbrev mX12_visitReturned : mD := (yX12_visitReturned, cX12_visitReturned, 2, (some .int), 2, 47)
abbrev mX12_reloads : mD := (yX12_reloads, cX12_reloads, 1, (some .int), 0, 0)
abbrev mX12_setSkipped : mD := (yX12_setSkipped, cX12_setSkipped, 4, (some .boolean), 2, 46)
abbrev mX12_breakBottles : mD := (yX12_breakBottles, cX12_breakBottles, 3, (some .int), 2, 46)
abbrev mX12_exchange : mD := (yX12_exchange, cX12_exchange, 4, (some .int), 1, 21)
abbrev mX12_setOrder : mD := (yX12_setOrder, cX12_setOrder, 4, (some .int), 2, 46)
abbrev mX12_setKeep : mD := (yX12_setKeep, cX12_setKeep, 3, (some .int), 2, 46)
abbrev mX12_setGate : mD := (yX12_setGate, cX12_setGate, 4, (some .boolean), 2, 46)
abbrev mX12_undo : mD := (yX12_undo, cX12_undo, 2, (some .int), 0, 0)
abbrev mX12_saveSnapshot : mD := (yX12_saveSnapshot, cX12_saveSnapshot, 3, (some .boolean), 1, 25)
abbrev mX12_restoreSnapshot : mD := (yX12_restoreSnapshot, cX12_restoreSnapshot, 3, (some .boolean), 1, 25)
abbrev mJ0_length_8abf5 : mD := (yJ0_length_8abf5, cJ0_length_8abf5, 1, (some .int), 1, 20)
abbrev mJ0_charAt_5068e : mD := (yJ0_charAt_5068e, cJ0_charAt_5068e, 2, (some .char), 4, 85)
abbrev mJ0_coder_7d493 : mD := (yJ0_coder_7d493, cJ0_coder_7d493, 1, (some .byte), 0, 0)
abbrev mJ0_isLatin1_aae02 : mD := (yJ0_isLatin1_aae02, cJ0_isLatin1_aae02, 1, (some .boolean), 0, 0)
abbrev mJ0_checkIndex_df160 : mD := (yJ0_checkIndex_df160, cJ0_checkIndex_df160, 2, none, 1, 22)
abbrev mJ1_charAt_3b067 : mD := (yJ1_charAt_3b067, cJ1_charAt_3b067, 2, (some .char), 2, 43)
abbrev mJ7_fill_53178 : mD := (yJ7_fill_53178, cJ7_fill_53178, 4, none, 0, 0)
abbrev mJ3_checkIndex_8e157 : mD := (yJ3_checkIndex_8e157, cJ3_checkIndex_8e157, 3, (some .int), 0, 0)
theorem okX0_init : okN mX0_init 4 := ⟨by decide, tb_in 62 (by decide +kernel) rfl, tb_in 417 (by decide +kernel) rfl, by decide +kernel⟩
theorem okX0_travel : okV mX0_travel 1 := ⟨⟨by decide, tb_in 62 (by decide +kernel) rfl, tb_in 901 (by decide +kernel) rfl, by decide +kernel⟩, tb_in 899 (by decide +kernel) rfl, tb_in 900 (by decide +kernel) rfl⟩
theorem okX0_driveTo : okV mX0_driveTo 1 := ⟨⟨by decide, tb_in 62 (by decide +kernel) rfl, tb_in 908 (by decide +kernel) rfl, by decide +kernel⟩, tb_in 906 (by decide +kernel) rfl, tb_in 907 (by decide +kernel) rfl⟩
theorem okX0_serveStop : okV mX0_serveStop 1 := ⟨⟨by decide, tb_in 62 (by decide +kernel) rfl, tb_in 914 (by decide +kernel) rfl, by decide +kernel⟩, tb_in 912 (by decide +kernel) rfl, tb_in 913 (by decide +kernel) rfl⟩
theorem okX0_reload : okV mX0_reload 1 := ⟨⟨by decide, tb_in 62 (by decide +kernel) rfl, tb_in 919 (by decide +kernel) rfl, by decide +kernel⟩, tb_in 917 (by decide +kernel) rfl, tb_in 918 (by decide +kernel) rfl⟩
theorem okX0_serveHouse : okV mX0_serveHouse 2 := ⟨⟨by decide, tb_in 62 (by decide +kernel) rfl, tb_in 923 (by decide +kernel) rfl, by decide +kernel⟩, tb_in 921 (by decide +kernel) rfl, tb_in 922 (by decide +kernel) rfl⟩
theorem okX1_init : okN mX1_init 3 := ⟨by decide, tb_in 61 (by decide +kernel) rfl, tb_in 375 (by decide +kernel) rfl, by decide +kernel⟩
theorem okX1_forget : okV mX1_forget 0 := ⟨⟨by decide, tb_in 61 (by decide +kernel) rfl, tb_in 677 (by decide +kernel) rfl, by decide +kernel⟩, tb_in 675 (by decide +kernel) rfl, tb_in 676 (by decide +kernel) rfl⟩
theorem okX1_find : okV mX1_find 0 := ⟨⟨by decide, tb_in 61 (by decide +kernel) rfl, tb_in 814 (by decide +kernel) rfl, by decide +kernel⟩, tb_in 812 (by decide +kernel) rfl, tb_in 813 (by decide +kernel) rfl⟩
theorem okX1_sumVisits : okV mX1_sumVisits 0 := ⟨⟨by decide, tb_in 61 (by decide +kernel) rfl, tb_in 821 (by decide +kernel) rfl, by decide +kernel⟩, tb_in 819 (by decide +kernel) rfl, tb_in 820 (by decide +kernel) rfl⟩
theorem okX1_place : okS mX1_place 2 := ⟨⟨by decide, tb_in 61 (by decide +kernel) rfl, tb_in 834 (by decide +kernel) rfl, by decide +kernel⟩, tb_in 833 (by decide +kernel) rfl⟩
theorem okX1_isLast : okS mX1_isLast 2 := ⟨⟨by decide, tb_in 61 (by decide +kernel) rfl, tb_in 841 (by decide +kernel) rfl, by decide +kernel⟩, tb_in 840 (by decide +kernel) rfl⟩
theorem okX1_isPart : okV mX1_isPart 1 := ⟨⟨by decide, tb_in 61 (by decide +kernel) rfl, tb_in 838 (by decide +kernel) rfl, by decide +kernel⟩, tb_in 836 (by decide +kernel) rfl, tb_in 837 (by decide +kernel) rfl⟩
theorem okX1_findEarliest : okV mX1_findEarliest 0 := ⟨⟨by decide, tb_in 61 (by decide +kernel) rfl, tb_in 831 (by decide +kernel) rfl, by decide +kernel⟩, tb_in 829 (by decide +kernel) rfl, tb_in 830 (by decide +kernel) rfl⟩
theorem okX1_driveOn : okV mX1_driveOn 2 := ⟨⟨by decide, tb_in 61 (by decide +kernel) rfl, tb_in 845 (by decide +kernel) rfl, by decide +kernel⟩, tb_in 843 (by decide +kernel) rfl, tb_in 844 (by decide +kernel) rfl⟩
theorem okX1_findLatest : okV mX1_findLatest 0 := ⟨⟨by decide, tb_in 61 (by decide +kernel) rfl, tb_in 851 (by decide +kernel) rfl, by decide +kernel⟩, tb_in 849 (by decide +kernel) rfl, tb_in 850 (by decide +kernel) rfl⟩
theorem okX1_allow : okV mX1_allow 2 := ⟨⟨by decide, tb_in 61 (by decide +kernel) rfl, tb_in 859 (by decide +kernel) rfl, by decide +kernel⟩, tb_in 857 (by decide +kernel) rfl, tb_in 858 (by decide +kernel) rfl⟩
theorem okX1_walk : okV mX1_walk 0 := ⟨⟨by decide, tb_in 61 (by decide +kernel) rfl, tb_in 866 (by decide +kernel) rfl, by decide +kernel⟩, tb_in 864 (by decide +kernel) rfl, tb_in 865 (by decide +kernel) rfl⟩
theorem okX1_firstInTime : okV mX1_firstInTime 2 := ⟨⟨by decide, tb_in 61 (by decide +kernel) rfl, tb_in 870 (by decide +kernel) rfl, by decide +kernel⟩, tb_in 868 (by decide +kernel) rfl, tb_in 869 (by decide +kernel) rfl⟩
theorem okX2_init : okN mX2_init 0 := ⟨by decide, tb_in 63 (by decide +kernel) rfl, tb_in 460 (by decide +kernel) rfl, by decide +kernel⟩
theorem okX2_clear : okV mX2_clear 0 := ⟨⟨by decide, tb_in 63 (by decide +kernel) rfl, tb_in 669 (by decide +kernel) rfl, by decide +kernel⟩, tb_in 667 (by decide +kernel) rfl, tb_in 668 (by decide +kernel) rfl⟩
theorem okX2_remember : okV mX2_remember 1 := ⟨⟨by decide, tb_in 63 (by decide +kernel) rfl, tb_in 997 (by decide +kernel) rfl, by decide +kernel⟩, tb_in 995 (by decide +kernel) rfl, tb_in 996 (by decide +kernel) rfl⟩
theorem okX2_recall : okV mX2_recall 1 := ⟨⟨by decide, tb_in 63 (by decide +kernel) rfl, tb_in 1037 (by decide +kernel) rfl, by decide +kernel⟩, tb_in 1035 (by decide +kernel) rfl, tb_in 1036 (by decide +kernel) rfl⟩
theorem okX3_init : okN mX3_init 0 := ⟨by decide, tb_in 57 (by decide +kernel) rfl, tb_in 209 (by decide +kernel) rfl, by decide +kernel⟩
theorem okX3_clear : okV mX3_clear 0 := ⟨⟨by decide, tb_in 57 (by decide +kernel) rfl, tb_in 214 (by decide +kernel) rfl, by decide +kernel⟩, tb_in 212 (by decide +kernel) rfl, tb_in 213 (by decide +kernel) rfl⟩
theorem okX3_add : okV mX3_add 3 := ⟨⟨by decide, tb_in 57 (by decide +kernel) rfl, tb_in 929 (by decide +kernel) rfl, by decide +kernel⟩, tb_in 927 (by decide +kernel) rfl, tb_in 928 (by decide +kernel) rfl⟩
theorem okX3_copyFrom : okV mX3_copyFrom 1 := ⟨⟨by decide, tb_in 57 (by decide +kernel) rfl, tb_in 664 (by decide +kernel) rfl, by decide +kernel⟩, tb_in 662 (by decide +kernel) rfl, tb_in 663 (by decide +kernel) rfl⟩
theorem okX4_init : okN mX4_init 2 := ⟨by decide, tb_in 59 (by decide +kernel) rfl, tb_in 341 (by decide +kernel) rfl, by decide +kernel⟩
theorem okX4_arrivalsFrom : okV mX4_arrivalsFrom 2 := ⟨⟨by decide, tb_in 59 (by decide +kernel) rfl, tb_in 732 (by decide +kernel) rfl, by decide +kernel⟩, tb_in 730 (by decide +kernel) rfl, tb_in 731 (by decide +kernel) rfl⟩
theorem okX4_sweepStreets : okV mX4_sweepStreets 1 := ⟨⟨by decide, tb_in 59 (by decide +kernel) rfl, tb_in 740 (by decide +kernel) rfl, by decide +kernel⟩, tb_in 738 (by decide +kernel) rfl, tb_in 739 (by decide +kernel) rfl⟩
theorem okX4_improveArrival : okV mX4_improveArrival 3 := ⟨⟨by decide, tb_in 59 (by decide +kernel) rfl, tb_in 748 (by decide +kernel) rfl, by decide +kernel⟩, tb_in 746 (by decide +kernel) rfl, tb_in 747 (by decide +kernel) rfl⟩
theorem okX4_departuresTo : okV mX4_departuresTo 2 := ⟨⟨by decide, tb_in 59 (by decide +kernel) rfl, tb_in 855 (by decide +kernel) rfl, by decide +kernel⟩, tb_in 853 (by decide +kernel) rfl, tb_in 854 (by decide +kernel) rfl⟩
theorem okX4_improveDeparture : okV mX4_improveDeparture 3 := ⟨⟨by decide, tb_in 59 (by decide +kernel) rfl, tb_in 744 (by decide +kernel) rfl, by decide +kernel⟩, tb_in 742 (by decide +kernel) rfl, tb_in 743 (by decide +kernel) rfl⟩
theorem okX5_init : okN mX5_init 1 := ⟨by decide, tb_in 54 (by decide +kernel) rfl, tb_in 113 (by decide +kernel) rfl, by decide +kernel⟩
theorem okX5_readRound : okV mX5_readRound 1 := ⟨⟨by decide, tb_in 54 (by decide +kernel) rfl, tb_in 529 (by decide +kernel) rfl, by decide +kernel⟩, tb_in 527 (by decide +kernel) rfl, tb_in 528 (by decide +kernel) rfl⟩
theorem okX5_readStatement : okV mX5_readStatement 0 := ⟨⟨by decide, tb_in 54 (by decide +kernel) rfl, tb_in 548 (by decide +kernel) rfl, by decide +kernel⟩, tb_in 546 (by decide +kernel) rfl, tb_in 547 (by decide +kernel) rfl⟩
theorem okX5_readNodes : okV mX5_readNodes 0 := ⟨⟨by decide, tb_in 54 (by decide +kernel) rfl, tb_in 605 (by decide +kernel) rfl, by decide +kernel⟩, tb_in 603 (by decide +kernel) rfl, tb_in 604 (by decide +kernel) rfl⟩
theorem okX5_readStreet : okV mX5_readStreet 0 := ⟨⟨by decide, tb_in 54 (by decide +kernel) rfl, tb_in 630 (by decide +kernel) rfl, by decide +kernel⟩, tb_in 628 (by decide +kernel) rfl, tb_in 629 (by decide +kernel) rfl⟩
theorem okX5_readGate : okV mX5_readGate 1 := ⟨⟨by decide, tb_in 54 (by decide +kernel) rfl, tb_in 638 (by decide +kernel) rfl, by decide +kernel⟩, tb_in 636 (by decide +kernel) rfl, tb_in 637 (by decide +kernel) rfl⟩
theorem okX5_readHouse : okV mX5_readHouse 0 := ⟨⟨by decide, tb_in 54 (by decide +kernel) rfl, tb_in 644 (by decide +kernel) rfl, by decide +kernel⟩, tb_in 642 (by decide +kernel) rfl, tb_in 643 (by decide +kernel) rfl⟩
theorem okX5_takeOnce : okV mX5_takeOnce 1 := ⟨⟨by decide, tb_in 54 (by decide +kernel) rfl, tb_in 613 (by decide +kernel) rfl, by decide +kernel⟩, tb_in 611 (by decide +kernel) rfl, tb_in 612 (by decide +kernel) rfl⟩
theorem okX5_readNumber : okV mX5_readNumber 2 := ⟨⟨by decide, tb_in 54 (by decide +kernel) rfl, tb_in 618 (by decide +kernel) rfl, by decide +kernel⟩, tb_in 616 (by decide +kernel) rfl, tb_in 617 (by decide +kernel) rfl⟩
theorem okX5_readSemicolon : okV mX5_readSemicolon 0 := ⟨⟨by decide, tb_in 54 (by decide +kernel) rfl, tb_in 648 (by decide +kernel) rfl, by decide +kernel⟩, tb_in 646 (by decide +kernel) rfl, tb_in 647 (by decide +kernel) rfl⟩
theorem okX5_fail : okV mX5_fail 2 := ⟨⟨by decide, tb_in 54 (by decide +kernel) rfl, tb_in 609 (by decide +kernel) rfl, by decide +kernel⟩, tb_in 607 (by decide +kernel) rfl, tb_in 608 (by decide +kernel) rfl⟩
theorem okX6_init : okN mX6_init 0 := ⟨by decide, tb_in 55 (by decide +kernel) rfl, tb_in 119 (by decide +kernel) rfl, by decide +kernel⟩
theorem okX6_clear : okV mX6_clear 0 := ⟨⟨by decide, tb_in 55 (by decide +kernel) rfl, tb_in 124 (by decide +kernel) rfl, by decide +kernel⟩, tb_in 122 (by decide +kernel) rfl, tb_in 123 (by decide +kernel) rfl⟩
theorem okX6_copyFrom : okV mX6_copyFrom 1 := ⟨⟨by decide, tb_in 55 (by decide +kernel) rfl, tb_in 652 (by decide +kernel) rfl, by decide +kernel⟩, tb_in 650 (by decide +kernel) rfl, tb_in 651 (by decide +kernel) rfl⟩
theorem okX6_joins : okV mX6_joins 2 := ⟨⟨by decide, tb_in 55 (by decide +kernel) rfl, tb_in 634 (by decide +kernel) rfl, by decide +kernel⟩, tb_in 632 (by decide +kernel) rfl, tb_in 633 (by decide +kernel) rfl⟩
theorem okX7_init : okN mX7_init 0 := ⟨by decide, tb_in 60 (by decide +kernel) rfl, tb_in 360 (by decide +kernel) rfl, by decide +kernel⟩
theorem okX7_clear : okV mX7_clear 0 := ⟨⟨by decide, tb_in 60 (by decide +kernel) rfl, tb_in 794 (by decide +kernel) rfl, by decide +kernel⟩, tb_in 792 (by decide +kernel) rfl, tb_in 793 (by decide +kernel) rfl⟩
theorem okX7_add : okV mX7_add 1 := ⟨⟨by decide, tb_in 60 (by decide +kernel) rfl, tb_in 802 (by decide +kernel) rfl, by decide +kernel⟩, tb_in 800 (by decide +kernel) rfl, tb_in 801 (by decide +kernel) rfl⟩
theorem okX7_fillByNumber : okV mX7_fillByNumber 1 := ⟨⟨by decide, tb_in 60 (by decide +kernel) rfl, tb_in 895 (by decide +kernel) rfl, by decide +kernel⟩, tb_in 893 (by decide +kernel) rfl, tb_in 894 (by decide +kernel) rfl⟩
theorem okX7_copyFrom : okV mX7_copyFrom 1 := ⟨⟨by decide, tb_in 60 (by decide +kernel) rfl, tb_in 890 (by decide +kernel) rfl, by decide +kernel⟩, tb_in 888 (by decide +kernel) rfl, tb_in 889 (by decide +kernel) rfl⟩
theorem okX7_stopAt : okV mX7_stopAt 1 := ⟨⟨by decide, tb_in 60 (by decide +kernel) rfl, tb_in 806 (by decide +kernel) rfl, by decide +kernel⟩, tb_in 804 (by decide +kernel) rfl, tb_in 805 (by decide +kernel) rfl⟩
theorem okX8_init : okN mX8_init 0 := ⟨by decide, tb_in 56 (by decide +kernel) rfl, tb_in 203 (by decide +kernel) rfl, by decide +kernel⟩
theorem okX8_isSkipped : okV mX8_isSkipped 1 := ⟨⟨by decide, tb_in 56 (by decide +kernel) rfl, tb_in 761 (by decide +kernel) rfl, by decide +kernel⟩, tb_in 759 (by decide +kernel) rfl, tb_in 760 (by decide +kernel) rfl⟩
theorem okX8_copyFrom : okV mX8_copyFrom 1 := ⟨⟨by decide, tb_in 56 (by decide +kernel) rfl, tb_in 659 (by decide +kernel) rfl, by decide +kernel⟩, tb_in 657 (by decide +kernel) rfl, tb_in 658 (by decide +kernel) rfl⟩
theorem okX9_init : okN mX9_init 0 := ⟨by decide, tb_in 53 (by decide +kernel) rfl, tb_in 84 (by decide +kernel) rfl, by decide +kernel⟩
theorem okX9_addFour : okV mX9_addFour 1 := ⟨⟨by decide, tb_in 53 (by decide +kernel) rfl, tb_in 521 (by decide +kernel) rfl, by decide +kernel⟩, tb_in 519 (by decide +kernel) rfl, tb_in 520 (by decide +kernel) rfl⟩
theorem okX9_begin : okV mX9_begin 1 := ⟨⟨by decide, tb_in 53 (by decide +kernel) rfl, tb_in 534 (by decide +kernel) rfl, by decide +kernel⟩, tb_in 532 (by decide +kernel) rfl, tb_in 533 (by decide +kernel) rfl⟩
theorem okX9_advance : okV mX9_advance 0 := ⟨⟨by decide, tb_in 53 (by decide +kernel) rfl, tb_in 541 (by decide +kernel) rfl, by decide +kernel⟩, tb_in 539 (by decide +kernel) rfl, tb_in 540 (by decide +kernel) rfl⟩
theorem okX9_kindOf : okS mX9_kindOf 1 := ⟨⟨by decide, tb_in 53 (by decide +kernel) rfl, tb_in 544 (by decide +kernel) rfl, by decide +kernel⟩, tb_in 543 (by decide +kernel) rfl⟩
theorem okX9_isWord : okV mX9_isWord 1 := ⟨⟨by decide, tb_in 53 (by decide +kernel) rfl, tb_in 553 (by decide +kernel) rfl, by decide +kernel⟩, tb_in 551 (by decide +kernel) rfl, tb_in 552 (by decide +kernel) rfl⟩
theorem okX9_value : okV mX9_value 0 := ⟨⟨by decide, tb_in 53 (by decide +kernel) rfl, tb_in 622 (by decide +kernel) rfl, by decide +kernel⟩, tb_in 620 (by decide +kernel) rfl, tb_in 621 (by decide +kernel) rfl⟩
theorem okX10_init : okN mX10_init 2 := ⟨by decide, tb_in 58 (by decide +kernel) rfl, tb_in 328 (by decide +kernel) rfl, by decide +kernel⟩
theorem okX10_demandOf : okV mX10_demandOf 1 := ⟨⟨by decide, tb_in 58 (by decide +kernel) rfl, tb_in 757 (by decide +kernel) rfl, by decide +kernel⟩, tb_in 755 (by decide +kernel) rfl, tb_in 756 (by decide +kernel) rfl⟩
theorem okX10_demandAtNode : okV mX10_demandAtNode 1 := ⟨⟨by decide, tb_in 58 (by decide +kernel) rfl, tb_in 933 (by decide +kernel) rfl, by decide +kernel⟩, tb_in 931 (by decide +kernel) rfl, tb_in 932 (by decide +kernel) rfl⟩
theorem okX10_sumOfDemands : okV mX10_sumOfDemands 0 := ⟨⟨by decide, tb_in 58 (by decide +kernel) rfl, tb_in 769 (by decide +kernel) rfl, by decide +kernel⟩, tb_in 767 (by decide +kernel) rfl, tb_in 768 (by decide +kernel) rfl⟩
theorem okX10_stopSet : okV mX10_stopSet 0 := ⟨⟨by decide, tb_in 58 (by decide +kernel) rfl, tb_in 778 (by decide +kernel) rfl, by decide +kernel⟩, tb_in 776 (by decide +kernel) rfl, tb_in 777 (by decide +kernel) rfl⟩
theorem okX10_visitMinutes : okV mX10_visitMinutes 1 := ⟨⟨by decide, tb_in 58 (by decide +kernel) rfl, tb_in 827 (by decide +kernel) rfl, by decide +kernel⟩, tb_in 825 (by decide +kernel) rfl, tb_in 826 (by decide +kernel) rfl⟩
theorem okX11_init : okN mX11_init 0 := ⟨by decide, tb_in 52 (by decide +kernel) rfl, tb_in 76 (by decide +kernel) rfl, by decide +kernel⟩
theorem okX11_append : okV mX11_append 5 := ⟨⟨by decide, tb_in 52 (by decide +kernel) rfl, tb_in 517 (by decide +kernel) rfl, by decide +kernel⟩, tb_in 515 (by decide +kernel) rfl, tb_in 516 (by decide +kernel) rfl⟩
theorem okX11_parse : okV mX11_parse 1 := ⟨⟨by decide, tb_in 52 (by decide +kernel) rfl, tb_in 525 (by decide +kernel) rfl, by decide +kernel⟩, tb_in 523 (by decide +kernel) rfl, tb_in 524 (by decide +kernel) rfl⟩
theorem okX11_nodeCount : okV mX11_nodeCount 0 := ⟨⟨by decide, tb_in 52 (by decide +kernel) rfl, tb_in 681 (by decide +kernel) rfl, by decide +kernel⟩, tb_in 679 (by decide +kernel) rfl, tb_in 680 (by decide +kernel) rfl⟩
theorem okX11_streetCount : okV mX11_streetCount 0 := ⟨⟨by decide, tb_in 52 (by decide +kernel) rfl, tb_in 685 (by decide +kernel) rfl, by decide +kernel⟩, tb_in 683 (by decide +kernel) rfl, tb_in 684 (by decide +kernel) rfl⟩
theorem okX11_houseCount : okV mX11_houseCount 0 := ⟨⟨by decide, tb_in 52 (by decide +kernel) rfl, tb_in 689 (by decide +kernel) rfl, by decide +kernel⟩, tb_in 687 (by decide +kernel) rfl, tb_in 688 (by decide +kernel) rfl⟩
theorem okX11_capacity : okV mX11_capacity 0 := ⟨⟨by decide, tb_in 52 (by decide +kernel) rfl, tb_in 693 (by decide +kernel) rfl, by decide +kernel⟩, tb_in 691 (by decide +kernel) rfl, tb_in 692 (by decide +kernel) rfl⟩
theorem okX11_day : okV mX11_day 0 := ⟨⟨by decide, tb_in 52 (by decide +kernel) rfl, tb_in 697 (by decide +kernel) rfl, by decide +kernel⟩, tb_in 695 (by decide +kernel) rfl, tb_in 696 (by decide +kernel) rfl⟩
theorem okX11_houseNode : okV mX11_houseNode 1 := ⟨⟨by decide, tb_in 52 (by decide +kernel) rfl, tb_in 701 (by decide +kernel) rfl, by decide +kernel⟩, tb_in 699 (by decide +kernel) rfl, tb_in 700 (by decide +kernel) rfl⟩
theorem okX11_order : okV mX11_order 2 := ⟨⟨by decide, tb_in 52 (by decide +kernel) rfl, tb_in 709 (by decide +kernel) rfl, by decide +kernel⟩, tb_in 707 (by decide +kernel) rfl, tb_in 708 (by decide +kernel) rfl⟩
theorem okX11_isOpen : okV mX11_isOpen 2 := ⟨⟨by decide, tb_in 52 (by decide +kernel) rfl, tb_in 716 (by decide +kernel) rfl, by decide +kernel⟩, tb_in 714 (by decide +kernel) rfl, tb_in 715 (by decide +kernel) rfl⟩
theorem okX11_arrival : okV mX11_arrival 3 := ⟨⟨by decide, tb_in 52 (by decide +kernel) rfl, tb_in 724 (by decide +kernel) rfl, by decide +kernel⟩, tb_in 722 (by decide +kernel) rfl, tb_in 723 (by decide +kernel) rfl⟩
theorem okX11_demand : okV mX11_demand 1 := ⟨⟨by decide, tb_in 52 (by decide +kernel) rfl, tb_in 753 (by decide +kernel) rfl, by decide +kernel⟩, tb_in 751 (by decide +kernel) rfl, tb_in 752 (by decide +kernel) rfl⟩
theorem okX11_totalDemand : okV mX11_totalDemand 0 := ⟨⟨by decide, tb_in 52 (by decide +kernel) rfl, tb_in 765 (by decide +kernel) rfl, by decide +kernel⟩, tb_in 763 (by decide +kernel) rfl, tb_in 764 (by decide +kernel) rfl⟩
theorem okX11_stops : okV mX11_stops 0 := ⟨⟨by decide, tb_in 52 (by decide +kernel) rfl, tb_in 774 (by decide +kernel) rfl, by decide +kernel⟩, tb_in 772 (by decide +kernel) rfl, tb_in 773 (by decide +kernel) rfl⟩
theorem okX11_habit : okV mX11_habit 2 := ⟨⟨by decide, tb_in 52 (by decide +kernel) rfl, tb_in 782 (by decide +kernel) rfl, by decide +kernel⟩, tb_in 780 (by decide +kernel) rfl, tb_in 781 (by decide +kernel) rfl⟩
theorem okX11_horseStop : okV mX11_horseStop 1 := ⟨⟨by decide, tb_in 52 (by decide +kernel) rfl, tb_in 786 (by decide +kernel) rfl, by decide +kernel⟩, tb_in 784 (by decide +kernel) rfl, tb_in 785 (by decide +kernel) rfl⟩
theorem okX11_fastestFinish : okV mX11_fastestFinish 0 := ⟨⟨by decide, tb_in 52 (by decide +kernel) rfl, tb_in 810 (by decide +kernel) rfl, by decide +kernel⟩, tb_in 808 (by decide +kernel) rfl, tb_in 809 (by decide +kernel) rfl⟩
theorem okX11_fastestStop : okV mX11_fastestStop 1 := ⟨⟨by decide, tb_in 52 (by decide +kernel) rfl, tb_in 875 (by decide +kernel) rfl, by decide +kernel⟩, tb_in 873 (by decide +kernel) rfl, tb_in 874 (by decide +kernel) rfl⟩
theorem okX11_previewFinish : okV mX11_previewFinish 1 := ⟨⟨by decide, tb_in 52 (by decide +kernel) rfl, tb_in 879 (by decide +kernel) rfl, by decide +kernel⟩, tb_in 877 (by decide +kernel) rfl, tb_in 878 (by decide +kernel) rfl⟩
theorem okX11_bottlesAt : okV mX11_bottlesAt 1 := ⟨⟨by decide, tb_in 52 (by decide +kernel) rfl, tb_in 937 (by decide +kernel) rfl, by decide +kernel⟩, tb_in 935 (by decide +kernel) rfl, tb_in 936 (by decide +kernel) rfl⟩
theorem okX11_delivered : okV mX11_delivered 1 := ⟨⟨by decide, tb_in 52 (by decide +kernel) rfl, tb_in 941 (by decide +kernel) rfl, by decide +kernel⟩, tb_in 939 (by decide +kernel) rfl, tb_in 940 (by decide +kernel) rfl⟩
theorem okX11_returned : okV mX11_returned 1 := ⟨⟨by decide, tb_in 52 (by decide +kernel) rfl, tb_in 945 (by decide +kernel) rfl, by decide +kernel⟩, tb_in 943 (by decide +kernel) rfl, tb_in 944 (by decide +kernel) rfl⟩
theorem okX11_broken : okV mX11_broken 1 := ⟨⟨by decide, tb_in 52 (by decide +kernel) rfl, tb_in 949 (by decide +kernel) rfl, by decide +kernel⟩, tb_in 947 (by decide +kernel) rfl, tb_in 948 (by decide +kernel) rfl⟩
theorem okX11_bill : okV mX11_bill 1 := ⟨⟨by decide, tb_in 52 (by decide +kernel) rfl, tb_in 953 (by decide +kernel) rfl, by decide +kernel⟩, tb_in 951 (by decide +kernel) rfl, tb_in 952 (by decide +kernel) rfl⟩
theorem okX11_bottlesOut : okV mX11_bottlesOut 0 := ⟨⟨by decide, tb_in 52 (by decide +kernel) rfl, tb_in 957 (by decide +kernel) rfl, by decide +kernel⟩, tb_in 955 (by decide +kernel) rfl, tb_in 956 (by decide +kernel) rfl⟩
theorem okX11_finish : okV mX11_finish 0 := ⟨⟨by decide, tb_in 52 (by decide +kernel) rfl, tb_in 961 (by decide +kernel) rfl, by decide +kernel⟩, tb_in 959 (by decide +kernel) rfl, tb_in 960 (by decide +kernel) rfl⟩
theorem okX11_visitCount : okV mX11_visitCount 0 := ⟨⟨by decide, tb_in 52 (by decide +kernel) rfl, tb_in 965 (by decide +kernel) rfl, by decide +kernel⟩, tb_in 963 (by decide +kernel) rfl, tb_in 964 (by decide +kernel) rfl⟩
theorem okX11_visitHouse : okV mX11_visitHouse 1 := ⟨⟨by decide, tb_in 52 (by decide +kernel) rfl, tb_in 969 (by decide +kernel) rfl, by decide +kernel⟩, tb_in 967 (by decide +kernel) rfl, tb_in 968 (by decide +kernel) rfl⟩
theorem okX11_visitMinute : okV mX11_visitMinute 1 := ⟨⟨by decide, tb_in 52 (by decide +kernel) rfl, tb_in 977 (by decide +kernel) rfl, by decide +kernel⟩, tb_in 975 (by decide +kernel) rfl, tb_in 976 (by decide +kernel) rfl⟩
theorem okX11_visitReturned : okV mX11_visitReturned 1 := ⟨⟨by decide, tb_in 52 (by decide +kernel) rfl, tb_in 981 (by decide +kernel) rfl, by decide +kernel⟩, tb_in 979 (by decide +kernel) rfl, tb_in 980 (by decide +kernel) rfl⟩
theorem okX11_reloads : okV mX11_reloads 0 := ⟨⟨by decide, tb_in 52 (by decide +kernel) rfl, tb_in 985 (by decide +kernel) rfl, by decide +kernel⟩, tb_in 983 (by decide +kernel) rfl, tb_in 984 (by decide +kernel) rfl⟩
theorem okX11_carryOut : okV mX11_carryOut 1 := ⟨⟨by decide, tb_in 52 (by decide +kernel) rfl, tb_in 989 (by decide +kernel) rfl, by decide +kernel⟩, tb_in 987 (by decide +kernel) rfl, tb_in 988 (by decide +kernel) rfl⟩
theorem okX11_setSkipped : okV mX11_setSkipped 2 := ⟨⟨by decide, tb_in 52 (by decide +kernel) rfl, tb_in 1012 (by decide +kernel) rfl, by decide +kernel⟩, tb_in 1010 (by decide +kernel) rfl, tb_in 1011 (by decide +kernel) rfl⟩
theorem okX11_breakBottles : okV mX11_breakBottles 2 := ⟨⟨by decide, tb_in 52 (by decide +kernel) rfl, tb_in 1017 (by decide +kernel) rfl, by decide +kernel⟩, tb_in 1015 (by decide +kernel) rfl, tb_in 1016 (by decide +kernel) rfl⟩
theorem okX11_setOrder : okV mX11_setOrder 3 := ⟨⟨by decide, tb_in 52 (by decide +kernel) rfl, tb_in 1021 (by decide +kernel) rfl, by decide +kernel⟩, tb_in 1019 (by decide +kernel) rfl, tb_in 1020 (by decide +kernel) rfl⟩
theorem okX11_setKeep : okV mX11_setKeep 2 := ⟨⟨by decide, tb_in 52 (by decide +kernel) rfl, tb_in 1025 (by decide +kernel) rfl, by decide +kernel⟩, tb_in 1023 (by decide +kernel) rfl, tb_in 1024 (by decide +kernel) rfl⟩
theorem okX11_setGate : okV mX11_setGate 3 := ⟨⟨by decide, tb_in 52 (by decide +kernel) rfl, tb_in 1029 (by decide +kernel) rfl, by decide +kernel⟩, tb_in 1027 (by decide +kernel) rfl, tb_in 1028 (by decide +kernel) rfl⟩
theorem okX11_undo : okV mX11_undo 0 := ⟨⟨by decide, tb_in 52 (by decide +kernel) rfl, tb_in 1033 (by decide +kernel) rfl, by decide +kernel⟩, tb_in 1031 (by decide +kernel) rfl, tb_in 1032 (by decide +kernel) rfl⟩
theorem okX11_saveSnapshot : okV mX11_saveSnapshot 1 := ⟨⟨by decide, tb_in 52 (by decide +kernel) rfl, tb_in 1041 (by decide +kernel) rfl, by decide +kernel⟩, tb_in 1039 (by decide +kernel) rfl, tb_in 1040 (by decide +kernel) rfl⟩
theorem okX11_restoreSnapshot : okV mX11_restoreSnapshot 1 := ⟨⟨by decide, tb_in 52 (by decide +kernel) rfl, tb_in 1048 (by decide +kernel) rfl, by decide +kernel⟩, tb_in 1046 (by decide +kernel) rfl, tb_in 1047 (by decide +kernel) rfl⟩
theorem okX11_isHouse : okV mX11_isHouse 1 := ⟨⟨by decide, tb_in 52 (by decide +kernel) rfl, tb_in 705 (by decide +kernel) rfl, by decide +kernel⟩, tb_in 704 (by decide +kernel) rfl, tb_in 1 (by decide +kernel) rfl⟩
theorem okX11_isStreet : okV mX11_isStreet 1 := ⟨⟨by decide, tb_in 52 (by decide +kernel) rfl, tb_in 720 (by decide +kernel) rfl, by decide +kernel⟩, tb_in 719 (by decide +kernel) rfl, tb_in 2 (by decide +kernel) rfl⟩
theorem okX11_isNode : okV mX11_isNode 1 := ⟨⟨by decide, tb_in 52 (by decide +kernel) rfl, tb_in 728 (by decide +kernel) rfl, by decide +kernel⟩, tb_in 727 (by decide +kernel) rfl, tb_in 3 (by decide +kernel) rfl⟩
theorem okX11_isVisit : okV mX11_isVisit 1 := ⟨⟨by decide, tb_in 52 (by decide +kernel) rfl, tb_in 973 (by decide +kernel) rfl, by decide +kernel⟩, tb_in 972 (by decide +kernel) rfl, tb_in 7 (by decide +kernel) rfl⟩
theorem okX11_isWeekday : okS mX11_isWeekday 1 := ⟨⟨by decide, tb_in 52 (by decide +kernel) rfl, tb_in 712 (by decide +kernel) rfl, by decide +kernel⟩, tb_in 711 (by decide +kernel) rfl⟩
theorem okX11_isChoice : okS mX11_isChoice 1 := ⟨⟨by decide, tb_in 52 (by decide +kernel) rfl, tb_in 882 (by decide +kernel) rfl, by decide +kernel⟩, tb_in 881 (by decide +kernel) rfl⟩
theorem okX11_isSlot : okS mX11_isSlot 1 := ⟨⟨by decide, tb_in 52 (by decide +kernel) rfl, tb_in 1044 (by decide +kernel) rfl, by decide +kernel⟩, tb_in 1043 (by decide +kernel) rfl⟩
theorem okX11_emptySlots : okV mX11_emptySlots 0 := ⟨⟨by decide, tb_in 52 (by decide +kernel) rfl, tb_in 673 (by decide +kernel) rfl, by decide +kernel⟩, tb_in 672 (by decide +kernel) rfl, tb_in 0 (by decide +kernel) rfl⟩
theorem okX11_beginChange : okV mX11_beginChange 0 := ⟨⟨by decide, tb_in 52 (by decide +kernel) rfl, tb_in 993 (by decide +kernel) rfl, by decide +kernel⟩, tb_in 992 (by decide +kernel) rfl, tb_in 8 (by decide +kernel) rfl⟩
theorem okX11_chooseRoute : okV mX11_chooseRoute 1 := ⟨⟨by decide, tb_in 52 (by decide +kernel) rfl, tb_in 886 (by decide +kernel) rfl, by decide +kernel⟩, tb_in 885 (by decide +kernel) rfl, tb_in 6 (by decide +kernel) rfl⟩
theorem okX11_chooseByHabit : okV mX11_chooseByHabit 0 := ⟨⟨by decide, tb_in 52 (by decide +kernel) rfl, tb_in 790 (by decide +kernel) rfl, by decide +kernel⟩, tb_in 789 (by decide +kernel) rfl, tb_in 4 (by decide +kernel) rfl⟩
theorem okX11_horseChoice : okV mX11_horseChoice 2 := ⟨⟨by decide, tb_in 52 (by decide +kernel) rfl, tb_in 798 (by decide +kernel) rfl, by decide +kernel⟩, tb_in 797 (by decide +kernel) rfl, tb_in 5 (by decide +kernel) rfl⟩
theorem okX11_settleAccounts : okV mX11_settleAccounts 1 := ⟨⟨by decide, tb_in 52 (by decide +kernel) rfl, tb_in 1003 (by decide +kernel) rfl, by decide +kernel⟩, tb_in 1002 (by decide +kernel) rfl, tb_in 9 (by decide +kernel) rfl⟩
theorem okX11_learnHabits : okV mX11_learnHabits 1 := ⟨⟨by decide, tb_in 52 (by decide +kernel) rfl, tb_in 1007 (by decide +kernel) rfl, by decide +kernel⟩, tb_in 1006 (by decide +kernel) rfl, tb_in 10 (by decide +kernel) rfl⟩
theorem okX12_init : okN mX12_init 0 := ⟨by decide, tb_in 64 (by decide +kernel) rfl, tb_in 1053 (by decide +kernel) rfl, by decide +kernel⟩
theorem okX12_within : okS mX12_within 3 := ⟨⟨by decide, tb_in 64 (by decide +kernel) rfl, tb_in 1209 (by decide +kernel) rfl, by decide +kernel⟩, tb_in 1208 (by decide +kernel) rfl⟩
theorem okX12_appendInt : okV mX12_appendInt 1 := ⟨⟨by decide, tb_in 64 (by decide +kernel) rfl, tb_in 1202 (by decide +kernel) rfl, by decide +kernel⟩, tb_in 1201 (by decide +kernel) rfl, tb_in 12 (by decide +kernel) rfl⟩
theorem okX12_append : okV mX12_append 5 := ⟨⟨by decide, tb_in 64 (by decide +kernel) rfl, tb_in 1198 (by decide +kernel) rfl, by decide +kernel⟩, tb_in 1196 (by decide +kernel) rfl, tb_in 1197 (by decide +kernel) rfl⟩
theorem okX12_byteAt : okV mX12_byteAt 1 := ⟨⟨by decide, tb_in 64 (by decide +kernel) rfl, tb_in 1217 (by decide +kernel) rfl, by decide +kernel⟩, tb_in 1216 (by decide +kernel) rfl, tb_in 14 (by decide +kernel) rfl⟩
theorem okX12_nextToken : okV mX12_nextToken 0 := ⟨⟨by decide, tb_in 64 (by decide +kernel) rfl, tb_in 1213 (by decide +kernel) rfl, by decide +kernel⟩, tb_in 1212 (by decide +kernel) rfl, tb_in 13 (by decide +kernel) rfl⟩
theorem okX12_must : okV mX12_must 2 := ⟨⟨by decide, tb_in 64 (by decide +kernel) rfl, tb_in 1240 (by decide +kernel) rfl, by decide +kernel⟩, tb_in 1239 (by decide +kernel) rfl, tb_in 18 (by decide +kernel) rfl⟩
theorem okX12_is : okV mX12_is 1 := ⟨⟨by decide, tb_in 64 (by decide +kernel) rfl, tb_in 1230 (by decide +kernel) rfl, by decide +kernel⟩, tb_in 1229 (by decide +kernel) rfl, tb_in 16 (by decide +kernel) rfl⟩
theorem okX12_number : okV mX12_number 2 := ⟨⟨by decide, tb_in 64 (by decide +kernel) rfl, tb_in 1244 (by decide +kernel) rfl, by decide +kernel⟩, tb_in 1243 (by decide +kernel) rfl, tb_in 19 (by decide +kernel) rfl⟩
theorem okX12_isJoined : okV mX12_isJoined 3 := ⟨⟨by decide, tb_in 64 (by decide +kernel) rfl, tb_in 1248 (by decide +kernel) rfl, by decide +kernel⟩, tb_in 1247 (by decide +kernel) rfl, tb_in 20 (by decide +kernel) rfl⟩
theorem okX12_readStreet : okV mX12_readStreet 0 := ⟨⟨by decide, tb_in 64 (by decide +kernel) rfl, tb_in 1236 (by decide +kernel) rfl, by decide +kernel⟩, tb_in 1235 (by decide +kernel) rfl, tb_in 17 (by decide +kernel) rfl⟩
theorem okX12_readHouse : okV mX12_readHouse 0 := ⟨⟨by decide, tb_in 64 (by decide +kernel) rfl, tb_in 1254 (by decide +kernel) rfl, by decide +kernel⟩, tb_in 1253 (by decide +kernel) rfl, tb_in 21 (by decide +kernel) rfl⟩
theorem okX12_once : okV mX12_once 1 := ⟨⟨by decide, tb_in 64 (by decide +kernel) rfl, tb_in 1259 (by decide +kernel) rfl, by decide +kernel⟩, tb_in 1258 (by decide +kernel) rfl, tb_in 22 (by decide +kernel) rfl⟩
theorem okX12_statement : okV mX12_statement 0 := ⟨⟨by decide, tb_in 64 (by decide +kernel) rfl, tb_in 1225 (by decide +kernel) rfl, by decide +kernel⟩, tb_in 1224 (by decide +kernel) rfl, tb_in 15 (by decide +kernel) rfl⟩
theorem okX12_adopt : okS mX12_adopt 1 := ⟨⟨by decide, tb_in 64 (by decide +kernel) rfl, tb_in 1265 (by decide +kernel) rfl, by decide +kernel⟩, tb_in 1264 (by decide +kernel) rfl⟩
theorem okX12_parse : okV mX12_parse 1 := ⟨⟨by decide, tb_in 64 (by decide +kernel) rfl, tb_in 1206 (by decide +kernel) rfl, by decide +kernel⟩, tb_in 1204 (by decide +kernel) rfl, tb_in 1205 (by decide +kernel) rfl⟩
theorem okX12_clearLedger : okV mX12_clearLedger 0 := ⟨⟨by decide, tb_in 64 (by decide +kernel) rfl, tb_in 1058 (by decide +kernel) rfl, by decide +kernel⟩, tb_in 1057 (by decide +kernel) rfl, tb_in 11 (by decide +kernel) rfl⟩
theorem okX12_keepState : okV mX12_keepState 0 := ⟨⟨by decide, tb_in 64 (by decide +kernel) rfl, tb_in 1443 (by decide +kernel) rfl, by decide +kernel⟩, tb_in 1442 (by decide +kernel) rfl, tb_in 47 (by decide +kernel) rfl⟩
theorem okX12_isHouse : okV mX12_isHouse 1 := ⟨⟨by decide, tb_in 64 (by decide +kernel) rfl, tb_in 1293 (by decide +kernel) rfl, by decide +kernel⟩, tb_in 1292 (by decide +kernel) rfl, tb_in 23 (by decide +kernel) rfl⟩
theorem okX12_isStreet : okV mX12_isStreet 1 := ⟨⟨by decide, tb_in 64 (by decide +kernel) rfl, tb_in 1306 (by decide +kernel) rfl, by decide +kernel⟩, tb_in 1305 (by decide +kernel) rfl, tb_in 24 (by decide +kernel) rfl⟩
theorem okX12_isNode : okV mX12_isNode 1 := ⟨⟨by decide, tb_in 64 (by decide +kernel) rfl, tb_in 1314 (by decide +kernel) rfl, by decide +kernel⟩, tb_in 1313 (by decide +kernel) rfl, tb_in 25 (by decide +kernel) rfl⟩
theorem okX12_nodeCount : okV mX12_nodeCount 0 := ⟨⟨by decide, tb_in 64 (by decide +kernel) rfl, tb_in 1269 (by decide +kernel) rfl, by decide +kernel⟩, tb_in 1267 (by decide +kernel) rfl, tb_in 1268 (by decide +kernel) rfl⟩
theorem okX12_streetCount : okV mX12_streetCount 0 := ⟨⟨by decide, tb_in 64 (by decide +kernel) rfl, tb_in 1273 (by decide +kernel) rfl, by decide +kernel⟩, tb_in 1271 (by decide +kernel) rfl, tb_in 1272 (by decide +kernel) rfl⟩
theorem okX12_houseCount : okV mX12_houseCount 0 := ⟨⟨by decide, tb_in 64 (by decide +kernel) rfl, tb_in 1277 (by decide +kernel) rfl, by decide +kernel⟩, tb_in 1275 (by decide +kernel) rfl, tb_in 1276 (by decide +kernel) rfl⟩
theorem okX12_capacity : okV mX12_capacity 0 := ⟨⟨by decide, tb_in 64 (by decide +kernel) rfl, tb_in 1281 (by decide +kernel) rfl, by decide +kernel⟩, tb_in 1279 (by decide +kernel) rfl, tb_in 1280 (by decide +kernel) rfl⟩
theorem okX12_day : okV mX12_day 0 := ⟨⟨by decide, tb_in 64 (by decide +kernel) rfl, tb_in 1285 (by decide +kernel) rfl, by decide +kernel⟩, tb_in 1283 (by decide +kernel) rfl, tb_in 1284 (by decide +kernel) rfl⟩
theorem okX12_houseNode : okV mX12_houseNode 1 := ⟨⟨by decide, tb_in 64 (by decide +kernel) rfl, tb_in 1289 (by decide +kernel) rfl, by decide +kernel⟩, tb_in 1287 (by decide +kernel) rfl, tb_in 1288 (by decide +kernel) rfl⟩
theorem okX12_order : okV mX12_order 2 := ⟨⟨by decide, tb_in 64 (by decide +kernel) rfl, tb_in 1297 (by decide +kernel) rfl, by decide +kernel⟩, tb_in 1295 (by decide +kernel) rfl, tb_in 1296 (by decide +kernel) rfl⟩
theorem okX12_through : okV mX12_through 2 := ⟨⟨by decide, tb_in 64 (by decide +kernel) rfl, tb_in 1328 (by decide +kernel) rfl, by decide +kernel⟩, tb_in 1327 (by decide +kernel) rfl, tb_in 28 (by decide +kernel) rfl⟩
theorem okX12_layArrivals : okV mX12_layArrivals 2 := ⟨⟨by decide, tb_in 64 (by decide +kernel) rfl, tb_in 1323 (by decide +kernel) rfl, by decide +kernel⟩, tb_in 1322 (by decide +kernel) rfl, tb_in 27 (by decide +kernel) rfl⟩
theorem okX12_arrivalOf : okV mX12_arrivalOf 3 := ⟨⟨by decide, tb_in 64 (by decide +kernel) rfl, tb_in 1319 (by decide +kernel) rfl, by decide +kernel⟩, tb_in 1318 (by decide +kernel) rfl, tb_in 26 (by decide +kernel) rfl⟩
theorem okX12_isOpen : okV mX12_isOpen 2 := ⟨⟨by decide, tb_in 64 (by decide +kernel) rfl, tb_in 1302 (by decide +kernel) rfl, by decide +kernel⟩, tb_in 1300 (by decide +kernel) rfl, tb_in 1301 (by decide +kernel) rfl⟩
theorem okX12_arrival : okV mX12_arrival 3 := ⟨⟨by decide, tb_in 64 (by decide +kernel) rfl, tb_in 1310 (by decide +kernel) rfl, by decide +kernel⟩, tb_in 1308 (by decide +kernel) rfl, tb_in 1309 (by decide +kernel) rfl⟩
theorem okX12_demandOf : okV mX12_demandOf 1 := ⟨⟨by decide, tb_in 64 (by decide +kernel) rfl, tb_in 1337 (by decide +kernel) rfl, by decide +kernel⟩, tb_in 1336 (by decide +kernel) rfl, tb_in 29 (by decide +kernel) rfl⟩
theorem okX12_demand : okV mX12_demand 1 := ⟨⟨by decide, tb_in 64 (by decide +kernel) rfl, tb_in 1333 (by decide +kernel) rfl, by decide +kernel⟩, tb_in 1331 (by decide +kernel) rfl, tb_in 1332 (by decide +kernel) rfl⟩
theorem okX12_totalOf : okV mX12_totalOf 0 := ⟨⟨by decide, tb_in 64 (by decide +kernel) rfl, tb_in 1345 (by decide +kernel) rfl, by decide +kernel⟩, tb_in 1344 (by decide +kernel) rfl, tb_in 30 (by decide +kernel) rfl⟩
theorem okX12_totalDemand : okV mX12_totalDemand 0 := ⟨⟨by decide, tb_in 64 (by decide +kernel) rfl, tb_in 1341 (by decide +kernel) rfl, by decide +kernel⟩, tb_in 1339 (by decide +kernel) rfl, tb_in 1340 (by decide +kernel) rfl⟩
theorem okX12_stopSet : okV mX12_stopSet 0 := ⟨⟨by decide, tb_in 64 (by decide +kernel) rfl, tb_in 1353 (by decide +kernel) rfl, by decide +kernel⟩, tb_in 1352 (by decide +kernel) rfl, tb_in 31 (by decide +kernel) rfl⟩
theorem okX12_stops : okV mX12_stops 0 := ⟨⟨by decide, tb_in 64 (by decide +kernel) rfl, tb_in 1349 (by decide +kernel) rfl, by decide +kernel⟩, tb_in 1347 (by decide +kernel) rfl, tb_in 1348 (by decide +kernel) rfl⟩
theorem okX12_habitOf : okV mX12_habitOf 2 := ⟨⟨by decide, tb_in 64 (by decide +kernel) rfl, tb_in 1361 (by decide +kernel) rfl, by decide +kernel⟩, tb_in 1360 (by decide +kernel) rfl, tb_in 32 (by decide +kernel) rfl⟩
theorem okX12_habit : okV mX12_habit 2 := ⟨⟨by decide, tb_in 64 (by decide +kernel) rfl, tb_in 1357 (by decide +kernel) rfl, by decide +kernel⟩, tb_in 1355 (by decide +kernel) rfl, tb_in 1356 (by decide +kernel) rfl⟩
theorem okX12_layByNumber : okV mX12_layByNumber 0 := ⟨⟨by decide, tb_in 64 (by decide +kernel) rfl, tb_in 1410 (by decide +kernel) rfl, by decide +kernel⟩, tb_in 1409 (by decide +kernel) rfl, tb_in 40 (by decide +kernel) rfl⟩
theorem okX12_layHorse : okV mX12_layHorse 0 := ⟨⟨by decide, tb_in 64 (by decide +kernel) rfl, tb_in 1369 (by decide +kernel) rfl, by decide +kernel⟩, tb_in 1368 (by decide +kernel) rfl, tb_in 33 (by decide +kernel) rfl⟩
theorem okX12_stayAt : okV mX12_stayAt 1 := ⟨⟨by decide, tb_in 64 (by decide +kernel) rfl, tb_in 1389 (by decide +kernel) rfl, by decide +kernel⟩, tb_in 1388 (by decide +kernel) rfl, tb_in 37 (by decide +kernel) rfl⟩
theorem okX12_bestEnd : okV mX12_bestEnd 3 := ⟨⟨by decide, tb_in 64 (by decide +kernel) rfl, tb_in 1385 (by decide +kernel) rfl, by decide +kernel⟩, tb_in 1384 (by decide +kernel) rfl, tb_in 36 (by decide +kernel) rfl⟩
theorem okX12_goesOn : okV mX12_goesOn 3 := ⟨⟨by decide, tb_in 64 (by decide +kernel) rfl, tb_in 1393 (by decide +kernel) rfl, by decide +kernel⟩, tb_in 1392 (by decide +kernel) rfl, tb_in 38 (by decide +kernel) rfl⟩
theorem okX12_layFastest : okV mX12_layFastest 0 := ⟨⟨by decide, tb_in 64 (by decide +kernel) rfl, tb_in 1381 (by decide +kernel) rfl, by decide +kernel⟩, tb_in 1380 (by decide +kernel) rfl, tb_in 35 (by decide +kernel) rfl⟩
theorem okX12_stopAt : okV mX12_stopAt 1 := ⟨⟨by decide, tb_in 64 (by decide +kernel) rfl, tb_in 1373 (by decide +kernel) rfl, by decide +kernel⟩, tb_in 1372 (by decide +kernel) rfl, tb_in 34 (by decide +kernel) rfl⟩
theorem okX12_horseStop : okV mX12_horseStop 1 := ⟨⟨by decide, tb_in 64 (by decide +kernel) rfl, tb_in 1365 (by decide +kernel) rfl, by decide +kernel⟩, tb_in 1363 (by decide +kernel) rfl, tb_in 1364 (by decide +kernel) rfl⟩
theorem okX12_fastestFinish : okV mX12_fastestFinish 0 := ⟨⟨by decide, tb_in 64 (by decide +kernel) rfl, tb_in 1377 (by decide +kernel) rfl, by decide +kernel⟩, tb_in 1375 (by decide +kernel) rfl, tb_in 1376 (by decide +kernel) rfl⟩
theorem okX12_fastestStop : okV mX12_fastestStop 1 := ⟨⟨by decide, tb_in 64 (by decide +kernel) rfl, tb_in 1397 (by decide +kernel) rfl, by decide +kernel⟩, tb_in 1395 (by decide +kernel) rfl, tb_in 1396 (by decide +kernel) rfl⟩
theorem okX12_layOrder : okV mX12_layOrder 1 := ⟨⟨by decide, tb_in 64 (by decide +kernel) rfl, tb_in 1406 (by decide +kernel) rfl, by decide +kernel⟩, tb_in 1405 (by decide +kernel) rfl, tb_in 39 (by decide +kernel) rfl⟩
theorem okX12_stillWanted : okV mX12_stillWanted 0 := ⟨⟨by decide, tb_in 64 (by decide +kernel) rfl, tb_in 1430 (by decide +kernel) rfl, by decide +kernel⟩, tb_in 1429 (by decide +kernel) rfl, tb_in 45 (by decide +kernel) rfl⟩
theorem okX12_reload : okV mX12_reload 1 := ⟨⟨by decide, tb_in 64 (by decide +kernel) rfl, tb_in 1426 (by decide +kernel) rfl, by decide +kernel⟩, tb_in 1425 (by decide +kernel) rfl, tb_in 44 (by decide +kernel) rfl⟩
theorem okX12_visit : okV mX12_visit 1 := ⟨⟨by decide, tb_in 64 (by decide +kernel) rfl, tb_in 1434 (by decide +kernel) rfl, by decide +kernel⟩, tb_in 1433 (by decide +kernel) rfl, tb_in 46 (by decide +kernel) rfl⟩
theorem okX12_visitStop : okV mX12_visitStop 1 := ⟨⟨by decide, tb_in 64 (by decide +kernel) rfl, tb_in 1422 (by decide +kernel) rfl, by decide +kernel⟩, tb_in 1421 (by decide +kernel) rfl, tb_in 43 (by decide +kernel) rfl⟩
theorem okX12_leaveOut : okV mX12_leaveOut 1 := ⟨⟨by decide, tb_in 64 (by decide +kernel) rfl, tb_in 1418 (by decide +kernel) rfl, by decide +kernel⟩, tb_in 1417 (by decide +kernel) rfl, tb_in 42 (by decide +kernel) rfl⟩
theorem okX12_playRound : okV mX12_playRound 0 := ⟨⟨by decide, tb_in 64 (by decide +kernel) rfl, tb_in 1414 (by decide +kernel) rfl, by decide +kernel⟩, tb_in 1413 (by decide +kernel) rfl, tb_in 41 (by decide +kernel) rfl⟩
theorem okX12_previewFinish : okV mX12_previewFinish 1 := ⟨⟨by decide, tb_in 64 (by decide +kernel) rfl, tb_in 1401 (by decide +kernel) rfl, by decide +kernel⟩, tb_in 1399 (by decide +kernel) rfl, tb_in 1400 (by decide +kernel) rfl⟩
theorem okX12_learn : okV mX12_learn 2 := ⟨⟨by decide, tb_in 64 (by decide +kernel) rfl, tb_in 1447 (by decide +kernel) rfl, by decide +kernel⟩, tb_in 1446 (by decide +kernel) rfl, tb_in 48 (by decide +kernel) rfl⟩
theorem okX12_carryOut : okV mX12_carryOut 1 := ⟨⟨by decide, tb_in 64 (by decide +kernel) rfl, tb_in 1439 (by decide +kernel) rfl, by decide +kernel⟩, tb_in 1437 (by decide +kernel) rfl, tb_in 1438 (by decide +kernel) rfl⟩
theorem okX12_bottlesAt : okV mX12_bottlesAt 1 := ⟨⟨by decide, tb_in 64 (by decide +kernel) rfl, tb_in 1451 (by decide +kernel) rfl, by decide +kernel⟩, tb_in 1449 (by decide +kernel) rfl, tb_in 1450 (by decide +kernel) rfl⟩
theorem okX12_delivered : okV mX12_delivered 1 := ⟨⟨by decide, tb_in 64 (by decide +kernel) rfl, tb_in 1455 (by decide +kernel) rfl, by decide +kernel⟩, tb_in 1453 (by decide +kernel) rfl, tb_in 1454 (by decide +kernel) rfl⟩
theorem okX12_returned : okV mX12_returned 1 := ⟨⟨by decide, tb_in 64 (by decide +kernel) rfl, tb_in 1459 (by decide +kernel) rfl, by decide +kernel⟩, tb_in 1457 (by decide +kernel) rfl, tb_in 1458 (by decide +kernel) rfl⟩
theorem okX12_broken : okV mX12_broken 1 := ⟨⟨by decide, tb_in 64 (by decide +kernel) rfl, tb_in 1463 (by decide +kernel) rfl, by decide +kernel⟩, tb_in 1461 (by decide +kernel) rfl, tb_in 1462 (by decide +kernel) rfl⟩
theorem okX12_bill : okV mX12_bill 1 := ⟨⟨by decide, tb_in 64 (by decide +kernel) rfl, tb_in 1467 (by decide +kernel) rfl, by decide +kernel⟩, tb_in 1465 (by decide +kernel) rfl, tb_in 1466 (by decide +kernel) rfl⟩
theorem okX12_bottlesOut : okV mX12_bottlesOut 0 := ⟨⟨by decide, tb_in 64 (by decide +kernel) rfl, tb_in 1471 (by decide +kernel) rfl, by decide +kernel⟩, tb_in 1469 (by decide +kernel) rfl, tb_in 1470 (by decide +kernel) rfl⟩
theorem okX12_finish : okV mX12_finish 0 := ⟨⟨by decide, tb_in 64 (by decide +kernel) rfl, tb_in 1475 (by decide +kernel) rfl, by decide +kernel⟩, tb_in 1473 (by decide +kernel) rfl, tb_in 1474 (by decide +kernel) rfl⟩
theorem okX12_visitCount : okV mX12_visitCount 0 := ⟨⟨by decide, tb_in 64 (by decide +kernel) rfl, tb_in 1479 (by decide +kernel) rfl, by decide +kernel⟩, tb_in 1477 (by decide +kernel) rfl, tb_in 1478 (by decide +kernel) rfl⟩
theorem okX12_recordOf : okV mX12_recordOf 2 := ⟨⟨by decide, tb_in 64 (by decide +kernel) rfl, tb_in 1487 (by decide +kernel) rfl, by decide +kernel⟩, tb_in 1486 (by decide +kernel) rfl, tb_in 49 (by decide +kernel) rfl⟩
theorem okX12_visitHouse : okV mX12_visitHouse 1 := ⟨⟨by decide, tb_in 64 (by decide +kernel) rfl, tb_in 1483 (by decide +kernel) rfl, by decide +kernel⟩, tb_in 1481 (by decide +kernel) rfl, tb_in 1482 (by decide +kernel) rfl⟩
theorem okX12_visitMinute : okV mX12_visitMinute 1 := ⟨⟨by decide, tb_in 64 (by decide +kernel) rfl, tb_in 1491 (by decide +kernel) rfl, by decide +kernel⟩, tb_in 1489 (by decide +kernel) rfl, tb_in 1490 (by decide +kernel) rfl⟩
theorem okX12_visitReturned : okV mX12_visitReturned 1 := ⟨⟨by decide, tb_in 64 (by decide +kernel) rfl, tb_in 1495 (by decide +kernel) rfl, by decide +kernel⟩, tb_in 1493 (by decide +kernel) rfl, tb_in 1494 (by decide +kernel) rfl⟩
theorem okX12_reloads : okV mX12_reloads 0 := ⟨⟨by decide, tb_in 64 (by decide +kernel) rfl, tb_in 1499 (by decide +kernel) rfl, by decide +kernel⟩, tb_in 1497 (by decide +kernel) rfl, tb_in 1498 (by decide +kernel) rfl⟩
theorem okX12_setSkipped : okV mX12_setSkipped 2 := ⟨⟨by decide, tb_in 64 (by decide +kernel) rfl, tb_in 1503 (by decide +kernel) rfl, by decide +kernel⟩, tb_in 1501 (by decide +kernel) rfl, tb_in 1502 (by decide +kernel) rfl⟩
theorem okX12_breakBottles : okV mX12_breakBottles 2 := ⟨⟨by decide, tb_in 64 (by decide +kernel) rfl, tb_in 1507 (by decide +kernel) rfl, by decide +kernel⟩, tb_in 1505 (by decide +kernel) rfl, tb_in 1506 (by decide +kernel) rfl⟩
theorem okX12_exchange : okV mX12_exchange 2 := ⟨⟨by decide, tb_in 64 (by decide +kernel) rfl, tb_in 1516 (by decide +kernel) rfl, by decide +kernel⟩, tb_in 1515 (by decide +kernel) rfl, tb_in 50 (by decide +kernel) rfl⟩
theorem okX12_setOrder : okV mX12_setOrder 3 := ⟨⟨by decide, tb_in 64 (by decide +kernel) rfl, tb_in 1511 (by decide +kernel) rfl, by decide +kernel⟩, tb_in 1509 (by decide +kernel) rfl, tb_in 1510 (by decide +kernel) rfl⟩
theorem okX12_setKeep : okV mX12_setKeep 2 := ⟨⟨by decide, tb_in 64 (by decide +kernel) rfl, tb_in 1520 (by decide +kernel) rfl, by decide +kernel⟩, tb_in 1518 (by decide +kernel) rfl, tb_in 1519 (by decide +kernel) rfl⟩
theorem okX12_setGate : okV mX12_setGate 3 := ⟨⟨by decide, tb_in 64 (by decide +kernel) rfl, tb_in 1524 (by decide +kernel) rfl, by decide +kernel⟩, tb_in 1522 (by decide +kernel) rfl, tb_in 1523 (by decide +kernel) rfl⟩
theorem okX12_undo : okV mX12_undo 0 := ⟨⟨by decide, tb_in 64 (by decide +kernel) rfl, tb_in 1530 (by decide +kernel) rfl, by decide +kernel⟩, tb_in 1528 (by decide +kernel) rfl, tb_in 1529 (by decide +kernel) rfl⟩
theorem okX12_saveSnapshot : okV mX12_saveSnapshot 1 := ⟨⟨by decide, tb_in 64 (by decide +kernel) rfl, tb_in 1534 (by decide +kernel) rfl, by decide +kernel⟩, tb_in 1532 (by decide +kernel) rfl, tb_in 1533 (by decide +kernel) rfl⟩
theorem okX12_restoreSnapshot : okV mX12_restoreSnapshot 1 := ⟨⟨by decide, tb_in 64 (by decide +kernel) rfl, tb_in 1538 (by decide +kernel) rfl, by decide +kernel⟩, tb_in 1536 (by decide +kernel) rfl, tb_in 1537 (by decide +kernel) rfl⟩
theorem okJ0_length_8abf5 : okV mJ0_length_8abf5 0 := ⟨⟨by decide, tb_in 66 (by decide +kernel) rfl, tb_in 557 (by decide +kernel) rfl, by decide +kernel⟩, tb_in 555 (by decide +kernel) rfl, tb_in 556 (by decide +kernel) rfl⟩
theorem okJ0_charAt_5068e : okV mJ0_charAt_5068e 1 := ⟨⟨by decide, tb_in 66 (by decide +kernel) rfl, tb_in 567 (by decide +kernel) rfl, by decide +kernel⟩, tb_in 565 (by decide +kernel) rfl, tb_in 566 (by decide +kernel) rfl⟩
theorem okJ0_coder_7d493 : okV mJ0_coder_7d493 0 := ⟨⟨by decide, tb_in 66 (by decide +kernel) rfl, tb_in 561 (by decide +kernel) rfl, by decide +kernel⟩, tb_in 559 (by decide +kernel) rfl, tb_in 560 (by decide +kernel) rfl⟩
theorem okJ0_isLatin1_aae02 : okV mJ0_isLatin1_aae02 0 := ⟨⟨by decide, tb_in 66 (by decide +kernel) rfl, tb_in 571 (by decide +kernel) rfl, by decide +kernel⟩, tb_in 569 (by decide +kernel) rfl, tb_in 570 (by decide +kernel) rfl⟩
theorem okJ0_checkIndex_df160 : okS mJ0_checkIndex_df160 2 := ⟨⟨by decide, tb_in 66 (by decide +kernel) rfl, tb_in 577 (by decide +kernel) rfl, by decide +kernel⟩, tb_in 576 (by decide +kernel) rfl⟩
theorem okJ1_charAt_3b067 : okS mJ1_charAt_3b067 2 := ⟨⟨by decide, tb_in 67 (by decide +kernel) rfl, tb_in 574 (by decide +kernel) rfl, by decide +kernel⟩, tb_in 573 (by decide +kernel) rfl⟩
theorem okJ7_fill_53178 : okS mJ7_fill_53178 2 := ⟨⟨by decide, tb_in 71 (by decide +kernel) rfl, tb_in 736 (by decide +kernel) rfl, by decide +kernel⟩, tb_in 735 (by decide +kernel) rfl⟩
theorem okJ3_checkIndex_8e157 : okS mJ3_checkIndex_8e157 3 := ⟨⟨by decide, tb_in 68 (by decide +kernel) rfl, tb_in 582 (by decide +kernel) rfl, by decide +kernel⟩, tb_in 581 (by decide +kernel) rfl⟩
theorem w_up {μ : mD} {n : Nat} {Rf : MR} {pc : Nat} {ls : List (Option Value)} {st : List Value} {I' : MI} {Q : Option Value → MI → Prop} (K : ∀ I1, I1 = I' → WP μ n Rf pc ls st I1 Q) : WP μ n Rf pc ls st I' Q := K _ rfl
theorem w_top {μ : mD} {n : Nat} {Rf : MR} {pc : Nat} {ls : List (Option Value)} {st : List Value} {I : MI} {Q : Option Value → MI → Prop} {e : Int32} (K : ∀ x, x = e → WP μ n Rf pc ls (.int x :: st) I Q) : WP μ n Rf pc ls (.int e :: st) I Q := K _ rfl
theorem wc_i {μ' : mD} {vs : List Value} {I : MI} {Q1 : Int32 → MI → Prop} {Q2 : Option Value → MI → Prop} (h : Wi μ' vs I Q1) (k : ∀ r I1, Q1 r I1 → Q2 (some (.int r)) I1) : WPm μ' 286 Rf0 vs I Q2 := WP.mono h (fun v I1 hv => by obtain ⟨r, rfl, h⟩ := hv; exact k r I1 h)
theorem wc_v {μ' : mD} {vs : List Value} {I : MI} {Q1 : MI → Prop} {Q2 : Option Value → MI → Prop} (h : Wv μ' vs I Q1) (k : ∀ I1, Q1 I1 → Q2 none I1) : WPm μ' 286 Rf0 vs I Q2 := WP.mono h (fun v I1 hv => by obtain ⟨rfl, h⟩ := hv; exact k I1 h)
theorem wc_r {μ' : mD} {vs : List Value} {I : MI} {Q1 : Nat → MI → Prop} {Q2 : Option Value → MI → Prop} (h : Wr μ' vs I Q1) (k : ∀ r I1, Q1 r I1 → Q2 (some (.ref r)) I1) : WPm μ' 286 Rf0 vs I Q2 := WP.mono h (fun v I1 hv => by obtain ⟨r, rfl, h⟩ := hv; exact k r I1 h)
