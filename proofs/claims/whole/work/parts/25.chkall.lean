theorem pkb_0 : ∀ y, 0 ≤ y → y < 20 → ∀ pc, pc < pt_cz y → pt_chk y pc = true := by
  intro y h1 h2 pc h
  rcases (show y = 0 ∨ y = 1 ∨ y = 2 ∨ y = 3 ∨ y = 4 ∨ y = 5 ∨ y = 6 ∨ y = 7 ∨ y = 8 ∨ y = 9 ∨ y = 10 ∨ y = 11 ∨ y = 12 ∨ y = 13 ∨ y = 14 ∨ y = 15 ∨ y = 16 ∨ y = 17 ∨ y = 18 ∨ y = 19 by omega) with rfl | rfl | rfl | rfl | rfl | rfl | rfl | rfl | rfl | rfl | rfl | rfl | rfl | rfl | rfl | rfl | rfl | rfl | rfl | rfl
  · exact pkm_0 pc h
  · exact pkm_1 pc h
  · exact pkm_2 pc h
  · exact pkm_3 pc h
  · exact pkm_4 pc h
  · exact pkm_5 pc h
  · exact pkm_6 pc h
  · exact pkm_7 pc h
  · exact pkm_8 pc h
  · exact pkm_9 pc h
  · exact pkm_10 pc h
  · exact pkm_11 pc h
  · exact pkm_12 pc h
  · exact pkm_13 pc h
  · exact pkm_14 pc h
  · exact pkm_15 pc h
  · exact pkm_16 pc h
  · exact pkm_17 pc h
  · exact pkm_18 pc h
  · exact pkm_19 pc h
theorem pkb_1 : ∀ y, 20 ≤ y → y < 40 → ∀ pc, pc < pt_cz y → pt_chk y pc = true := by
  intro y h1 h2 pc h
  rcases (show y = 20 ∨ y = 21 ∨ y = 22 ∨ y = 23 ∨ y = 24 ∨ y = 25 ∨ y = 26 ∨ y = 27 ∨ y = 28 ∨ y = 29 ∨ y = 30 ∨ y = 31 ∨ y = 32 ∨ y = 33 ∨ y = 34 ∨ y = 35 ∨ y = 36 ∨ y = 37 ∨ y = 38 ∨ y = 39 by omega) with rfl | rfl | rfl | rfl | rfl | rfl | rfl | rfl | rfl | rfl | rfl | rfl | rfl | rfl | rfl | rfl | rfl | rfl | rfl | rfl
  · exact pkm_20 pc h
  · exact pkm_21 pc h
  · exact pkm_22 pc h
  · exact pkm_23 pc h
  · exact pkm_24 pc h
  · exact pkm_25 pc h
  · exact pkm_26 pc h
  · exact pkm_27 pc h
  · exact pkm_28 pc h
  · exact pkm_29 pc h
  · exact pkm_30 pc h
  · exact pkm_31 pc h
  · exact pkm_32 pc h
  · exact pkm_33 pc h
  · exact pkm_34 pc h
  · exact pkm_35 pc h
  · exact pkm_36 pc h
  · exact pkm_37 pc h
  · exact pkm_38 pc h
  · exact pkm_39 pc h
theorem pkb_2 : ∀ y, 40 ≤ y → y < 60 → ∀ pc, pc < pt_cz y → pt_chk y pc = true := by
  intro y h1 h2 pc h
  rcases (show y = 40 ∨ y = 41 ∨ y = 42 ∨ y = 43 ∨ y = 44 ∨ y = 45 ∨ y = 46 ∨ y = 47 ∨ y = 48 ∨ y = 49 ∨ y = 50 ∨ y = 51 ∨ y = 52 ∨ y = 53 ∨ y = 54 ∨ y = 55 ∨ y = 56 ∨ y = 57 ∨ y = 58 ∨ y = 59 by omega) with rfl | rfl | rfl | rfl | rfl | rfl | rfl | rfl | rfl | rfl | rfl | rfl | rfl | rfl | rfl | rfl | rfl | rfl | rfl | rfl
  · exact pkm_40 pc h
  · exact pkm_41 pc h
  · exact pkm_42 pc h
  · exact pkm_43 pc h
  · exact pkm_44 pc h
  · exact pkm_45 pc h
  · exact pkm_46 pc h
  · exact pkm_47 pc h
  · exact pkm_48 pc h
  · exact pkm_49 pc h
  · exact pkm_50 pc h
  · exact pkm_51 pc h
  · exact pkm_52 pc h
  · exact pkm_53 pc h
  · exact pkm_54 pc h
  · exact pkm_55 pc h
  · exact pkm_56 pc h
  · exact pkm_57 pc h
  · exact pkm_58 pc h
  · exact pkm_59 pc h
theorem pkb_3 : ∀ y, 60 ≤ y → y < 80 → ∀ pc, pc < pt_cz y → pt_chk y pc = true := by
  intro y h1 h2 pc h
  rcases (show y = 60 ∨ y = 61 ∨ y = 62 ∨ y = 63 ∨ y = 64 ∨ y = 65 ∨ y = 66 ∨ y = 67 ∨ y = 68 ∨ y = 69 ∨ y = 70 ∨ y = 71 ∨ y = 72 ∨ y = 73 ∨ y = 74 ∨ y = 75 ∨ y = 76 ∨ y = 77 ∨ y = 78 ∨ y = 79 by omega) with rfl | rfl | rfl | rfl | rfl | rfl | rfl | rfl | rfl | rfl | rfl | rfl | rfl | rfl | rfl | rfl | rfl | rfl | rfl | rfl
  · exact pkm_60 pc h
  · exact pkm_61 pc h
  · exact pkm_62 pc h
  · exact pkm_63 pc h
  · exact pkm_64 pc h
  · exact pkm_65 pc h
  · exact pkm_66 pc h
  · exact pkm_67 pc h
  · exact pkm_68 pc h
  · exact pkm_69 pc h
  · exact pkm_70 pc h
  · exact pkm_71 pc h
  · exact pkm_72 pc h
  · exact pkm_73 pc h
  · exact pkm_74 pc h
  · exact pkm_75 pc h
  · exact pkm_76 pc h
  · exact pkm_77 pc h
  · exact pkm_78 pc h
  · exact pkm_79 pc h
theorem pkb_4 : ∀ y, 80 ≤ y → y < 100 → ∀ pc, pc < pt_cz y → pt_chk y pc = true := by
  intro y h1 h2 pc h
  rcases (show y = 80 ∨ y = 81 ∨ y = 82 ∨ y = 83 ∨ y = 84 ∨ y = 85 ∨ y = 86 ∨ y = 87 ∨ y = 88 ∨ y = 89 ∨ y = 90 ∨ y = 91 ∨ y = 92 ∨ y = 93 ∨ y = 94 ∨ y = 95 ∨ y = 96 ∨ y = 97 ∨ y = 98 ∨ y = 99 by omega) with rfl | rfl | rfl | rfl | rfl | rfl | rfl | rfl | rfl | rfl | rfl | rfl | rfl | rfl | rfl | rfl | rfl | rfl | rfl | rfl
  · exact pkm_80 pc h
  · exact pkm_81 pc h
  · exact pkm_82 pc h
  · exact pkm_83 pc h
  · exact pkm_84 pc h
  · exact pkm_85 pc h
  · exact pkm_86 pc h
  · exact pkm_87 pc h
  · exact pkm_88 pc h
  · exact pkm_89 pc h
  · exact pkm_90 pc h
  · exact pkm_91 pc h
  · exact pkm_92 pc h
  · exact pkm_93 pc h
  · exact pkm_94 pc h
  · exact pkm_95 pc h
  · exact pkm_96 pc h
  · exact pkm_97 pc h
  · exact pkm_98 pc h
  · exact pkm_99 pc h
theorem pkb_5 : ∀ y, 100 ≤ y → y < 120 → ∀ pc, pc < pt_cz y → pt_chk y pc = true := by
  intro y h1 h2 pc h
  rcases (show y = 100 ∨ y = 101 ∨ y = 102 ∨ y = 103 ∨ y = 104 ∨ y = 105 ∨ y = 106 ∨ y = 107 ∨ y = 108 ∨ y = 109 ∨ y = 110 ∨ y = 111 ∨ y = 112 ∨ y = 113 ∨ y = 114 ∨ y = 115 ∨ y = 116 ∨ y = 117 ∨ y = 118 ∨ y = 119 by omega) with rfl | rfl | rfl | rfl | rfl | rfl | rfl | rfl | rfl | rfl | rfl | rfl | rfl | rfl | rfl | rfl | rfl | rfl | rfl | rfl
  · exact pkm_100 pc h
  · exact pkm_101 pc h
  · exact pkm_102 pc h
  · exact pkm_103 pc h
  · exact pkm_104 pc h
  · exact pkm_105 pc h
  · exact pkm_106 pc h
  · exact pkm_107 pc h
  · exact pkm_108 pc h
  · exact pkm_109 pc h
  · exact pkm_110 pc h
  · exact pkm_111 pc h
  · exact pkm_112 pc h
  · exact pkm_113 pc h
  · exact pkm_114 pc h
  · exact pkm_115 pc h
  · exact pkm_116 pc h
  · exact pkm_117 pc h
  · exact pkm_118 pc h
  · exact pkm_119 pc h
theorem pkb_6 : ∀ y, 120 ≤ y → y < 140 → ∀ pc, pc < pt_cz y → pt_chk y pc = true := by
  intro y h1 h2 pc h
  rcases (show y = 120 ∨ y = 121 ∨ y = 122 ∨ y = 123 ∨ y = 124 ∨ y = 125 ∨ y = 126 ∨ y = 127 ∨ y = 128 ∨ y = 129 ∨ y = 130 ∨ y = 131 ∨ y = 132 ∨ y = 133 ∨ y = 134 ∨ y = 135 ∨ y = 136 ∨ y = 137 ∨ y = 138 ∨ y = 139 by omega) with rfl | rfl | rfl | rfl | rfl | rfl | rfl | rfl | rfl | rfl | rfl | rfl | rfl | rfl | rfl | rfl | rfl | rfl | rfl | rfl
  · exact pkm_120 pc h
  · exact pkm_121 pc h
  · exact pkm_122 pc h
  · exact pkm_123 pc h
  · exact pkm_124 pc h
  · exact pkm_125 pc h
  · exact pkm_126 pc h
  · exact pkm_127 pc h
  · exact pkm_128 pc h
  · exact pkm_129 pc h
  · exact pkm_130 pc h
  · exact pkm_131 pc h
  · exact pkm_132 pc h
  · exact pkm_133 pc h
  · exact pkm_134 pc h
  · exact pkm_135 pc h
  · exact pkm_136 pc h
  · exact pkm_137 pc h
  · exact pkm_138 pc h
  · exact pkm_139 pc h
theorem pkb_7 : ∀ y, 140 ≤ y → y < 160 → ∀ pc, pc < pt_cz y → pt_chk y pc = true := by
  intro y h1 h2 pc h
  rcases (show y = 140 ∨ y = 141 ∨ y = 142 ∨ y = 143 ∨ y = 144 ∨ y = 145 ∨ y = 146 ∨ y = 147 ∨ y = 148 ∨ y = 149 ∨ y = 150 ∨ y = 151 ∨ y = 152 ∨ y = 153 ∨ y = 154 ∨ y = 155 ∨ y = 156 ∨ y = 157 ∨ y = 158 ∨ y = 159 by omega) with rfl | rfl | rfl | rfl | rfl | rfl | rfl | rfl | rfl | rfl | rfl | rfl | rfl | rfl | rfl | rfl | rfl | rfl | rfl | rfl
  · exact pkm_140 pc h
  · exact pkm_141 pc h
  · exact pkm_142 pc h
  · exact pkm_143 pc h
  · exact pkm_144 pc h
  · exact pkm_145 pc h
  · exact pkm_146 pc h
  · exact pkm_147 pc h
  · exact pkm_148 pc h
  · exact pkm_149 pc h
  · exact pkm_150 pc h
  · exact pkm_151 pc h
  · exact pkm_152 pc h
  · exact pkm_153 pc h
  · exact pkm_154 pc h
  · exact pkm_155 pc h
  · exact pkm_156 pc h
  · exact pkm_157 pc h
  · exact pkm_158 pc h
  · exact pkm_159 pc h
theorem pkb_8 : ∀ y, 160 ≤ y → y < 180 → ∀ pc, pc < pt_cz y → pt_chk y pc = true := by
  intro y h1 h2 pc h
  rcases (show y = 160 ∨ y = 161 ∨ y = 162 ∨ y = 163 ∨ y = 164 ∨ y = 165 ∨ y = 166 ∨ y = 167 ∨ y = 168 ∨ y = 169 ∨ y = 170 ∨ y = 171 ∨ y = 172 ∨ y = 173 ∨ y = 174 ∨ y = 175 ∨ y = 176 ∨ y = 177 ∨ y = 178 ∨ y = 179 by omega) with rfl | rfl | rfl | rfl | rfl | rfl | rfl | rfl | rfl | rfl | rfl | rfl | rfl | rfl | rfl | rfl | rfl | rfl | rfl | rfl
  · exact pkm_160 pc h
  · exact pkm_161 pc h
  · exact pkm_162 pc h
  · exact pkm_163 pc h
  · exact pkm_164 pc h
  · exact pkm_165 pc h
  · exact pkm_166 pc h
  · exact pkm_167 pc h
  · exact pkm_168 pc h
  · exact pkm_169 pc h
  · exact pkm_170 pc h
  · exact pkm_171 pc h
  · exact pkm_172 pc h
  · exact pkm_173 pc h
  · exact pkm_174 pc h
  · exact pkm_175 pc h
  · exact pkm_176 pc h
  · exact pkm_177 pc h
  · exact pkm_178 pc h
  · exact pkm_179 pc h
theorem pkb_9 : ∀ y, 180 ≤ y → y < 200 → ∀ pc, pc < pt_cz y → pt_chk y pc = true := by
  intro y h1 h2 pc h
  rcases (show y = 180 ∨ y = 181 ∨ y = 182 ∨ y = 183 ∨ y = 184 ∨ y = 185 ∨ y = 186 ∨ y = 187 ∨ y = 188 ∨ y = 189 ∨ y = 190 ∨ y = 191 ∨ y = 192 ∨ y = 193 ∨ y = 194 ∨ y = 195 ∨ y = 196 ∨ y = 197 ∨ y = 198 ∨ y = 199 by omega) with rfl | rfl | rfl | rfl | rfl | rfl | rfl | rfl | rfl | rfl | rfl | rfl | rfl | rfl | rfl | rfl | rfl | rfl | rfl | rfl
  · exact pkm_180 pc h
  · exact pkm_181 pc h
  · exact pkm_182 pc h
  · exact pkm_183 pc h
  · exact pkm_184 pc h
  · exact pkm_185 pc h
  · exact pkm_186 pc h
  · exact pkm_187 pc h
  · exact pkm_188 pc h
  · exact pkm_189 pc h
  · exact pkm_190 pc h
  · exact pkm_191 pc h
  · exact pkm_192 pc h
  · exact pkm_193 pc h
  · exact pkm_194 pc h
  · exact pkm_195 pc h
  · exact pkm_196 pc h
  · exact pkm_197 pc h
  · exact pkm_198 pc h
  · exact pkm_199 pc h
theorem pkb_10 : ∀ y, 200 ≤ y → y < 220 → ∀ pc, pc < pt_cz y → pt_chk y pc = true := by
  intro y h1 h2 pc h
  rcases (show y = 200 ∨ y = 201 ∨ y = 202 ∨ y = 203 ∨ y = 204 ∨ y = 205 ∨ y = 206 ∨ y = 207 ∨ y = 208 ∨ y = 209 ∨ y = 210 ∨ y = 211 ∨ y = 212 ∨ y = 213 ∨ y = 214 ∨ y = 215 ∨ y = 216 ∨ y = 217 ∨ y = 218 ∨ y = 219 by omega) with rfl | rfl | rfl | rfl | rfl | rfl | rfl | rfl | rfl | rfl | rfl | rfl | rfl | rfl | rfl | rfl | rfl | rfl | rfl | rfl
  · exact pkm_200 pc h
  · exact pkm_201 pc h
  · exact pkm_202 pc h
  · exact pkm_203 pc h
  · exact pkm_204 pc h
  · exact pkm_205 pc h
  · exact pkm_206 pc h
  · exact pkm_207 pc h
  · exact pkm_208 pc h
  · exact pkm_209 pc h
  · exact pkm_210 pc h
  · exact pkm_211 pc h
  · exact pkm_212 pc h
  · exact pkm_213 pc h
  · exact pkm_214 pc h
  · exact pkm_215 pc h
  · exact pkm_216 pc h
  · exact pkm_217 pc h
  · exact pkm_218 pc h
  · exact pkm_219 pc h
theorem pkb_11 : ∀ y, 220 ≤ y → y < 240 → ∀ pc, pc < pt_cz y → pt_chk y pc = true := by
  intro y h1 h2 pc h
  rcases (show y = 220 ∨ y = 221 ∨ y = 222 ∨ y = 223 ∨ y = 224 ∨ y = 225 ∨ y = 226 ∨ y = 227 ∨ y = 228 ∨ y = 229 ∨ y = 230 ∨ y = 231 ∨ y = 232 ∨ y = 233 ∨ y = 234 ∨ y = 235 ∨ y = 236 ∨ y = 237 ∨ y = 238 ∨ y = 239 by omega) with rfl | rfl | rfl | rfl | rfl | rfl | rfl | rfl | rfl | rfl | rfl | rfl | rfl | rfl | rfl | rfl | rfl | rfl | rfl | rfl
  · exact pkm_220 pc h
  · exact pkm_221 pc h
  · exact pkm_222 pc h
  · exact pkm_223 pc h
  · exact pkm_224 pc h
  · exact pkm_225 pc h
  · exact pkm_226 pc h
  · exact pkm_227 pc h
  · exact pkm_228 pc h
  · exact pkm_229 pc h
  · exact pkm_230 pc h
  · exact pkm_231 pc h
  · exact pkm_232 pc h
  · exact pkm_233 pc h
  · exact pkm_234 pc h
  · exact pkm_235 pc h
  · exact pkm_236 pc h
  · exact pkm_237 pc h
  · exact pkm_238 pc h
  · exact pkm_239 pc h
theorem pkb_12 : ∀ y, 240 ≤ y → y < 260 → ∀ pc, pc < pt_cz y → pt_chk y pc = true := by
  intro y h1 h2 pc h
  rcases (show y = 240 ∨ y = 241 ∨ y = 242 ∨ y = 243 ∨ y = 244 ∨ y = 245 ∨ y = 246 ∨ y = 247 ∨ y = 248 ∨ y = 249 ∨ y = 250 ∨ y = 251 ∨ y = 252 ∨ y = 253 ∨ y = 254 ∨ y = 255 ∨ y = 256 ∨ y = 257 ∨ y = 258 ∨ y = 259 by omega) with rfl | rfl | rfl | rfl | rfl | rfl | rfl | rfl | rfl | rfl | rfl | rfl | rfl | rfl | rfl | rfl | rfl | rfl | rfl | rfl
  · exact pkm_240 pc h
  · exact pkm_241 pc h
  · exact pkm_242 pc h
  · exact pkm_243 pc h
  · exact pkm_244 pc h
  · exact pkm_245 pc h
  · exact pkm_246 pc h
  · exact pkm_247 pc h
  · exact pkm_248 pc h
  · exact pkm_249 pc h
  · exact pkm_250 pc h
  · exact pkm_251 pc h
  · exact pkm_252 pc h
  · exact pkm_253 pc h
  · exact pkm_254 pc h
  · exact pkm_255 pc h
  · exact pkm_256 pc h
  · exact pkm_257 pc h
  · exact pkm_258 pc h
  · exact pkm_259 pc h
theorem pkb_13 : ∀ y, 260 ≤ y → y < 280 → ∀ pc, pc < pt_cz y → pt_chk y pc = true := by
  intro y h1 h2 pc h
  rcases (show y = 260 ∨ y = 261 ∨ y = 262 ∨ y = 263 ∨ y = 264 ∨ y = 265 ∨ y = 266 ∨ y = 267 ∨ y = 268 ∨ y = 269 ∨ y = 270 ∨ y = 271 ∨ y = 272 ∨ y = 273 ∨ y = 274 ∨ y = 275 ∨ y = 276 ∨ y = 277 ∨ y = 278 ∨ y = 279 by omega) with rfl | rfl | rfl | rfl | rfl | rfl | rfl | rfl | rfl | rfl | rfl | rfl | rfl | rfl | rfl | rfl | rfl | rfl | rfl | rfl
  · exact pkm_260 pc h
  · exact pkm_261 pc h
  · exact pkm_262 pc h
  · exact pkm_263 pc h
  · exact pkm_264 pc h
  · exact pkm_265 pc h
  · exact pkm_266 pc h
  · exact pkm_267 pc h
  · exact pkm_268 pc h
  · exact pkm_269 pc h
  · exact pkm_270 pc h
  · exact pkm_271 pc h
  · exact pkm_272 pc h
  · exact pkm_273 pc h
  · exact pkm_274 pc h
  · exact pkm_275 pc h
  · exact pkm_276 pc h
  · exact pkm_277 pc h
  · exact pkm_278 pc h
  · exact pkm_279 pc h
theorem pkb_14 : ∀ y, 280 ≤ y → y < 300 → ∀ pc, pc < pt_cz y → pt_chk y pc = true := by
  intro y h1 h2 pc h
  rcases (show y = 280 ∨ y = 281 ∨ y = 282 ∨ y = 283 ∨ y = 284 ∨ y = 285 ∨ y = 286 ∨ y = 287 ∨ y = 288 ∨ y = 289 ∨ y = 290 ∨ y = 291 ∨ y = 292 ∨ y = 293 ∨ y = 294 ∨ y = 295 ∨ y = 296 ∨ y = 297 ∨ y = 298 ∨ y = 299 by omega) with rfl | rfl | rfl | rfl | rfl | rfl | rfl | rfl | rfl | rfl | rfl | rfl | rfl | rfl | rfl | rfl | rfl | rfl | rfl | rfl
  · exact pkm_280 pc h
  · exact pkm_281 pc h
  · exact pkm_282 pc h
  · exact pkm_283 pc h
  · exact pkm_284 pc h
  · exact pkm_285 pc h
  · exact pkm_286 pc h
  · exact pkm_287 pc h
  · exact pkm_288 pc h
  · exact pkm_289 pc h
  · exact pkm_290 pc h
  · exact pkm_291 pc h
  · exact pkm_292 pc h
  · exact pkm_293 pc h
  · exact pkm_294 pc h
  · exact pkm_295 pc h
  · exact pkm_296 pc h
  · exact pkm_297 pc h
  · exact pkm_298 pc h
  · exact pkm_299 pc h
theorem pkb_15 : ∀ y, 300 ≤ y → y < 318 → ∀ pc, pc < pt_cz y → pt_chk y pc = true := by
  intro y h1 h2 pc h
  rcases (show y = 300 ∨ y = 301 ∨ y = 302 ∨ y = 303 ∨ y = 304 ∨ y = 305 ∨ y = 306 ∨ y = 307 ∨ y = 308 ∨ y = 309 ∨ y = 310 ∨ y = 311 ∨ y = 312 ∨ y = 313 ∨ y = 314 ∨ y = 315 ∨ y = 316 ∨ y = 317 by omega) with rfl | rfl | rfl | rfl | rfl | rfl | rfl | rfl | rfl | rfl | rfl | rfl | rfl | rfl | rfl | rfl | rfl | rfl
  · exact pkm_300 pc h
  · exact pkm_301 pc h
  · exact pkm_302 pc h
  · exact pkm_303 pc h
  · exact pkm_304 pc h
  · exact pkm_305 pc h
  · exact pkm_306 pc h
  · exact pkm_307 pc h
  · exact pkm_308 pc h
  · exact pkm_309 pc h
  · exact pkm_310 pc h
  · exact pkm_311 pc h
  · exact pkm_312 pc h
  · exact pkm_313 pc h
  · exact pkm_314 pc h
  · exact pkm_315 pc h
  · exact pkm_316 pc h
  · exact pkm_317 pc h
theorem pt_chk_all {y pc : Nat} (hy : y < 318) (h : pc < pt_cz y) : pt_chk y pc = true := by
  by_cases h20 : y < 20
  · exact pkb_0 y (by omega) h20 pc h
  by_cases h40 : y < 40
  · exact pkb_1 y (by omega) h40 pc h
  by_cases h60 : y < 60
  · exact pkb_2 y (by omega) h60 pc h
  by_cases h80 : y < 80
  · exact pkb_3 y (by omega) h80 pc h
  by_cases h100 : y < 100
  · exact pkb_4 y (by omega) h100 pc h
  by_cases h120 : y < 120
  · exact pkb_5 y (by omega) h120 pc h
  by_cases h140 : y < 140
  · exact pkb_6 y (by omega) h140 pc h
  by_cases h160 : y < 160
  · exact pkb_7 y (by omega) h160 pc h
  by_cases h180 : y < 180
  · exact pkb_8 y (by omega) h180 pc h
  by_cases h200 : y < 200
  · exact pkb_9 y (by omega) h200 pc h
  by_cases h220 : y < 220
  · exact pkb_10 y (by omega) h220 pc h
  by_cases h240 : y < 240
  · exact pkb_11 y (by omega) h240 pc h
  by_cases h260 : y < 260
  · exact pkb_12 y (by omega) h260 pc h
  by_cases h280 : y < 280
  · exact pkb_13 y (by omega) h280 pc h
  by_cases h300 : y < 300
  · exact pkb_14 y (by omega) h300 pc h
  exact pkb_15 y (by omega) hy pc h
