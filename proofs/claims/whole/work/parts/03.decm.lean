theorem dX8_init_0 : decode cX8_init 0 = .ok (.aload_n 0, 1) := by decide +kernel
theorem dX8_init_1 : decode cX8_init 1 = .ok (.invokespecial 1, 3) := by decide +kernel
theorem dX8_init_4 : decode cX8_init 4 = .ok (.aload_n 0, 1) := by decide +kernel
theorem dX8_init_5 : decode cX8_init 5 = .ok (.bipush 64, 2) := by decide +kernel
theorem dX8_init_7 : decode cX8_init 7 = .ok (.newarray .int, 2) := by decide +kernel
theorem dX8_init_9 : decode cX8_init 9 = .ok (.putfield 7, 3) := by decide +kernel
theorem dX8_init_12 : decode cX8_init 12 = .ok (.aload_n 0, 1) := by decide +kernel
theorem dX8_init_13 : decode cX8_init 13 = .ok (.iconst 4, 1) := by decide +kernel
theorem dX8_init_14 : decode cX8_init 14 = .ok (.newarray .int, 2) := by decide +kernel
theorem dX8_init_16 : decode cX8_init 16 = .ok (.putfield 13, 3) := by decide +kernel
theorem dX8_init_19 : decode cX8_init 19 = .ok (.aload_n 0, 1) := by decide +kernel
theorem dX8_init_20 : decode cX8_init 20 = .ok (.iconst 4, 1) := by decide +kernel
theorem dX8_init_21 : decode cX8_init 21 = .ok (.newarray .int, 2) := by decide +kernel
theorem dX8_init_23 : decode cX8_init 23 = .ok (.dup, 1) := by decide +kernel
theorem dX8_init_24 : decode cX8_init 24 = .ok (.iconst 0, 1) := by decide +kernel
theorem dX8_init_25 : decode cX8_init 25 = .ok (.bipush 50, 2) := by decide +kernel
theorem dX8_init_27 : decode cX8_init 27 = .ok (.iastore, 1) := by decide +kernel
theorem dX8_init_28 : decode cX8_init 28 = .ok (.dup, 1) := by decide +kernel
theorem dX8_init_29 : decode cX8_init 29 = .ok (.iconst 1, 1) := by decide +kernel
theorem dX8_init_30 : decode cX8_init 30 = .ok (.bipush 50, 2) := by decide +kernel
theorem dX8_init_32 : decode cX8_init 32 = .ok (.iastore, 1) := by decide +kernel
theorem dX8_init_33 : decode cX8_init 33 = .ok (.dup, 1) := by decide +kernel
theorem dX8_init_34 : decode cX8_init 34 = .ok (.iconst 2, 1) := by decide +kernel
theorem dX8_init_35 : decode cX8_init 35 = .ok (.bipush 50, 2) := by decide +kernel
theorem dX8_init_37 : decode cX8_init 37 = .ok (.iastore, 1) := by decide +kernel
theorem dX8_init_38 : decode cX8_init 38 = .ok (.dup, 1) := by decide +kernel
theorem dX8_init_39 : decode cX8_init 39 = .ok (.iconst 3, 1) := by decide +kernel
theorem dX8_init_40 : decode cX8_init 40 = .ok (.bipush 50, 2) := by decide +kernel
theorem dX8_init_42 : decode cX8_init 42 = .ok (.iastore, 1) := by decide +kernel
theorem dX8_init_43 : decode cX8_init 43 = .ok (.putfield 16, 3) := by decide +kernel
theorem dX8_init_46 : decode cX8_init 46 = .ok (.aload_n 0, 1) := by decide +kernel
theorem dX8_init_47 : decode cX8_init 47 = .ok (.iconst 4, 1) := by decide +kernel
theorem dX8_init_48 : decode cX8_init 48 = .ok (.newarray .int, 2) := by decide +kernel
theorem dX8_init_50 : decode cX8_init 50 = .ok (.putfield 19, 3) := by decide +kernel
theorem dX8_init_53 : decode cX8_init 53 = .ok (.aload_n 0, 1) := by decide +kernel
theorem dX8_init_54 : decode cX8_init 54 = .ok (.bipush 27, 2) := by decide +kernel
theorem dX8_init_56 : decode cX8_init 56 = .ok (.putfield 22, 3) := by decide +kernel
theorem dX8_init_59 : decode cX8_init 59 = .ok (.aload_n 0, 1) := by decide +kernel
theorem dX8_init_60 : decode cX8_init 60 = .ok (.iconst 1, 1) := by decide +kernel
theorem dX8_init_61 : decode cX8_init 61 = .ok (.putfield 26, 3) := by decide +kernel
theorem dX8_init_64 : decode cX8_init 64 = .ok (.aload_n 0, 1) := by decide +kernel
theorem dX8_init_65 : decode cX8_init 65 = .ok (.bipush 56, 2) := by decide +kernel
theorem dX8_init_67 : decode cX8_init 67 = .ok (.newarray .int, 2) := by decide +kernel
theorem dX8_init_69 : decode cX8_init 69 = .ok (.dup, 1) := by decide +kernel
theorem dX8_init_70 : decode cX8_init 70 = .ok (.iconst 0, 1) := by decide +kernel
theorem dX8_init_71 : decode cX8_init 71 = .ok (.bipush 115, 2) := by decide +kernel
theorem dX8_init_73 : decode cX8_init 73 = .ok (.iastore, 1) := by decide +kernel
theorem dX8_init_74 : decode cX8_init 74 = .ok (.dup, 1) := by decide +kernel
theorem dX8_init_75 : decode cX8_init 75 = .ok (.iconst 1, 1) := by decide +kernel
theorem dX8_init_76 : decode cX8_init 76 = .ok (.bipush 108, 2) := by decide +kernel
theorem dX8_init_78 : decode cX8_init 78 = .ok (.iastore, 1) := by decide +kernel
theorem dX8_init_79 : decode cX8_init 79 = .ok (.dup, 1) := by decide +kernel
theorem dX8_init_80 : decode cX8_init 80 = .ok (.iconst 2, 1) := by decide +kernel
theorem dX8_init_81 : decode cX8_init 81 = .ok (.bipush 97, 2) := by decide +kernel
theorem dX8_init_83 : decode cX8_init 83 = .ok (.iastore, 1) := by decide +kernel
theorem dX8_init_84 : decode cX8_init 84 = .ok (.dup, 1) := by decide +kernel
theorem dX8_init_85 : decode cX8_init 85 = .ok (.iconst 3, 1) := by decide +kernel
theorem dX8_init_86 : decode cX8_init 86 = .ok (.bipush 99, 2) := by decide +kernel
theorem dX8_init_88 : decode cX8_init 88 = .ok (.iastore, 1) := by decide +kernel
theorem dX8_init_89 : decode cX8_init 89 = .ok (.dup, 1) := by decide +kernel
theorem dX8_init_90 : decode cX8_init 90 = .ok (.iconst 4, 1) := by decide +kernel
theorem dX8_init_91 : decode cX8_init 91 = .ok (.bipush 107, 2) := by decide +kernel
theorem dX8_init_93 : decode cX8_init 93 = .ok (.iastore, 1) := by decide +kernel
theorem dX8_init_94 : decode cX8_init 94 = .ok (.dup, 1) := by decide +kernel
theorem dX8_init_95 : decode cX8_init 95 = .ok (.iconst 5, 1) := by decide +kernel
theorem dX8_init_96 : decode cX8_init 96 = .ok (.bipush 32, 2) := by decide +kernel
theorem dX8_init_98 : decode cX8_init 98 = .ok (.iastore, 1) := by decide +kernel
theorem dX8_init_99 : decode cX8_init 99 = .ok (.dup, 1) := by decide +kernel
theorem dX8_init_100 : decode cX8_init 100 = .ok (.bipush 6, 2) := by decide +kernel
theorem dX8_init_102 : decode cX8_init 102 = .ok (.bipush 48, 2) := by decide +kernel
theorem dX8_init_104 : decode cX8_init 104 = .ok (.iastore, 1) := by decide +kernel
theorem dX8_init_105 : decode cX8_init 105 = .ok (.dup, 1) := by decide +kernel
theorem dX8_init_106 : decode cX8_init 106 = .ok (.bipush 7, 2) := by decide +kernel
theorem dX8_init_108 : decode cX8_init 108 = .ok (.bipush 59, 2) := by decide +kernel
theorem dX8_init_110 : decode cX8_init 110 = .ok (.iastore, 1) := by decide +kernel
theorem dX8_init_111 : decode cX8_init 111 = .ok (.dup, 1) := by decide +kernel
theorem dX8_init_112 : decode cX8_init 112 = .ok (.bipush 8, 2) := by decide +kernel
theorem dX8_init_114 : decode cX8_init 114 = .ok (.bipush 119, 2) := by decide +kernel
theorem dX8_init_116 : decode cX8_init 116 = .ok (.iastore, 1) := by decide +kernel
theorem dX8_init_117 : decode cX8_init 117 = .ok (.dup, 1) := by decide +kernel
theorem dX8_init_118 : decode cX8_init 118 = .ok (.bipush 9, 2) := by decide +kernel
theorem dX8_init_120 : decode cX8_init 120 = .ok (.bipush 111, 2) := by decide +kernel
theorem dX8_init_122 : decode cX8_init 122 = .ok (.iastore, 1) := by decide +kernel
theorem dX8_init_123 : decode cX8_init 123 = .ok (.dup, 1) := by decide +kernel
theorem dX8_init_124 : decode cX8_init 124 = .ok (.bipush 10, 2) := by decide +kernel
theorem dX8_init_126 : decode cX8_init 126 = .ok (.bipush 114, 2) := by decide +kernel
theorem dX8_init_128 : decode cX8_init 128 = .ok (.iastore, 1) := by decide +kernel
theorem dX8_init_129 : decode cX8_init 129 = .ok (.dup, 1) := by decide +kernel
theorem dX8_init_130 : decode cX8_init 130 = .ok (.bipush 11, 2) := by decide +kernel
theorem dX8_init_132 : decode cX8_init 132 = .ok (.bipush 116, 2) := by decide +kernel
theorem dX8_init_134 : decode cX8_init 134 = .ok (.iastore, 1) := by decide +kernel
theorem dX8_init_135 : decode cX8_init 135 = .ok (.dup, 1) := by decide +kernel
theorem dX8_init_136 : decode cX8_init 136 = .ok (.bipush 12, 2) := by decide +kernel
theorem dX8_init_138 : decode cX8_init 138 = .ok (.bipush 104, 2) := by decide +kernel
theorem dX8_init_140 : decode cX8_init 140 = .ok (.iastore, 1) := by decide +kernel
theorem dX8_init_141 : decode cX8_init 141 = .ok (.dup, 1) := by decide +kernel
theorem dX8_init_142 : decode cX8_init 142 = .ok (.bipush 13, 2) := by decide +kernel
theorem dX8_init_144 : decode cX8_init 144 = .ok (.bipush 32, 2) := by decide +kernel
theorem dX8_init_146 : decode cX8_init 146 = .ok (.iastore, 1) := by decide +kernel
theorem dX8_init_147 : decode cX8_init 147 = .ok (.dup, 1) := by decide +kernel
theorem dX8_init_148 : decode cX8_init 148 = .ok (.bipush 14, 2) := by decide +kernel
theorem dX8_init_150 : decode cX8_init 150 = .ok (.bipush 48, 2) := by decide +kernel
theorem dX8_init_152 : decode cX8_init 152 = .ok (.iastore, 1) := by decide +kernel
theorem dX8_init_153 : decode cX8_init 153 = .ok (.dup, 1) := by decide +kernel
theorem dX8_init_154 : decode cX8_init 154 = .ok (.bipush 15, 2) := by decide +kernel
theorem dX8_init_156 : decode cX8_init 156 = .ok (.bipush 45, 2) := by decide +kernel
theorem dX8_init_158 : decode cX8_init 158 = .ok (.iastore, 1) := by decide +kernel
theorem dX8_init_159 : decode cX8_init 159 = .ok (.dup, 1) := by decide +kernel
theorem dX8_init_160 : decode cX8_init 160 = .ok (.bipush 16, 2) := by decide +kernel
theorem dX8_init_162 : decode cX8_init 162 = .ok (.bipush 114, 2) := by decide +kernel
theorem dX8_init_164 : decode cX8_init 164 = .ok (.iastore, 1) := by decide +kernel
theorem dX8_init_165 : decode cX8_init 165 = .ok (.dup, 1) := by decide +kernel
theorem dX8_init_166 : decode cX8_init 166 = .ok (.bipush 17, 2) := by decide +kernel
theorem dX8_init_168 : decode cX8_init 168 = .ok (.bipush 111, 2) := by decide +kernel
theorem dX8_init_170 : decode cX8_init 170 = .ok (.iastore, 1) := by decide +kernel
theorem dX8_init_171 : decode cX8_init 171 = .ok (.dup, 1) := by decide +kernel
theorem dX8_init_172 : decode cX8_init 172 = .ok (.bipush 18, 2) := by decide +kernel
theorem dX8_init_174 : decode cX8_init 174 = .ok (.bipush 99, 2) := by decide +kernel
theorem dX8_init_176 : decode cX8_init 176 = .ok (.iastore, 1) := by decide +kernel
theorem dX8_init_177 : decode cX8_init 177 = .ok (.dup, 1) := by decide +kernel
theorem dX8_init_178 : decode cX8_init 178 = .ok (.bipush 19, 2) := by decide +kernel
theorem dX8_init_180 : decode cX8_init 180 = .ok (.bipush 107, 2) := by decide +kernel
theorem dX8_init_182 : decode cX8_init 182 = .ok (.iastore, 1) := by decide +kernel
theorem dX8_init_183 : decode cX8_init 183 = .ok (.dup, 1) := by decide +kernel
theorem dX8_init_184 : decode cX8_init 184 = .ok (.bipush 20, 2) := by decide +kernel
theorem dX8_init_186 : decode cX8_init 186 = .ok (.bipush 42, 2) := by decide +kernel
theorem dX8_init_188 : decode cX8_init 188 = .ok (.iastore, 1) := by decide +kernel
theorem dX8_init_189 : decode cX8_init 189 = .ok (.dup, 1) := by decide +kernel
theorem dX8_init_190 : decode cX8_init 190 = .ok (.bipush 21, 2) := by decide +kernel
theorem dX8_init_192 : decode cX8_init 192 = .ok (.bipush 57, 2) := by decide +kernel
theorem dX8_init_194 : decode cX8_init 194 = .ok (.iastore, 1) := by decide +kernel
theorem dX8_init_195 : decode cX8_init 195 = .ok (.dup, 1) := by decide +kernel
theorem dX8_init_196 : decode cX8_init 196 = .ok (.bipush 22, 2) := by decide +kernel
theorem dX8_init_198 : decode cX8_init 198 = .ok (.bipush 45, 2) := by decide +kernel
theorem dX8_init_200 : decode cX8_init 200 = .ok (.iastore, 1) := by decide +kernel
theorem dX8_init_201 : decode cX8_init 201 = .ok (.dup, 1) := by decide +kernel
theorem dX8_init_202 : decode cX8_init 202 = .ok (.bipush 23, 2) := by decide +kernel
theorem dX8_init_204 : decode cX8_init 204 = .ok (.bipush 108, 2) := by decide +kernel
theorem dX8_init_206 : decode cX8_init 206 = .ok (.iastore, 1) := by decide +kernel
theorem dX8_init_207 : decode cX8_init 207 = .ok (.dup, 1) := by decide +kernel
theorem dX8_init_208 : decode cX8_init 208 = .ok (.bipush 24, 2) := by decide +kernel
theorem dX8_init_210 : decode cX8_init 210 = .ok (.bipush 101, 2) := by decide +kernel
theorem dX8_init_212 : decode cX8_init 212 = .ok (.iastore, 1) := by decide +kernel
theorem dX8_init_213 : decode cX8_init 213 = .ok (.dup, 1) := by decide +kernel
theorem dX8_init_214 : decode cX8_init 214 = .ok (.bipush 25, 2) := by decide +kernel
theorem dX8_init_216 : decode cX8_init 216 = .ok (.bipush 97, 2) := by decide +kernel
theorem dX8_init_218 : decode cX8_init 218 = .ok (.iastore, 1) := by decide +kernel
theorem dX8_init_219 : decode cX8_init 219 = .ok (.dup, 1) := by decide +kernel
theorem dX8_init_220 : decode cX8_init 220 = .ok (.bipush 26, 2) := by decide +kernel
theorem dX8_init_222 : decode cX8_init 222 = .ok (.bipush 110, 2) := by decide +kernel
theorem dX8_init_224 : decode cX8_init 224 = .ok (.iastore, 1) := by decide +kernel
theorem dX8_init_225 : decode cX8_init 225 = .ok (.dup, 1) := by decide +kernel
theorem dX8_init_226 : decode cX8_init 226 = .ok (.bipush 27, 2) := by decide +kernel
theorem dX8_init_228 : decode cX8_init 228 = .ok (.bipush 59, 2) := by decide +kernel
theorem dX8_init_230 : decode cX8_init 230 = .ok (.iastore, 1) := by decide +kernel
theorem dX8_init_231 : decode cX8_init 231 = .ok (.dup, 1) := by decide +kernel
theorem dX8_init_232 : decode cX8_init 232 = .ok (.bipush 28, 2) := by decide +kernel
theorem dX8_init_234 : decode cX8_init 234 = .ok (.bipush 115, 2) := by decide +kernel
theorem dX8_init_236 : decode cX8_init 236 = .ok (.iastore, 1) := by decide +kernel
theorem dX8_init_237 : decode cX8_init 237 = .ok (.dup, 1) := by decide +kernel
theorem dX8_init_238 : decode cX8_init 238 = .ok (.bipush 29, 2) := by decide +kernel
theorem dX8_init_240 : decode cX8_init 240 = .ok (.bipush 112, 2) := by decide +kernel
theorem dX8_init_242 : decode cX8_init 242 = .ok (.iastore, 1) := by decide +kernel
theorem dX8_init_243 : decode cX8_init 243 = .ok (.dup, 1) := by decide +kernel
theorem dX8_init_244 : decode cX8_init 244 = .ok (.bipush 30, 2) := by decide +kernel
theorem dX8_init_246 : decode cX8_init 246 = .ok (.bipush 105, 2) := by decide +kernel
theorem dX8_init_248 : decode cX8_init 248 = .ok (.iastore, 1) := by decide +kernel
theorem dX8_init_249 : decode cX8_init 249 = .ok (.dup, 1) := by decide +kernel
theorem dX8_init_250 : decode cX8_init 250 = .ok (.bipush 31, 2) := by decide +kernel
theorem dX8_init_252 : decode cX8_init 252 = .ok (.bipush 108, 2) := by decide +kernel
theorem dX8_init_254 : decode cX8_init 254 = .ok (.iastore, 1) := by decide +kernel
theorem dX8_init_255 : decode cX8_init 255 = .ok (.dup, 1) := by decide +kernel
theorem dX8_init_256 : decode cX8_init 256 = .ok (.bipush 32, 2) := by decide +kernel
theorem dX8_init_258 : decode cX8_init 258 = .ok (.bipush 108, 2) := by decide +kernel
theorem dX8_init_260 : decode cX8_init 260 = .ok (.iastore, 1) := by decide +kernel
theorem dX8_init_261 : decode cX8_init 261 = .ok (.dup, 1) := by decide +kernel
theorem dX8_init_262 : decode cX8_init 262 = .ok (.bipush 33, 2) := by decide +kernel
theorem dX8_init_264 : decode cX8_init 264 = .ok (.bipush 115, 2) := by decide +kernel
theorem dX8_init_266 : decode cX8_init 266 = .ok (.iastore, 1) := by decide +kernel
theorem dX8_init_267 : decode cX8_init 267 = .ok (.dup, 1) := by decide +kernel
theorem dX8_init_268 : decode cX8_init 268 = .ok (.bipush 34, 2) := by decide +kernel
theorem dX8_init_270 : decode cX8_init 270 = .ok (.bipush 32, 2) := by decide +kernel
theorem dX8_init_272 : decode cX8_init 272 = .ok (.iastore, 1) := by decide +kernel
theorem dX8_init_273 : decode cX8_init 273 = .ok (.dup, 1) := by decide +kernel
theorem dX8_init_274 : decode cX8_init 274 = .ok (.bipush 35, 2) := by decide +kernel
theorem dX8_init_276 : decode cX8_init 276 = .ok (.bipush 108, 2) := by decide +kernel
theorem dX8_init_278 : decode cX8_init 278 = .ok (.iastore, 1) := by decide +kernel
theorem dX8_init_279 : decode cX8_init 279 = .ok (.dup, 1) := by decide +kernel
theorem dX8_init_280 : decode cX8_init 280 = .ok (.bipush 36, 2) := by decide +kernel
theorem dX8_init_282 : decode cX8_init 282 = .ok (.bipush 101, 2) := by decide +kernel
theorem dX8_init_284 : decode cX8_init 284 = .ok (.iastore, 1) := by decide +kernel
theorem dX8_init_285 : decode cX8_init 285 = .ok (.dup, 1) := by decide +kernel
theorem dX8_init_286 : decode cX8_init 286 = .ok (.bipush 37, 2) := by decide +kernel
theorem dX8_init_288 : decode cX8_init 288 = .ok (.bipush 97, 2) := by decide +kernel
theorem dX8_init_290 : decode cX8_init 290 = .ok (.iastore, 1) := by decide +kernel
theorem dX8_init_291 : decode cX8_init 291 = .ok (.dup, 1) := by decide +kernel
theorem dX8_init_292 : decode cX8_init 292 = .ok (.bipush 38, 2) := by decide +kernel
theorem dX8_init_294 : decode cX8_init 294 = .ok (.bipush 110, 2) := by decide +kernel
theorem dX8_init_296 : decode cX8_init 296 = .ok (.iastore, 1) := by decide +kernel
theorem dX8_init_297 : decode cX8_init 297 = .ok (.dup, 1) := by decide +kernel
theorem dX8_init_298 : decode cX8_init 298 = .ok (.bipush 39, 2) := by decide +kernel
theorem dX8_init_300 : decode cX8_init 300 = .ok (.bipush 43, 2) := by decide +kernel
theorem dX8_init_302 : decode cX8_init 302 = .ok (.iastore, 1) := by decide +kernel
theorem dX8_init_303 : decode cX8_init 303 = .ok (.dup, 1) := by decide +kernel
theorem dX8_init_304 : decode cX8_init 304 = .ok (.bipush 40, 2) := by decide +kernel
theorem dX8_init_306 : decode cX8_init 306 = .ok (.bipush 114, 2) := by decide +kernel
theorem dX8_init_308 : decode cX8_init 308 = .ok (.iastore, 1) := by decide +kernel
theorem dX8_init_309 : decode cX8_init 309 = .ok (.dup, 1) := by decide +kernel
theorem dX8_init_310 : decode cX8_init 310 = .ok (.bipush 41, 2) := by decide +kernel
theorem dX8_init_312 : decode cX8_init 312 = .ok (.bipush 111, 2) := by decide +kernel
theorem dX8_init_314 : decode cX8_init 314 = .ok (.iastore, 1) := by decide +kernel
theorem dX8_init_315 : decode cX8_init 315 = .ok (.dup, 1) := by decide +kernel
theorem dX8_init_316 : decode cX8_init 316 = .ok (.bipush 42, 2) := by decide +kernel
theorem dX8_init_318 : decode cX8_init 318 = .ok (.bipush 99, 2) := by decide +kernel
theorem dX8_init_320 : decode cX8_init 320 = .ok (.iastore, 1) := by decide +kernel
theorem dX8_init_321 : decode cX8_init 321 = .ok (.dup, 1) := by decide +kernel
theorem dX8_init_322 : decode cX8_init 322 = .ok (.bipush 43, 2) := by decide +kernel
theorem dX8_init_324 : decode cX8_init 324 = .ok (.bipush 107, 2) := by decide +kernel
theorem dX8_init_326 : decode cX8_init 326 = .ok (.iastore, 1) := by decide +kernel
theorem dX8_init_327 : decode cX8_init 327 = .ok (.dup, 1) := by decide +kernel
theorem dX8_init_328 : decode cX8_init 328 = .ok (.bipush 44, 2) := by decide +kernel
theorem dX8_init_330 : decode cX8_init 330 = .ok (.bipush 42, 2) := by decide +kernel
theorem dX8_init_332 : decode cX8_init 332 = .ok (.iastore, 1) := by decide +kernel
theorem dX8_init_333 : decode cX8_init 333 = .ok (.dup, 1) := by decide +kernel
theorem dX8_init_334 : decode cX8_init 334 = .ok (.bipush 45, 2) := by decide +kernel
theorem dX8_init_336 : decode cX8_init 336 = .ok (.bipush 50, 2) := by decide +kernel
theorem dX8_init_338 : decode cX8_init 338 = .ok (.iastore, 1) := by decide +kernel
theorem dX8_init_339 : decode cX8_init 339 = .ok (.dup, 1) := by decide +kernel
theorem dX8_init_340 : decode cX8_init 340 = .ok (.bipush 46, 2) := by decide +kernel
theorem dX8_init_342 : decode cX8_init 342 = .ok (.bipush 59, 2) := by decide +kernel
theorem dX8_init_344 : decode cX8_init 344 = .ok (.iastore, 1) := by decide +kernel
theorem dX8_init_345 : decode cX8_init 345 = .ok (.dup, 1) := by decide +kernel
theorem dX8_init_346 : decode cX8_init 346 = .ok (.bipush 47, 2) := by decide +kernel
theorem dX8_init_348 : decode cX8_init 348 = .ok (.bipush 32, 2) := by decide +kernel
theorem dX8_init_350 : decode cX8_init 350 = .ok (.iastore, 1) := by decide +kernel
theorem dX8_init_351 : decode cX8_init 351 = .ok (.dup, 1) := by decide +kernel
theorem dX8_init_352 : decode cX8_init 352 = .ok (.bipush 48, 2) := by decide +kernel
theorem dX8_init_354 : decode cX8_init 354 = .ok (.bipush 32, 2) := by decide +kernel
theorem dX8_init_356 : decode cX8_init 356 = .ok (.iastore, 1) := by decide +kernel
theorem dX8_init_357 : decode cX8_init 357 = .ok (.dup, 1) := by decide +kernel
theorem dX8_init_358 : decode cX8_init 358 = .ok (.bipush 49, 2) := by decide +kernel
theorem dX8_init_360 : decode cX8_init 360 = .ok (.bipush 32, 2) := by decide +kernel
theorem dX8_init_362 : decode cX8_init 362 = .ok (.iastore, 1) := by decide +kernel
theorem dX8_init_363 : decode cX8_init 363 = .ok (.dup, 1) := by decide +kernel
theorem dX8_init_364 : decode cX8_init 364 = .ok (.bipush 50, 2) := by decide +kernel
theorem dX8_init_366 : decode cX8_init 366 = .ok (.bipush 32, 2) := by decide +kernel
theorem dX8_init_368 : decode cX8_init 368 = .ok (.iastore, 1) := by decide +kernel
theorem dX8_init_369 : decode cX8_init 369 = .ok (.dup, 1) := by decide +kernel
theorem dX8_init_370 : decode cX8_init 370 = .ok (.bipush 51, 2) := by decide +kernel
theorem dX8_init_372 : decode cX8_init 372 = .ok (.bipush 32, 2) := by decide +kernel
theorem dX8_init_374 : decode cX8_init 374 = .ok (.iastore, 1) := by decide +kernel
theorem dX8_init_375 : decode cX8_init 375 = .ok (.dup, 1) := by decide +kernel
theorem dX8_init_376 : decode cX8_init 376 = .ok (.bipush 52, 2) := by decide +kernel
theorem dX8_init_378 : decode cX8_init 378 = .ok (.bipush 32, 2) := by decide +kernel
theorem dX8_init_380 : decode cX8_init 380 = .ok (.iastore, 1) := by decide +kernel
theorem dX8_init_381 : decode cX8_init 381 = .ok (.dup, 1) := by decide +kernel
theorem dX8_init_382 : decode cX8_init 382 = .ok (.bipush 53, 2) := by decide +kernel
theorem dX8_init_384 : decode cX8_init 384 = .ok (.bipush 32, 2) := by decide +kernel
theorem dX8_init_386 : decode cX8_init 386 = .ok (.iastore, 1) := by decide +kernel
theorem dX8_init_387 : decode cX8_init 387 = .ok (.dup, 1) := by decide +kernel
theorem dX8_init_388 : decode cX8_init 388 = .ok (.bipush 54, 2) := by decide +kernel
theorem dX8_init_390 : decode cX8_init 390 = .ok (.bipush 32, 2) := by decide +kernel
theorem dX8_init_392 : decode cX8_init 392 = .ok (.iastore, 1) := by decide +kernel
theorem dX8_init_393 : decode cX8_init 393 = .ok (.dup, 1) := by decide +kernel
theorem dX8_init_394 : decode cX8_init 394 = .ok (.bipush 55, 2) := by decide +kernel
theorem dX8_init_396 : decode cX8_init 396 = .ok (.bipush 32, 2) := by decide +kernel
theorem dX8_init_398 : decode cX8_init 398 = .ok (.iastore, 1) := by decide +kernel
theorem dX8_init_399 : decode cX8_init 399 = .ok (.putfield 29, 3) := by decide +kernel
theorem dX8_init_402 : decode cX8_init 402 = .ok (.aload_n 0, 1) := by decide +kernel
theorem dX8_init_403 : decode cX8_init 403 = .ok (.bipush 42, 2) := by decide +kernel
theorem dX8_init_405 : decode cX8_init 405 = .ok (.newarray .int, 2) := by decide +kernel
theorem dX8_init_407 : decode cX8_init 407 = .ok (.dup, 1) := by decide +kernel
theorem dX8_init_408 : decode cX8_init 408 = .ok (.iconst 0, 1) := by decide +kernel
theorem dX8_init_409 : decode cX8_init 409 = .ok (.bipush 114, 2) := by decide +kernel
theorem dX8_init_411 : decode cX8_init 411 = .ok (.iastore, 1) := by decide +kernel
theorem dX8_init_412 : decode cX8_init 412 = .ok (.dup, 1) := by decide +kernel
theorem dX8_init_413 : decode cX8_init 413 = .ok (.iconst 1, 1) := by decide +kernel
theorem dX8_init_414 : decode cX8_init 414 = .ok (.bipush 111, 2) := by decide +kernel
theorem dX8_init_416 : decode cX8_init 416 = .ok (.iastore, 1) := by decide +kernel
theorem dX8_init_417 : decode cX8_init 417 = .ok (.dup, 1) := by decide +kernel
theorem dX8_init_418 : decode cX8_init 418 = .ok (.iconst 2, 1) := by decide +kernel
theorem dX8_init_419 : decode cX8_init 419 = .ok (.bipush 99, 2) := by decide +kernel
theorem dX8_init_421 : decode cX8_init 421 = .ok (.iastore, 1) := by decide +kernel
theorem dX8_init_422 : decode cX8_init 422 = .ok (.dup, 1) := by decide +kernel
theorem dX8_init_423 : decode cX8_init 423 = .ok (.iconst 3, 1) := by decide +kernel
theorem dX8_init_424 : decode cX8_init 424 = .ok (.bipush 107, 2) := by decide +kernel
theorem dX8_init_426 : decode cX8_init 426 = .ok (.iastore, 1) := by decide +kernel
theorem dX8_init_427 : decode cX8_init 427 = .ok (.dup, 1) := by decide +kernel
theorem dX8_init_428 : decode cX8_init 428 = .ok (.iconst 4, 1) := by decide +kernel
theorem dX8_init_429 : decode cX8_init 429 = .ok (.bipush 108, 2) := by decide +kernel
theorem dX8_init_431 : decode cX8_init 431 = .ok (.iastore, 1) := by decide +kernel
theorem dX8_init_432 : decode cX8_init 432 = .ok (.dup, 1) := by decide +kernel
theorem dX8_init_433 : decode cX8_init 433 = .ok (.iconst 5, 1) := by decide +kernel
theorem dX8_init_434 : decode cX8_init 434 = .ok (.bipush 101, 2) := by decide +kernel
theorem dX8_init_436 : decode cX8_init 436 = .ok (.iastore, 1) := by decide +kernel
theorem dX8_init_437 : decode cX8_init 437 = .ok (.dup, 1) := by decide +kernel
theorem dX8_init_438 : decode cX8_init 438 = .ok (.bipush 6, 2) := by decide +kernel
theorem dX8_init_440 : decode cX8_init 440 = .ok (.bipush 97, 2) := by decide +kernel
theorem dX8_init_442 : decode cX8_init 442 = .ok (.iastore, 1) := by decide +kernel
theorem dX8_init_443 : decode cX8_init 443 = .ok (.dup, 1) := by decide +kernel
theorem dX8_init_444 : decode cX8_init 444 = .ok (.bipush 7, 2) := by decide +kernel
theorem dX8_init_446 : decode cX8_init 446 = .ok (.bipush 110, 2) := by decide +kernel
theorem dX8_init_448 : decode cX8_init 448 = .ok (.iastore, 1) := by decide +kernel
theorem dX8_init_449 : decode cX8_init 449 = .ok (.dup, 1) := by decide +kernel
theorem dX8_init_450 : decode cX8_init 450 = .ok (.bipush 8, 2) := by decide +kernel
theorem dX8_init_452 : decode cX8_init 452 = .ok (.bipush 116, 2) := by decide +kernel
theorem dX8_init_454 : decode cX8_init 454 = .ok (.iastore, 1) := by decide +kernel
theorem dX8_init_455 : decode cX8_init 455 = .ok (.dup, 1) := by decide +kernel
theorem dX8_init_456 : decode cX8_init 456 = .ok (.bipush 9, 2) := by decide +kernel
theorem dX8_init_458 : decode cX8_init 458 = .ok (.bipush 117, 2) := by decide +kernel
theorem dX8_init_460 : decode cX8_init 460 = .ok (.iastore, 1) := by decide +kernel
theorem dX8_init_461 : decode cX8_init 461 = .ok (.dup, 1) := by decide +kernel
theorem dX8_init_462 : decode cX8_init 462 = .ok (.bipush 10, 2) := by decide +kernel
theorem dX8_init_464 : decode cX8_init 464 = .ok (.bipush 114, 2) := by decide +kernel
theorem dX8_init_466 : decode cX8_init 466 = .ok (.iastore, 1) := by decide +kernel
theorem dX8_init_467 : decode cX8_init 467 = .ok (.dup, 1) := by decide +kernel
theorem dX8_init_468 : decode cX8_init 468 = .ok (.bipush 11, 2) := by decide +kernel
theorem dX8_init_470 : decode cX8_init 470 = .ok (.bipush 110, 2) := by decide +kernel
theorem dX8_init_472 : decode cX8_init 472 = .ok (.iastore, 1) := by decide +kernel
theorem dX8_init_473 : decode cX8_init 473 = .ok (.dup, 1) := by decide +kernel
theorem dX8_init_474 : decode cX8_init 474 = .ok (.bipush 12, 2) := by decide +kernel
theorem dX8_init_476 : decode cX8_init 476 = .ok (.bipush 121, 2) := by decide +kernel
theorem dX8_init_478 : decode cX8_init 478 = .ok (.iastore, 1) := by decide +kernel
theorem dX8_init_479 : decode cX8_init 479 = .ok (.dup, 1) := by decide +kernel
theorem dX8_init_480 : decode cX8_init 480 = .ok (.bipush 13, 2) := by decide +kernel
theorem dX8_init_482 : decode cX8_init 482 = .ok (.bipush 120, 2) := by decide +kernel
theorem dX8_init_484 : decode cX8_init 484 = .ok (.iastore, 1) := by decide +kernel
theorem dX8_init_485 : decode cX8_init 485 = .ok (.dup, 1) := by decide +kernel
theorem dX8_init_486 : decode cX8_init 486 = .ok (.bipush 14, 2) := by decide +kernel
theorem dX8_init_488 : decode cX8_init 488 = .ok (.bipush 103, 2) := by decide +kernel
theorem dX8_init_490 : decode cX8_init 490 = .ok (.iastore, 1) := by decide +kernel
theorem dX8_init_491 : decode cX8_init 491 = .ok (.dup, 1) := by decide +kernel
theorem dX8_init_492 : decode cX8_init 492 = .ok (.bipush 15, 2) := by decide +kernel
theorem dX8_init_494 : decode cX8_init 494 = .ok (.bipush 105, 2) := by decide +kernel
theorem dX8_init_496 : decode cX8_init 496 = .ok (.iastore, 1) := by decide +kernel
theorem dX8_init_497 : decode cX8_init 497 = .ok (.dup, 1) := by decide +kernel
theorem dX8_init_498 : decode cX8_init 498 = .ok (.bipush 16, 2) := by decide +kernel
theorem dX8_init_500 : decode cX8_init 500 = .ok (.bipush 118, 2) := by decide +kernel
theorem dX8_init_502 : decode cX8_init 502 = .ok (.iastore, 1) := by decide +kernel
theorem dX8_init_503 : decode cX8_init 503 = .ok (.dup, 1) := by decide +kernel
theorem dX8_init_504 : decode cX8_init 504 = .ok (.bipush 17, 2) := by decide +kernel
theorem dX8_init_506 : decode cX8_init 506 = .ok (.bipush 101, 2) := by decide +kernel
theorem dX8_init_508 : decode cX8_init 508 = .ok (.iastore, 1) := by decide +kernel
theorem dX8_init_509 : decode cX8_init 509 = .ok (.dup, 1) := by decide +kernel
theorem dX8_init_510 : decode cX8_init 510 = .ok (.bipush 18, 2) := by decide +kernel
theorem dX8_init_512 : decode cX8_init 512 = .ok (.bipush 115, 2) := by decide +kernel
theorem dX8_init_514 : decode cX8_init 514 = .ok (.iastore, 1) := by decide +kernel
theorem dX8_init_515 : decode cX8_init 515 = .ok (.dup, 1) := by decide +kernel
theorem dX8_init_516 : decode cX8_init 516 = .ok (.bipush 19, 2) := by decide +kernel
theorem dX8_init_518 : decode cX8_init 518 = .ok (.bipush 108, 2) := by decide +kernel
theorem dX8_init_520 : decode cX8_init 520 = .ok (.iastore, 1) := by decide +kernel
theorem dX8_init_521 : decode cX8_init 521 = .ok (.dup, 1) := by decide +kernel
theorem dX8_init_522 : decode cX8_init 522 = .ok (.bipush 20, 2) := by decide +kernel
theorem dX8_init_524 : decode cX8_init 524 = .ok (.bipush 97, 2) := by decide +kernel
theorem dX8_init_526 : decode cX8_init 526 = .ok (.iastore, 1) := by decide +kernel
theorem dX8_init_527 : decode cX8_init 527 = .ok (.dup, 1) := by decide +kernel
theorem dX8_init_528 : decode cX8_init 528 = .ok (.bipush 21, 2) := by decide +kernel
theorem dX8_init_530 : decode cX8_init 530 = .ok (.bipush 99, 2) := by decide +kernel
theorem dX8_init_532 : decode cX8_init 532 = .ok (.iastore, 1) := by decide +kernel
theorem dX8_init_533 : decode cX8_init 533 = .ok (.dup, 1) := by decide +kernel
theorem dX8_init_534 : decode cX8_init 534 = .ok (.bipush 22, 2) := by decide +kernel
theorem dX8_init_536 : decode cX8_init 536 = .ok (.bipush 107, 2) := by decide +kernel
theorem dX8_init_538 : decode cX8_init 538 = .ok (.iastore, 1) := by decide +kernel
theorem dX8_init_539 : decode cX8_init 539 = .ok (.dup, 1) := by decide +kernel
theorem dX8_init_540 : decode cX8_init 540 = .ok (.bipush 23, 2) := by decide +kernel
theorem dX8_init_542 : decode cX8_init 542 = .ok (.bipush 119, 2) := by decide +kernel
theorem dX8_init_544 : decode cX8_init 544 = .ok (.iastore, 1) := by decide +kernel
theorem dX8_init_545 : decode cX8_init 545 = .ok (.dup, 1) := by decide +kernel
theorem dX8_init_546 : decode cX8_init 546 = .ok (.bipush 24, 2) := by decide +kernel
theorem dX8_init_548 : decode cX8_init 548 = .ok (.bipush 111, 2) := by decide +kernel
theorem dX8_init_550 : decode cX8_init 550 = .ok (.iastore, 1) := by decide +kernel
theorem dX8_init_551 : decode cX8_init 551 = .ok (.dup, 1) := by decide +kernel
theorem dX8_init_552 : decode cX8_init 552 = .ok (.bipush 25, 2) := by decide +kernel
theorem dX8_init_554 : decode cX8_init 554 = .ok (.bipush 114, 2) := by decide +kernel
theorem dX8_init_556 : decode cX8_init 556 = .ok (.iastore, 1) := by decide +kernel
theorem dX8_init_557 : decode cX8_init 557 = .ok (.dup, 1) := by decide +kernel
theorem dX8_init_558 : decode cX8_init 558 = .ok (.bipush 26, 2) := by decide +kernel
theorem dX8_init_560 : decode cX8_init 560 = .ok (.bipush 116, 2) := by decide +kernel
theorem dX8_init_562 : decode cX8_init 562 = .ok (.iastore, 1) := by decide +kernel
theorem dX8_init_563 : decode cX8_init 563 = .ok (.dup, 1) := by decide +kernel
theorem dX8_init_564 : decode cX8_init 564 = .ok (.bipush 27, 2) := by decide +kernel
theorem dX8_init_566 : decode cX8_init 566 = .ok (.bipush 104, 2) := by decide +kernel
theorem dX8_init_568 : decode cX8_init 568 = .ok (.iastore, 1) := by decide +kernel
theorem dX8_init_569 : decode cX8_init 569 = .ok (.dup, 1) := by decide +kernel
theorem dX8_init_570 : decode cX8_init 570 = .ok (.bipush 28, 2) := by decide +kernel
theorem dX8_init_572 : decode cX8_init 572 = .ok (.bipush 115, 2) := by decide +kernel
theorem dX8_init_574 : decode cX8_init 574 = .ok (.iastore, 1) := by decide +kernel
theorem dX8_init_575 : decode cX8_init 575 = .ok (.dup, 1) := by decide +kernel
theorem dX8_init_576 : decode cX8_init 576 = .ok (.bipush 29, 2) := by decide +kernel
theorem dX8_init_578 : decode cX8_init 578 = .ok (.bipush 112, 2) := by decide +kernel
theorem dX8_init_580 : decode cX8_init 580 = .ok (.iastore, 1) := by decide +kernel
theorem dX8_init_581 : decode cX8_init 581 = .ok (.dup, 1) := by decide +kernel
theorem dX8_init_582 : decode cX8_init 582 = .ok (.bipush 30, 2) := by decide +kernel
theorem dX8_init_584 : decode cX8_init 584 = .ok (.bipush 105, 2) := by decide +kernel
theorem dX8_init_586 : decode cX8_init 586 = .ok (.iastore, 1) := by decide +kernel
theorem dX8_init_587 : decode cX8_init 587 = .ok (.dup, 1) := by decide +kernel
theorem dX8_init_588 : decode cX8_init 588 = .ok (.bipush 31, 2) := by decide +kernel
theorem dX8_init_590 : decode cX8_init 590 = .ok (.bipush 108, 2) := by decide +kernel
theorem dX8_init_592 : decode cX8_init 592 = .ok (.iastore, 1) := by decide +kernel
theorem dX8_init_593 : decode cX8_init 593 = .ok (.dup, 1) := by decide +kernel
theorem dX8_init_594 : decode cX8_init 594 = .ok (.bipush 32, 2) := by decide +kernel
theorem dX8_init_596 : decode cX8_init 596 = .ok (.bipush 108, 2) := by decide +kernel
theorem dX8_init_598 : decode cX8_init 598 = .ok (.iastore, 1) := by decide +kernel
theorem dX8_init_599 : decode cX8_init 599 = .ok (.dup, 1) := by decide +kernel
theorem dX8_init_600 : decode cX8_init 600 = .ok (.bipush 33, 2) := by decide +kernel
theorem dX8_init_602 : decode cX8_init 602 = .ok (.bipush 115, 2) := by decide +kernel
theorem dX8_init_604 : decode cX8_init 604 = .ok (.iastore, 1) := by decide +kernel
theorem dX8_init_605 : decode cX8_init 605 = .ok (.dup, 1) := by decide +kernel
theorem dX8_init_606 : decode cX8_init 606 = .ok (.bipush 34, 2) := by decide +kernel
theorem dX8_init_608 : decode cX8_init 608 = .ok (.bipush 111, 2) := by decide +kernel
theorem dX8_init_610 : decode cX8_init 610 = .ok (.iastore, 1) := by decide +kernel
theorem dX8_init_611 : decode cX8_init 611 = .ok (.dup, 1) := by decide +kernel
theorem dX8_init_612 : decode cX8_init 612 = .ok (.bipush 35, 2) := by decide +kernel
theorem dX8_init_614 : decode cX8_init 614 = .ok (.bipush 114, 2) := by decide +kernel
theorem dX8_init_616 : decode cX8_init 616 = .ok (.iastore, 1) := by decide +kernel
theorem dX8_init_617 : decode cX8_init 617 = .ok (.dup, 1) := by decide +kernel
theorem dX8_init_618 : decode cX8_init 618 = .ok (.bipush 36, 2) := by decide +kernel
theorem dX8_init_620 : decode cX8_init 620 = .ok (.bipush 97, 2) := by decide +kernel
theorem dX8_init_622 : decode cX8_init 622 = .ok (.iastore, 1) := by decide +kernel
theorem dX8_init_623 : decode cX8_init 623 = .ok (.dup, 1) := by decide +kernel
theorem dX8_init_624 : decode cX8_init 624 = .ok (.bipush 37, 2) := by decide +kernel
theorem dX8_init_626 : decode cX8_init 626 = .ok (.bipush 110, 2) := by decide +kernel
theorem dX8_init_628 : decode cX8_init 628 = .ok (.iastore, 1) := by decide +kernel
theorem dX8_init_629 : decode cX8_init 629 = .ok (.dup, 1) := by decide +kernel
theorem dX8_init_630 : decode cX8_init 630 = .ok (.bipush 38, 2) := by decide +kernel
theorem dX8_init_632 : decode cX8_init 632 = .ok (.bipush 100, 2) := by decide +kernel
theorem dX8_init_634 : decode cX8_init 634 = .ok (.iastore, 1) := by decide +kernel
theorem dX8_init_635 : decode cX8_init 635 = .ok (.dup, 1) := by decide +kernel
theorem dX8_init_636 : decode cX8_init 636 = .ok (.bipush 39, 2) := by decide +kernel
theorem dX8_init_638 : decode cX8_init 638 = .ok (.bipush 110, 2) := by decide +kernel
theorem dX8_init_640 : decode cX8_init 640 = .ok (.iastore, 1) := by decide +kernel
theorem dX8_init_641 : decode cX8_init 641 = .ok (.dup, 1) := by decide +kernel
theorem dX8_init_642 : decode cX8_init 642 = .ok (.bipush 40, 2) := by decide +kernel
theorem dX8_init_644 : decode cX8_init 644 = .ok (.bipush 111, 2) := by decide +kernel
theorem dX8_init_646 : decode cX8_init 646 = .ok (.iastore, 1) := by decide +kernel
theorem dX8_init_647 : decode cX8_init 647 = .ok (.dup, 1) := by decide +kernel
theorem dX8_init_648 : decode cX8_init 648 = .ok (.bipush 41, 2) := by decide +kernel
theorem dX8_init_650 : decode cX8_init 650 = .ok (.bipush 116, 2) := by decide +kernel
theorem dX8_init_652 : decode cX8_init 652 = .ok (.iastore, 1) := by decide +kernel
theorem dX8_init_653 : decode cX8_init 653 = .ok (.putfield 32, 3) := by decide +kernel
theorem dX8_init_656 : decode cX8_init 656 = .ok (.aload_n 0, 1) := by decide +kernel
theorem dX8_init_657 : decode cX8_init 657 = .ok (.bipush 13, 2) := by decide +kernel
theorem dX8_init_659 : decode cX8_init 659 = .ok (.newarray .int, 2) := by decide +kernel
theorem dX8_init_661 : decode cX8_init 661 = .ok (.dup, 1) := by decide +kernel
theorem dX8_init_662 : decode cX8_init 662 = .ok (.iconst 0, 1) := by decide +kernel
theorem dX8_init_663 : decode cX8_init 663 = .ok (.iconst 0, 1) := by decide +kernel
theorem dX8_init_664 : decode cX8_init 664 = .ok (.iastore, 1) := by decide +kernel
theorem dX8_init_665 : decode cX8_init 665 = .ok (.dup, 1) := by decide +kernel
theorem dX8_init_666 : decode cX8_init 666 = .ok (.iconst 1, 1) := by decide +kernel
theorem dX8_init_667 : decode cX8_init 667 = .ok (.iconst 4, 1) := by decide +kernel
theorem dX8_init_668 : decode cX8_init 668 = .ok (.iastore, 1) := by decide +kernel
theorem dX8_init_669 : decode cX8_init 669 = .ok (.dup, 1) := by decide +kernel
theorem dX8_init_670 : decode cX8_init 670 = .ok (.iconst 2, 1) := by decide +kernel
theorem dX8_init_671 : decode cX8_init 671 = .ok (.bipush 8, 2) := by decide +kernel
theorem dX8_init_673 : decode cX8_init 673 = .ok (.iastore, 1) := by decide +kernel
theorem dX8_init_674 : decode cX8_init 674 = .ok (.dup, 1) := by decide +kernel
theorem dX8_init_675 : decode cX8_init 675 = .ok (.iconst 3, 1) := by decide +kernel
theorem dX8_init_676 : decode cX8_init 676 = .ok (.bipush 12, 2) := by decide +kernel
theorem dX8_init_678 : decode cX8_init 678 = .ok (.iastore, 1) := by decide +kernel
theorem dX8_init_679 : decode cX8_init 679 = .ok (.dup, 1) := by decide +kernel
theorem dX8_init_680 : decode cX8_init 680 = .ok (.iconst 4, 1) := by decide +kernel
theorem dX8_init_681 : decode cX8_init 681 = .ok (.bipush 13, 2) := by decide +kernel
theorem dX8_init_683 : decode cX8_init 683 = .ok (.iastore, 1) := by decide +kernel
theorem dX8_init_684 : decode cX8_init 684 = .ok (.dup, 1) := by decide +kernel
theorem dX8_init_685 : decode cX8_init 685 = .ok (.iconst 5, 1) := by decide +kernel
theorem dX8_init_686 : decode cX8_init 686 = .ok (.bipush 14, 2) := by decide +kernel
theorem dX8_init_688 : decode cX8_init 688 = .ok (.iastore, 1) := by decide +kernel
theorem dX8_init_689 : decode cX8_init 689 = .ok (.dup, 1) := by decide +kernel
theorem dX8_init_690 : decode cX8_init 690 = .ok (.bipush 6, 2) := by decide +kernel
theorem dX8_init_692 : decode cX8_init 692 = .ok (.bipush 18, 2) := by decide +kernel
theorem dX8_init_694 : decode cX8_init 694 = .ok (.iastore, 1) := by decide +kernel
theorem dX8_init_695 : decode cX8_init 695 = .ok (.dup, 1) := by decide +kernel
theorem dX8_init_696 : decode cX8_init 696 = .ok (.bipush 7, 2) := by decide +kernel
theorem dX8_init_698 : decode cX8_init 698 = .ok (.bipush 23, 2) := by decide +kernel
theorem dX8_init_700 : decode cX8_init 700 = .ok (.iastore, 1) := by decide +kernel
theorem dX8_init_701 : decode cX8_init 701 = .ok (.dup, 1) := by decide +kernel
theorem dX8_init_702 : decode cX8_init 702 = .ok (.bipush 8, 2) := by decide +kernel
theorem dX8_init_704 : decode cX8_init 704 = .ok (.bipush 28, 2) := by decide +kernel
theorem dX8_init_706 : decode cX8_init 706 = .ok (.iastore, 1) := by decide +kernel
theorem dX8_init_707 : decode cX8_init 707 = .ok (.dup, 1) := by decide +kernel
theorem dX8_init_708 : decode cX8_init 708 = .ok (.bipush 9, 2) := by decide +kernel
theorem dX8_init_710 : decode cX8_init 710 = .ok (.bipush 34, 2) := by decide +kernel
theorem dX8_init_712 : decode cX8_init 712 = .ok (.iastore, 1) := by decide +kernel
theorem dX8_init_713 : decode cX8_init 713 = .ok (.dup, 1) := by decide +kernel
theorem dX8_init_714 : decode cX8_init 714 = .ok (.bipush 10, 2) := by decide +kernel
theorem dX8_init_716 : decode cX8_init 716 = .ok (.bipush 36, 2) := by decide +kernel
theorem dX8_init_718 : decode cX8_init 718 = .ok (.iastore, 1) := by decide +kernel
theorem dX8_init_719 : decode cX8_init 719 = .ok (.dup, 1) := by decide +kernel
theorem dX8_init_720 : decode cX8_init 720 = .ok (.bipush 11, 2) := by decide +kernel
theorem dX8_init_722 : decode cX8_init 722 = .ok (.bipush 39, 2) := by decide +kernel
theorem dX8_init_724 : decode cX8_init 724 = .ok (.iastore, 1) := by decide +kernel
theorem dX8_init_725 : decode cX8_init 725 = .ok (.dup, 1) := by decide +kernel
theorem dX8_init_726 : decode cX8_init 726 = .ok (.bipush 12, 2) := by decide +kernel
theorem dX8_init_728 : decode cX8_init 728 = .ok (.bipush 42, 2) := by decide +kernel
theorem dX8_init_730 : decode cX8_init 730 = .ok (.iastore, 1) := by decide +kernel
theorem dX8_init_731 : decode cX8_init 731 = .ok (.putfield 35, 3) := by decide +kernel
theorem dX8_init_734 : decode cX8_init 734 = .ok (.aload_n 0, 1) := by decide +kernel
theorem dX8_init_735 : decode cX8_init 735 = .ok (.sipush 160, 3) := by decide +kernel
theorem dX8_init_738 : decode cX8_init 738 = .ok (.newarray .int, 2) := by decide +kernel
theorem dX8_init_740 : decode cX8_init 740 = .ok (.putfield 38, 3) := by decide +kernel
theorem dX8_init_743 : decode cX8_init 743 = .ok (.aload_n 0, 1) := by decide +kernel
theorem dX8_init_744 : decode cX8_init 744 = .ok (.sipush 960, 3) := by decide +kernel
theorem dX8_init_747 : decode cX8_init 747 = .ok (.newarray .int, 2) := by decide +kernel
theorem dX8_init_749 : decode cX8_init 749 = .ok (.putfield 41, 3) := by decide +kernel
theorem dX8_init_752 : decode cX8_init 752 = .ok (.aload_n 0, 1) := by decide +kernel
theorem dX8_init_753 : decode cX8_init 753 = .ok (.bipush 24, 2) := by decide +kernel
theorem dX8_init_755 : decode cX8_init 755 = .ok (.newarray .int, 2) := by decide +kernel
theorem dX8_init_757 : decode cX8_init 757 = .ok (.putfield 44, 3) := by decide +kernel
theorem dX8_init_760 : decode cX8_init 760 = .ok (.aload_n 0, 1) := by decide +kernel
theorem dX8_init_761 : decode cX8_init 761 = .ok (.sipush 170, 3) := by decide +kernel
theorem dX8_init_764 : decode cX8_init 764 = .ok (.newarray .int, 2) := by decide +kernel
theorem dX8_init_766 : decode cX8_init 766 = .ok (.putfield 47, 3) := by decide +kernel
theorem dX8_init_769 : decode cX8_init 769 = .ok (.aload_n 0, 1) := by decide +kernel
theorem dX8_init_770 : decode cX8_init 770 = .ok (.bipush 6, 2) := by decide +kernel
theorem dX8_init_772 : decode cX8_init 772 = .ok (.newarray .int, 2) := by decide +kernel
theorem dX8_init_774 : decode cX8_init 774 = .ok (.putfield 50, 3) := by decide +kernel
theorem dX8_init_777 : decode cX8_init 777 = .ok (.aload_n 0, 1) := by decide +kernel
theorem dX8_init_778 : decode cX8_init 778 = .ok (.sipush 170, 3) := by decide +kernel
theorem dX8_init_781 : decode cX8_init 781 = .ok (.newarray .int, 2) := by decide +kernel
theorem dX8_init_783 : decode cX8_init 783 = .ok (.putfield 53, 3) := by decide +kernel
theorem dX8_init_786 : decode cX8_init 786 = .ok (.aload_n 0, 1) := by decide +kernel
theorem dX8_init_787 : decode cX8_init 787 = .ok (.iconst 4, 1) := by decide +kernel
theorem dX8_init_788 : decode cX8_init 788 = .ok (.newarray .int, 2) := by decide +kernel
theorem dX8_init_790 : decode cX8_init 790 = .ok (.putfield 56, 3) := by decide +kernel
theorem dX8_init_793 : decode cX8_init 793 = .ok (.aload_n 0, 1) := by decide +kernel
theorem dX8_init_794 : decode cX8_init 794 = .ok (.iconst 4, 1) := by decide +kernel
theorem dX8_init_795 : decode cX8_init 795 = .ok (.newarray .int, 2) := by decide +kernel
theorem dX8_init_797 : decode cX8_init 797 = .ok (.putfield 59, 3) := by decide +kernel
theorem dX8_init_800 : decode cX8_init 800 = .ok (.aload_n 0, 1) := by decide +kernel
theorem dX8_init_801 : decode cX8_init 801 = .ok (.bipush 77, 2) := by decide +kernel
theorem dX8_init_803 : decode cX8_init 803 = .ok (.newarray .int, 2) := by decide +kernel
theorem dX8_init_805 : decode cX8_init 805 = .ok (.putfield 62, 3) := by decide +kernel
theorem dX8_init_808 : decode cX8_init 808 = .ok (.aload_n 0, 1) := by decide +kernel
theorem dX8_init_809 : decode cX8_init 809 = .ok (.iconst 4, 1) := by decide +kernel
theorem dX8_init_810 : decode cX8_init 810 = .ok (.newarray .int, 2) := by decide +kernel
theorem dX8_init_812 : decode cX8_init 812 = .ok (.dup, 1) := by decide +kernel
theorem dX8_init_813 : decode cX8_init 813 = .ok (.iconst 0, 1) := by decide +kernel
theorem dX8_init_814 : decode cX8_init 814 = .ok (.iconst (-1), 1) := by decide +kernel
theorem dX8_init_815 : decode cX8_init 815 = .ok (.iastore, 1) := by decide +kernel
theorem dX8_init_816 : decode cX8_init 816 = .ok (.dup, 1) := by decide +kernel
theorem dX8_init_817 : decode cX8_init 817 = .ok (.iconst 1, 1) := by decide +kernel
theorem dX8_init_818 : decode cX8_init 818 = .ok (.iconst (-1), 1) := by decide +kernel
theorem dX8_init_819 : decode cX8_init 819 = .ok (.iastore, 1) := by decide +kernel
theorem dX8_init_820 : decode cX8_init 820 = .ok (.dup, 1) := by decide +kernel
theorem dX8_init_821 : decode cX8_init 821 = .ok (.iconst 2, 1) := by decide +kernel
theorem dX8_init_822 : decode cX8_init 822 = .ok (.iconst (-1), 1) := by decide +kernel
theorem dX8_init_823 : decode cX8_init 823 = .ok (.iastore, 1) := by decide +kernel
theorem dX8_init_824 : decode cX8_init 824 = .ok (.dup, 1) := by decide +kernel
theorem dX8_init_825 : decode cX8_init 825 = .ok (.iconst 3, 1) := by decide +kernel
theorem dX8_init_826 : decode cX8_init 826 = .ok (.iconst (-1), 1) := by decide +kernel
theorem dX8_init_827 : decode cX8_init 827 = .ok (.iastore, 1) := by decide +kernel
theorem dX8_init_828 : decode cX8_init 828 = .ok (.putfield 65, 3) := by decide +kernel
theorem dX8_init_831 : decode cX8_init 831 = .ok (.aload_n 0, 1) := by decide +kernel
theorem dX8_init_832 : decode cX8_init 832 = .ok (.iconst 4, 1) := by decide +kernel
theorem dX8_init_833 : decode cX8_init 833 = .ok (.newarray .int, 2) := by decide +kernel
theorem dX8_init_835 : decode cX8_init 835 = .ok (.putfield 68, 3) := by decide +kernel
theorem dX8_init_838 : decode cX8_init 838 = .ok (.aload_n 0, 1) := by decide +kernel
theorem dX8_init_839 : decode cX8_init 839 = .ok (.sipush 160, 3) := by decide +kernel
theorem dX8_init_842 : decode cX8_init 842 = .ok (.newarray .int, 2) := by decide +kernel
theorem dX8_init_844 : decode cX8_init 844 = .ok (.putfield 71, 3) := by decide +kernel
theorem dX8_init_847 : decode cX8_init 847 = .ok (.aload_n 0, 1) := by decide +kernel
theorem dX8_init_848 : decode cX8_init 848 = .ok (.bipush 40, 2) := by decide +kernel
theorem dX8_init_850 : decode cX8_init 850 = .ok (.newarray .int, 2) := by decide +kernel
theorem dX8_init_852 : decode cX8_init 852 = .ok (.putfield 74, 3) := by decide +kernel
theorem dX8_init_855 : decode cX8_init 855 = .ok (.aload_n 0, 1) := by decide +kernel
theorem dX8_init_856 : decode cX8_init 856 = .ok (.iconst 0, 1) := by decide +kernel
theorem dX8_init_857 : decode cX8_init 857 = .ok (.putfield 77, 3) := by decide +kernel
theorem dX8_init_860 : decode cX8_init 860 = .ok (.aload_n 0, 1) := by decide +kernel
theorem dX8_init_861 : decode cX8_init 861 = .ok (.iconst 0, 1) := by decide +kernel
theorem dX8_init_862 : decode cX8_init 862 = .ok (.putfield 80, 3) := by decide +kernel
theorem dX8_init_865 : decode cX8_init 865 = .ok (.iconst 0, 1) := by decide +kernel
theorem dX8_init_866 : decode cX8_init 866 = .ok (.istore_n 1, 1) := by decide +kernel
theorem dX8_init_867 : decode cX8_init 867 = .ok (.iload_n 1, 1) := by decide +kernel
theorem dX8_init_868 : decode cX8_init 868 = .ok (.bipush 56, 2) := by decide +kernel
theorem dX8_init_870 : decode cX8_init 870 = .ok (.if_icmp .ge 21, 3) := by decide +kernel
theorem dX8_init_873 : decode cX8_init 873 = .ok (.aload_n 0, 1) := by decide +kernel
theorem dX8_init_874 : decode cX8_init 874 = .ok (.getfield 38, 3) := by decide +kernel
theorem dX8_init_877 : decode cX8_init 877 = .ok (.iload_n 1, 1) := by decide +kernel
theorem dX8_init_878 : decode cX8_init 878 = .ok (.aload_n 0, 1) := by decide +kernel
theorem dX8_init_879 : decode cX8_init 879 = .ok (.getfield 29, 3) := by decide +kernel
theorem dX8_init_882 : decode cX8_init 882 = .ok (.iload_n 1, 1) := by decide +kernel
theorem dX8_init_883 : decode cX8_init 883 = .ok (.iaload, 1) := by decide +kernel
theorem dX8_init_884 : decode cX8_init 884 = .ok (.iastore, 1) := by decide +kernel
theorem dX8_init_885 : decode cX8_init 885 = .ok (.iinc 1 1, 3) := by decide +kernel
theorem dX8_init_888 : decode cX8_init 888 = .ok (.goto (-21), 3) := by decide +kernel
theorem dX8_init_891 : decode cX8_init 891 = .ok (.aload_n 0, 1) := by decide +kernel
theorem dX8_init_892 : decode cX8_init 892 = .ok (.bipush 56, 2) := by decide +kernel
theorem dX8_init_894 : decode cX8_init 894 = .ok (.putfield 80, 3) := by decide +kernel
theorem dX8_init_897 : decode cX8_init 897 = .ok (.aload_n 0, 1) := by decide +kernel
theorem dX8_init_898 : decode cX8_init 898 = .ok (.invokevirtual 83, 3) := by decide +kernel
theorem dX8_init_901 : decode cX8_init 901 = .ok (.pop, 1) := by decide +kernel
theorem dX8_init_902 : decode cX8_init 902 = .ok (.aload_n 0, 1) := by decide +kernel
theorem dX8_init_903 : decode cX8_init 903 = .ok (.iconst 1, 1) := by decide +kernel
theorem dX8_init_904 : decode cX8_init 904 = .ok (.putfield 87, 3) := by decide +kernel
theorem dX8_init_907 : decode cX8_init 907 = .ok (.aload_n 0, 1) := by decide +kernel
theorem dX8_init_908 : decode cX8_init 908 = .ok (.iconst 0, 1) := by decide +kernel
theorem dX8_init_909 : decode cX8_init 909 = .ok (.putfield 80, 3) := by decide +kernel
theorem dX8_init_912 : decode cX8_init 912 = .ok (.return_, 1) := by decide +kernel
theorem dX8_in_0 : decode cX8_in 0 = .ok (.lload_n 0, 1) := by decide +kernel
theorem dX8_in_1 : decode cX8_in 1 = .ok (.lload_n 2, 1) := by decide +kernel
theorem dX8_in_2 : decode cX8_in 2 = .ok (.lcmp, 1) := by decide +kernel
theorem dX8_in_3 : decode cX8_in 3 = .ok (.ifCond .lt 14, 3) := by decide +kernel
theorem dX8_in_6 : decode cX8_in 6 = .ok (.lload_n 0, 1) := by decide +kernel
theorem dX8_in_7 : decode cX8_in 7 = .ok (.lload 4, 2) := by decide +kernel
theorem dX8_in_9 : decode cX8_in 9 = .ok (.lcmp, 1) := by decide +kernel
theorem dX8_in_10 : decode cX8_in 10 = .ok (.ifCond .gt 7, 3) := by decide +kernel
theorem dX8_in_13 : decode cX8_in 13 = .ok (.iconst 1, 1) := by decide +kernel
theorem dX8_in_14 : decode cX8_in 14 = .ok (.goto 4, 3) := by decide +kernel
theorem dX8_in_17 : decode cX8_in 17 = .ok (.iconst 0, 1) := by decide +kernel
theorem dX8_in_18 : decode cX8_in 18 = .ok (.ireturn, 1) := by decide +kernel
theorem dX8_held_0 : decode cX8_held 0 = .ok (.iload_n 0, 1) := by decide +kernel
theorem dX8_held_1 : decode cX8_held 1 = .ok (.iload_n 1, 1) := by decide +kernel
theorem dX8_held_2 : decode cX8_held 2 = .ok (.if_icmp .ge 7, 3) := by decide +kernel
theorem dX8_held_5 : decode cX8_held 5 = .ok (.iload_n 1, 1) := by decide +kernel
theorem dX8_held_6 : decode cX8_held 6 = .ok (.goto 13, 3) := by decide +kernel
theorem dX8_held_9 : decode cX8_held 9 = .ok (.iload_n 0, 1) := by decide +kernel
theorem dX8_held_10 : decode cX8_held 10 = .ok (.iload_n 2, 1) := by decide +kernel
theorem dX8_held_11 : decode cX8_held 11 = .ok (.if_icmp .le 7, 3) := by decide +kernel
theorem dX8_held_14 : decode cX8_held 14 = .ok (.iload_n 2, 1) := by decide +kernel
theorem dX8_held_15 : decode cX8_held 15 = .ok (.goto 4, 3) := by decide +kernel
theorem dX8_held_18 : decode cX8_held 18 = .ok (.iload_n 0, 1) := by decide +kernel
theorem dX8_held_19 : decode cX8_held 19 = .ok (.ireturn, 1) := by decide +kernel
theorem dX8_isBlank_0 : decode cX8_isBlank 0 = .ok (.aload_n 0, 1) := by decide +kernel
theorem dX8_isBlank_1 : decode cX8_isBlank 1 = .ok (.getfield 38, 3) := by decide +kernel
theorem dX8_isBlank_4 : decode cX8_isBlank 4 = .ok (.iload_n 1, 1) := by decide +kernel
theorem dX8_isBlank_5 : decode cX8_isBlank 5 = .ok (.iaload, 1) := by decide +kernel
theorem dX8_isBlank_6 : decode cX8_isBlank 6 = .ok (.bipush 32, 2) := by decide +kernel
theorem dX8_isBlank_8 : decode cX8_isBlank 8 = .ok (.if_icmp .eq 14, 3) := by decide +kernel
theorem dX8_isBlank_11 : decode cX8_isBlank 11 = .ok (.aload_n 0, 1) := by decide +kernel
theorem dX8_isBlank_12 : decode cX8_isBlank 12 = .ok (.getfield 38, 3) := by decide +kernel
theorem dX8_isBlank_15 : decode cX8_isBlank 15 = .ok (.iload_n 1, 1) := by decide +kernel
theorem dX8_isBlank_16 : decode cX8_isBlank 16 = .ok (.iaload, 1) := by decide +kernel
theorem dX8_isBlank_17 : decode cX8_isBlank 17 = .ok (.bipush 10, 2) := by decide +kernel
theorem dX8_isBlank_19 : decode cX8_isBlank 19 = .ok (.if_icmp .ne 7, 3) := by decide +kernel
theorem dX8_isBlank_22 : decode cX8_isBlank 22 = .ok (.iconst 1, 1) := by decide +kernel
theorem dX8_isBlank_23 : decode cX8_isBlank 23 = .ok (.goto 4, 3) := by decide +kernel
theorem dX8_isBlank_26 : decode cX8_isBlank 26 = .ok (.iconst 0, 1) := by decide +kernel
theorem dX8_isBlank_27 : decode cX8_isBlank 27 = .ok (.ireturn, 1) := by decide +kernel
theorem dX8_isWord_0 : decode cX8_isWord 0 = .ok (.aload_n 0, 1) := by decide +kernel
theorem dX8_isWord_1 : decode cX8_isWord 1 = .ok (.getfield 35, 3) := by decide +kernel
theorem dX8_isWord_4 : decode cX8_isWord 4 = .ok (.iload_n 1, 1) := by decide +kernel
theorem dX8_isWord_5 : decode cX8_isWord 5 = .ok (.iconst 1, 1) := by decide +kernel
theorem dX8_isWord_6 : decode cX8_isWord 6 = .ok (.iadd, 1) := by decide +kernel
theorem dX8_isWord_7 : decode cX8_isWord 7 = .ok (.iaload, 1) := by decide +kernel
theorem dX8_isWord_8 : decode cX8_isWord 8 = .ok (.aload_n 0, 1) := by decide +kernel
theorem dX8_isWord_9 : decode cX8_isWord 9 = .ok (.getfield 35, 3) := by decide +kernel
theorem dX8_isWord_12 : decode cX8_isWord 12 = .ok (.iload_n 1, 1) := by decide +kernel
theorem dX8_isWord_13 : decode cX8_isWord 13 = .ok (.iaload, 1) := by decide +kernel
theorem dX8_isWord_14 : decode cX8_isWord 14 = .ok (.isub, 1) := by decide +kernel
theorem dX8_isWord_15 : decode cX8_isWord 15 = .ok (.istore 4, 2) := by decide +kernel
theorem dX8_isWord_17 : decode cX8_isWord 17 = .ok (.iload_n 3, 1) := by decide +kernel
theorem dX8_isWord_18 : decode cX8_isWord 18 = .ok (.iload_n 2, 1) := by decide +kernel
theorem dX8_isWord_19 : decode cX8_isWord 19 = .ok (.isub, 1) := by decide +kernel
theorem dX8_isWord_20 : decode cX8_isWord 20 = .ok (.iload 4, 2) := by decide +kernel
theorem dX8_isWord_22 : decode cX8_isWord 22 = .ok (.if_icmp .ne 7, 3) := by decide +kernel
theorem dX8_isWord_25 : decode cX8_isWord 25 = .ok (.iconst 1, 1) := by decide +kernel
theorem dX8_isWord_26 : decode cX8_isWord 26 = .ok (.goto 4, 3) := by decide +kernel
theorem dX8_isWord_29 : decode cX8_isWord 29 = .ok (.iconst 0, 1) := by decide +kernel
theorem dX8_isWord_30 : decode cX8_isWord 30 = .ok (.istore 5, 2) := by decide +kernel
theorem dX8_isWord_32 : decode cX8_isWord 32 = .ok (.iconst 0, 1) := by decide +kernel
theorem dX8_isWord_33 : decode cX8_isWord 33 = .ok (.istore 6, 2) := by decide +kernel
theorem dX8_isWord_35 : decode cX8_isWord 35 = .ok (.iload 6, 2) := by decide +kernel
theorem dX8_isWord_37 : decode cX8_isWord 37 = .ok (.iload 4, 2) := by decide +kernel
theorem dX8_isWord_39 : decode cX8_isWord 39 = .ok (.if_icmp .ge 47, 3) := by decide +kernel
theorem dX8_isWord_42 : decode cX8_isWord 42 = .ok (.iload 5, 2) := by decide +kernel
theorem dX8_isWord_44 : decode cX8_isWord 44 = .ok (.ifCond .eq 42, 3) := by decide +kernel
theorem dX8_isWord_47 : decode cX8_isWord 47 = .ok (.aload_n 0, 1) := by decide +kernel
theorem dX8_isWord_48 : decode cX8_isWord 48 = .ok (.getfield 38, 3) := by decide +kernel
theorem dX8_isWord_51 : decode cX8_isWord 51 = .ok (.iload_n 2, 1) := by decide +kernel
theorem dX8_isWord_52 : decode cX8_isWord 52 = .ok (.iload 6, 2) := by decide +kernel
theorem dX8_isWord_54 : decode cX8_isWord 54 = .ok (.iadd, 1) := by decide +kernel
theorem dX8_isWord_55 : decode cX8_isWord 55 = .ok (.iaload, 1) := by decide +kernel
theorem dX8_isWord_56 : decode cX8_isWord 56 = .ok (.aload_n 0, 1) := by decide +kernel
theorem dX8_isWord_57 : decode cX8_isWord 57 = .ok (.getfield 32, 3) := by decide +kernel
theorem dX8_isWord_60 : decode cX8_isWord 60 = .ok (.aload_n 0, 1) := by decide +kernel
theorem dX8_isWord_61 : decode cX8_isWord 61 = .ok (.getfield 35, 3) := by decide +kernel
theorem dX8_isWord_64 : decode cX8_isWord 64 = .ok (.iload_n 1, 1) := by decide +kernel
theorem dX8_isWord_65 : decode cX8_isWord 65 = .ok (.iaload, 1) := by decide +kernel
theorem dX8_isWord_66 : decode cX8_isWord 66 = .ok (.iload 6, 2) := by decide +kernel
theorem dX8_isWord_68 : decode cX8_isWord 68 = .ok (.iadd, 1) := by decide +kernel
theorem dX8_isWord_69 : decode cX8_isWord 69 = .ok (.iaload, 1) := by decide +kernel
theorem dX8_isWord_70 : decode cX8_isWord 70 = .ok (.if_icmp .ne 7, 3) := by decide +kernel
theorem dX8_isWord_73 : decode cX8_isWord 73 = .ok (.iconst 1, 1) := by decide +kernel
theorem dX8_isWord_74 : decode cX8_isWord 74 = .ok (.goto 4, 3) := by decide +kernel
theorem dX8_isWord_77 : decode cX8_isWord 77 = .ok (.iconst 0, 1) := by decide +kernel
theorem dX8_isWord_78 : decode cX8_isWord 78 = .ok (.istore 5, 2) := by decide +kernel
theorem dX8_isWord_80 : decode cX8_isWord 80 = .ok (.iinc 6 1, 3) := by decide +kernel
theorem dX8_isWord_83 : decode cX8_isWord 83 = .ok (.goto (-48), 3) := by decide +kernel
theorem dX8_isWord_86 : decode cX8_isWord 86 = .ok (.iload 5, 2) := by decide +kernel
theorem dX8_isWord_88 : decode cX8_isWord 88 = .ok (.ireturn, 1) := by decide +kernel
theorem dX8_readWord_0 : decode cX8_readWord 0 = .ok (.aload_n 0, 1) := by decide +kernel
theorem dX8_readWord_1 : decode cX8_readWord 1 = .ok (.getfield 90, 3) := by decide +kernel
theorem dX8_readWord_4 : decode cX8_readWord 4 = .ok (.aload_n 0, 1) := by decide +kernel
theorem dX8_readWord_5 : decode cX8_readWord 5 = .ok (.getfield 80, 3) := by decide +kernel
theorem dX8_readWord_8 : decode cX8_readWord 8 = .ok (.if_icmp .ge 38, 3) := by decide +kernel
theorem dX8_readWord_11 : decode cX8_readWord 11 = .ok (.aload_n 0, 1) := by decide +kernel
theorem dX8_readWord_12 : decode cX8_readWord 12 = .ok (.getfield 38, 3) := by decide +kernel
theorem dX8_readWord_15 : decode cX8_readWord 15 = .ok (.aload_n 0, 1) := by decide +kernel
theorem dX8_readWord_16 : decode cX8_readWord 16 = .ok (.getfield 90, 3) := by decide +kernel
theorem dX8_readWord_19 : decode cX8_readWord 19 = .ok (.iaload, 1) := by decide +kernel
theorem dX8_readWord_20 : decode cX8_readWord 20 = .ok (.i2l, 1) := by decide +kernel
theorem dX8_readWord_21 : decode cX8_readWord 21 = .ok (.ldc2_w 93, 3) := by decide +kernel
theorem dX8_readWord_24 : decode cX8_readWord 24 = .ok (.ldc2_w 95, 3) := by decide +kernel
theorem dX8_readWord_27 : decode cX8_readWord 27 = .ok (.invokestatic 97, 3) := by decide +kernel
theorem dX8_readWord_30 : decode cX8_readWord 30 = .ok (.ifCond .eq 16, 3) := by decide +kernel
theorem dX8_readWord_33 : decode cX8_readWord 33 = .ok (.aload_n 0, 1) := by decide +kernel
theorem dX8_readWord_34 : decode cX8_readWord 34 = .ok (.dup, 1) := by decide +kernel
theorem dX8_readWord_35 : decode cX8_readWord 35 = .ok (.getfield 90, 3) := by decide +kernel
theorem dX8_readWord_38 : decode cX8_readWord 38 = .ok (.iconst 1, 1) := by decide +kernel
theorem dX8_readWord_39 : decode cX8_readWord 39 = .ok (.iadd, 1) := by decide +kernel
theorem dX8_readWord_40 : decode cX8_readWord 40 = .ok (.putfield 90, 3) := by decide +kernel
theorem dX8_readWord_43 : decode cX8_readWord 43 = .ok (.goto (-43), 3) := by decide +kernel
theorem dX8_readWord_46 : decode cX8_readWord 46 = .ok (.aload_n 0, 1) := by decide +kernel
theorem dX8_readWord_47 : decode cX8_readWord 47 = .ok (.iconst 5, 1) := by decide +kernel
theorem dX8_readWord_48 : decode cX8_readWord 48 = .ok (.putfield 101, 3) := by decide +kernel
theorem dX8_readWord_51 : decode cX8_readWord 51 = .ok (.iconst 0, 1) := by decide +kernel
theorem dX8_readWord_52 : decode cX8_readWord 52 = .ok (.istore_n 1, 1) := by decide +kernel
theorem dX8_readWord_53 : decode cX8_readWord 53 = .ok (.iload_n 1, 1) := by decide +kernel
theorem dX8_readWord_54 : decode cX8_readWord 54 = .ok (.bipush 12, 2) := by decide +kernel
theorem dX8_readWord_56 : decode cX8_readWord 56 = .ok (.if_icmp .ge 45, 3) := by decide +kernel
theorem dX8_readWord_59 : decode cX8_readWord 59 = .ok (.aload_n 0, 1) := by decide +kernel
theorem dX8_readWord_60 : decode cX8_readWord 60 = .ok (.iload_n 1, 1) := by decide +kernel
theorem dX8_readWord_61 : decode cX8_readWord 61 = .ok (.aload_n 0, 1) := by decide +kernel
theorem dX8_readWord_62 : decode cX8_readWord 62 = .ok (.getfield 104, 3) := by decide +kernel
theorem dX8_readWord_65 : decode cX8_readWord 65 = .ok (.aload_n 0, 1) := by decide +kernel
theorem dX8_readWord_66 : decode cX8_readWord 66 = .ok (.getfield 90, 3) := by decide +kernel
theorem dX8_readWord_69 : decode cX8_readWord 69 = .ok (.invokevirtual 107, 3) := by decide +kernel
theorem dX8_readWord_72 : decode cX8_readWord 72 = .ok (.ifCond .eq 23, 3) := by decide +kernel
theorem dX8_readWord_75 : decode cX8_readWord 75 = .ok (.aload_n 0, 1) := by decide +kernel
theorem dX8_readWord_76 : decode cX8_readWord 76 = .ok (.iload_n 1, 1) := by decide +kernel
theorem dX8_readWord_77 : decode cX8_readWord 77 = .ok (.bipush 6, 2) := by decide +kernel
theorem dX8_readWord_79 : decode cX8_readWord 79 = .ok (.if_icmp .ge 7, 3) := by decide +kernel
theorem dX8_readWord_82 : decode cX8_readWord 82 = .ok (.iconst 2, 1) := by decide +kernel
theorem dX8_readWord_83 : decode cX8_readWord 83 = .ok (.goto 4, 3) := by decide +kernel
theorem dX8_readWord_86 : decode cX8_readWord 86 = .ok (.iconst 4, 1) := by decide +kernel
theorem dX8_readWord_87 : decode cX8_readWord 87 = .ok (.putfield 101, 3) := by decide +kernel
theorem dX8_readWord_90 : decode cX8_readWord 90 = .ok (.aload_n 0, 1) := by decide +kernel
theorem dX8_readWord_91 : decode cX8_readWord 91 = .ok (.iload_n 1, 1) := by decide +kernel
theorem dX8_readWord_92 : decode cX8_readWord 92 = .ok (.putfield 111, 3) := by decide +kernel
theorem dX8_readWord_95 : decode cX8_readWord 95 = .ok (.iinc 1 1, 3) := by decide +kernel
theorem dX8_readWord_98 : decode cX8_readWord 98 = .ok (.goto (-45), 3) := by decide +kernel
theorem dX8_readWord_101 : decode cX8_readWord 101 = .ok (.return_, 1) := by decide +kernel
theorem dX8_readNumber_0 : decode cX8_readNumber 0 = .ok (.aload_n 0, 1) := by decide +kernel
theorem dX8_readNumber_1 : decode cX8_readNumber 1 = .ok (.iconst 0, 1) := by decide +kernel
theorem dX8_readNumber_2 : decode cX8_readNumber 2 = .ok (.putfield 111, 3) := by decide +kernel
theorem dX8_readNumber_5 : decode cX8_readNumber 5 = .ok (.aload_n 0, 1) := by decide +kernel
theorem dX8_readNumber_6 : decode cX8_readNumber 6 = .ok (.getfield 90, 3) := by decide +kernel
theorem dX8_readNumber_9 : decode cX8_readNumber 9 = .ok (.aload_n 0, 1) := by decide +kernel
theorem dX8_readNumber_10 : decode cX8_readNumber 10 = .ok (.getfield 80, 3) := by decide +kernel
theorem dX8_readNumber_13 : decode cX8_readNumber 13 = .ok (.if_icmp .ge 79, 3) := by decide +kernel
theorem dX8_readNumber_16 : decode cX8_readNumber 16 = .ok (.aload_n 0, 1) := by decide +kernel
theorem dX8_readNumber_17 : decode cX8_readNumber 17 = .ok (.getfield 38, 3) := by decide +kernel
theorem dX8_readNumber_20 : decode cX8_readNumber 20 = .ok (.aload_n 0, 1) := by decide +kernel
theorem dX8_readNumber_21 : decode cX8_readNumber 21 = .ok (.getfield 90, 3) := by decide +kernel
theorem dX8_readNumber_24 : decode cX8_readNumber 24 = .ok (.iaload, 1) := by decide +kernel
theorem dX8_readNumber_25 : decode cX8_readNumber 25 = .ok (.i2l, 1) := by decide +kernel
theorem dX8_readNumber_26 : decode cX8_readNumber 26 = .ok (.ldc2_w 114, 3) := by decide +kernel
theorem dX8_readNumber_29 : decode cX8_readNumber 29 = .ok (.ldc2_w 116, 3) := by decide +kernel
theorem dX8_readNumber_32 : decode cX8_readNumber 32 = .ok (.invokestatic 97, 3) := by decide +kernel
theorem dX8_readNumber_35 : decode cX8_readNumber 35 = .ok (.ifCond .eq 57, 3) := by decide +kernel
theorem dX8_readNumber_38 : decode cX8_readNumber 38 = .ok (.aload_n 0, 1) := by decide +kernel
theorem dX8_readNumber_39 : decode cX8_readNumber 39 = .ok (.aload_n 0, 1) := by decide +kernel
theorem dX8_readNumber_40 : decode cX8_readNumber 40 = .ok (.getfield 111, 3) := by decide +kernel
theorem dX8_readNumber_43 : decode cX8_readNumber 43 = .ok (.sipush 9999, 3) := by decide +kernel
theorem dX8_readNumber_46 : decode cX8_readNumber 46 = .ok (.if_icmp .le 10, 3) := by decide +kernel
theorem dX8_readNumber_49 : decode cX8_readNumber 49 = .ok (.aload_n 0, 1) := by decide +kernel
theorem dX8_readNumber_50 : decode cX8_readNumber 50 = .ok (.getfield 111, 3) := by decide +kernel
theorem dX8_readNumber_53 : decode cX8_readNumber 53 = .ok (.goto 23, 3) := by decide +kernel
theorem dX8_readNumber_56 : decode cX8_readNumber 56 = .ok (.bipush 10, 2) := by decide +kernel
theorem dX8_readNumber_58 : decode cX8_readNumber 58 = .ok (.aload_n 0, 1) := by decide +kernel
theorem dX8_readNumber_59 : decode cX8_readNumber 59 = .ok (.getfield 111, 3) := by decide +kernel
theorem dX8_readNumber_62 : decode cX8_readNumber 62 = .ok (.imul, 1) := by decide +kernel
theorem dX8_readNumber_63 : decode cX8_readNumber 63 = .ok (.aload_n 0, 1) := by decide +kernel
theorem dX8_readNumber_64 : decode cX8_readNumber 64 = .ok (.getfield 38, 3) := by decide +kernel
theorem dX8_readNumber_67 : decode cX8_readNumber 67 = .ok (.aload_n 0, 1) := by decide +kernel
theorem dX8_readNumber_68 : decode cX8_readNumber 68 = .ok (.getfield 90, 3) := by decide +kernel
theorem dX8_readNumber_71 : decode cX8_readNumber 71 = .ok (.iaload, 1) := by decide +kernel
theorem dX8_readNumber_72 : decode cX8_readNumber 72 = .ok (.iadd, 1) := by decide +kernel
theorem dX8_readNumber_73 : decode cX8_readNumber 73 = .ok (.bipush 48, 2) := by decide +kernel
theorem dX8_readNumber_75 : decode cX8_readNumber 75 = .ok (.isub, 1) := by decide +kernel
theorem dX8_readNumber_76 : decode cX8_readNumber 76 = .ok (.putfield 111, 3) := by decide +kernel
theorem dX8_readNumber_79 : decode cX8_readNumber 79 = .ok (.aload_n 0, 1) := by decide +kernel
theorem dX8_readNumber_80 : decode cX8_readNumber 80 = .ok (.dup, 1) := by decide +kernel
theorem dX8_readNumber_81 : decode cX8_readNumber 81 = .ok (.getfield 90, 3) := by decide +kernel
theorem dX8_readNumber_84 : decode cX8_readNumber 84 = .ok (.iconst 1, 1) := by decide +kernel
theorem dX8_readNumber_85 : decode cX8_readNumber 85 = .ok (.iadd, 1) := by decide +kernel
theorem dX8_readNumber_86 : decode cX8_readNumber 86 = .ok (.putfield 90, 3) := by decide +kernel
theorem dX8_readNumber_89 : decode cX8_readNumber 89 = .ok (.goto (-84), 3) := by decide +kernel
theorem dX8_readNumber_92 : decode cX8_readNumber 92 = .ok (.aload_n 0, 1) := by decide +kernel
theorem dX8_readNumber_93 : decode cX8_readNumber 93 = .ok (.aload_n 0, 1) := by decide +kernel
theorem dX8_readNumber_94 : decode cX8_readNumber 94 = .ok (.getfield 90, 3) := by decide +kernel
theorem dX8_readNumber_97 : decode cX8_readNumber 97 = .ok (.aload_n 0, 1) := by decide +kernel
theorem dX8_readNumber_98 : decode cX8_readNumber 98 = .ok (.getfield 104, 3) := by decide +kernel
theorem dX8_readNumber_101 : decode cX8_readNumber 101 = .ok (.isub, 1) := by decide +kernel
theorem dX8_readNumber_102 : decode cX8_readNumber 102 = .ok (.iconst 4, 1) := by decide +kernel
theorem dX8_readNumber_103 : decode cX8_readNumber 103 = .ok (.if_icmp .le 7, 3) := by decide +kernel
theorem dX8_readNumber_106 : decode cX8_readNumber 106 = .ok (.iconst 5, 1) := by decide +kernel
theorem dX8_readNumber_107 : decode cX8_readNumber 107 = .ok (.goto 4, 3) := by decide +kernel
theorem dX8_readNumber_110 : decode cX8_readNumber 110 = .ok (.iconst 1, 1) := by decide +kernel
theorem dX8_readNumber_111 : decode cX8_readNumber 111 = .ok (.putfield 101, 3) := by decide +kernel
theorem dX8_readNumber_114 : decode cX8_readNumber 114 = .ok (.return_, 1) := by decide +kernel
theorem dX8_readToken_0 : decode cX8_readToken 0 = .ok (.aload_n 0, 1) := by decide +kernel
theorem dX8_readToken_1 : decode cX8_readToken 1 = .ok (.getfield 90, 3) := by decide +kernel
theorem dX8_readToken_4 : decode cX8_readToken 4 = .ok (.aload_n 0, 1) := by decide +kernel
theorem dX8_readToken_5 : decode cX8_readToken 5 = .ok (.getfield 80, 3) := by decide +kernel
theorem dX8_readToken_8 : decode cX8_readToken 8 = .ok (.if_icmp .ge 27, 3) := by decide +kernel
theorem dX8_readToken_11 : decode cX8_readToken 11 = .ok (.aload_n 0, 1) := by decide +kernel
theorem dX8_readToken_12 : decode cX8_readToken 12 = .ok (.aload_n 0, 1) := by decide +kernel
theorem dX8_readToken_13 : decode cX8_readToken 13 = .ok (.getfield 90, 3) := by decide +kernel
theorem dX8_readToken_16 : decode cX8_readToken 16 = .ok (.invokevirtual 118, 3) := by decide +kernel
theorem dX8_readToken_19 : decode cX8_readToken 19 = .ok (.ifCond .eq 16, 3) := by decide +kernel
theorem dX8_readToken_22 : decode cX8_readToken 22 = .ok (.aload_n 0, 1) := by decide +kernel
theorem dX8_readToken_23 : decode cX8_readToken 23 = .ok (.dup, 1) := by decide +kernel
theorem dX8_readToken_24 : decode cX8_readToken 24 = .ok (.getfield 90, 3) := by decide +kernel
theorem dX8_readToken_27 : decode cX8_readToken 27 = .ok (.iconst 1, 1) := by decide +kernel
theorem dX8_readToken_28 : decode cX8_readToken 28 = .ok (.iadd, 1) := by decide +kernel
theorem dX8_readToken_29 : decode cX8_readToken 29 = .ok (.putfield 90, 3) := by decide +kernel
theorem dX8_readToken_32 : decode cX8_readToken 32 = .ok (.goto (-32), 3) := by decide +kernel
theorem dX8_readToken_35 : decode cX8_readToken 35 = .ok (.aload_n 0, 1) := by decide +kernel
theorem dX8_readToken_36 : decode cX8_readToken 36 = .ok (.aload_n 0, 1) := by decide +kernel
theorem dX8_readToken_37 : decode cX8_readToken 37 = .ok (.getfield 90, 3) := by decide +kernel
theorem dX8_readToken_40 : decode cX8_readToken 40 = .ok (.putfield 104, 3) := by decide +kernel
theorem dX8_readToken_43 : decode cX8_readToken 43 = .ok (.aload_n 0, 1) := by decide +kernel
theorem dX8_readToken_44 : decode cX8_readToken 44 = .ok (.getfield 90, 3) := by decide +kernel
theorem dX8_readToken_47 : decode cX8_readToken 47 = .ok (.aload_n 0, 1) := by decide +kernel
theorem dX8_readToken_48 : decode cX8_readToken 48 = .ok (.getfield 80, 3) := by decide +kernel
theorem dX8_readToken_51 : decode cX8_readToken 51 = .ok (.if_icmp .ne 9, 3) := by decide +kernel
theorem dX8_readToken_54 : decode cX8_readToken 54 = .ok (.aload_n 0, 1) := by decide +kernel
theorem dX8_readToken_55 : decode cX8_readToken 55 = .ok (.iconst 0, 1) := by decide +kernel
theorem dX8_readToken_56 : decode cX8_readToken 56 = .ok (.putfield 101, 3) := by decide +kernel
theorem dX8_readToken_59 : decode cX8_readToken 59 = .ok (.return_, 1) := by decide +kernel
theorem dX8_readToken_60 : decode cX8_readToken 60 = .ok (.aload_n 0, 1) := by decide +kernel
theorem dX8_readToken_61 : decode cX8_readToken 61 = .ok (.getfield 38, 3) := by decide +kernel
theorem dX8_readToken_64 : decode cX8_readToken 64 = .ok (.aload_n 0, 1) := by decide +kernel
theorem dX8_readToken_65 : decode cX8_readToken 65 = .ok (.getfield 90, 3) := by decide +kernel
theorem dX8_readToken_68 : decode cX8_readToken 68 = .ok (.iaload, 1) := by decide +kernel
theorem dX8_readToken_69 : decode cX8_readToken 69 = .ok (.istore_n 1, 1) := by decide +kernel
theorem dX8_readToken_70 : decode cX8_readToken 70 = .ok (.iload_n 1, 1) := by decide +kernel
theorem dX8_readToken_71 : decode cX8_readToken 71 = .ok (.i2l, 1) := by decide +kernel
theorem dX8_readToken_72 : decode cX8_readToken 72 = .ok (.ldc2_w 93, 3) := by decide +kernel
theorem dX8_readToken_75 : decode cX8_readToken 75 = .ok (.ldc2_w 95, 3) := by decide +kernel
theorem dX8_readToken_78 : decode cX8_readToken 78 = .ok (.invokestatic 97, 3) := by decide +kernel
theorem dX8_readToken_81 : decode cX8_readToken 81 = .ok (.ifCond .eq 8, 3) := by decide +kernel
theorem dX8_readToken_84 : decode cX8_readToken 84 = .ok (.aload_n 0, 1) := by decide +kernel
theorem dX8_readToken_85 : decode cX8_readToken 85 = .ok (.invokevirtual 122, 3) := by decide +kernel
theorem dX8_readToken_88 : decode cX8_readToken 88 = .ok (.return_, 1) := by decide +kernel
theorem dX8_readToken_89 : decode cX8_readToken 89 = .ok (.iload_n 1, 1) := by decide +kernel
theorem dX8_readToken_90 : decode cX8_readToken 90 = .ok (.i2l, 1) := by decide +kernel
theorem dX8_readToken_91 : decode cX8_readToken 91 = .ok (.ldc2_w 114, 3) := by decide +kernel
theorem dX8_readToken_94 : decode cX8_readToken 94 = .ok (.ldc2_w 116, 3) := by decide +kernel
theorem dX8_readToken_97 : decode cX8_readToken 97 = .ok (.invokestatic 97, 3) := by decide +kernel
theorem dX8_readToken_100 : decode cX8_readToken 100 = .ok (.ifCond .eq 8, 3) := by decide +kernel
theorem dX8_readToken_103 : decode cX8_readToken 103 = .ok (.aload_n 0, 1) := by decide +kernel
theorem dX8_readToken_104 : decode cX8_readToken 104 = .ok (.invokevirtual 125, 3) := by decide +kernel
theorem dX8_readToken_107 : decode cX8_readToken 107 = .ok (.return_, 1) := by decide +kernel
theorem dX8_readToken_108 : decode cX8_readToken 108 = .ok (.aload_n 0, 1) := by decide +kernel
theorem dX8_readToken_109 : decode cX8_readToken 109 = .ok (.dup, 1) := by decide +kernel
theorem dX8_readToken_110 : decode cX8_readToken 110 = .ok (.getfield 90, 3) := by decide +kernel
theorem dX8_readToken_113 : decode cX8_readToken 113 = .ok (.iconst 1, 1) := by decide +kernel
theorem dX8_readToken_114 : decode cX8_readToken 114 = .ok (.iadd, 1) := by decide +kernel
theorem dX8_readToken_115 : decode cX8_readToken 115 = .ok (.putfield 90, 3) := by decide +kernel
theorem dX8_readToken_118 : decode cX8_readToken 118 = .ok (.iload_n 1, 1) := by decide +kernel
theorem dX8_readToken_119 : decode cX8_readToken 119 = .ok (.bipush 40, 2) := by decide +kernel
theorem dX8_readToken_121 : decode cX8_readToken 121 = .ok (.if_icmp .eq 45, 3) := by decide +kernel
theorem dX8_readToken_124 : decode cX8_readToken 124 = .ok (.iload_n 1, 1) := by decide +kernel
theorem dX8_readToken_125 : decode cX8_readToken 125 = .ok (.bipush 41, 2) := by decide +kernel
theorem dX8_readToken_127 : decode cX8_readToken 127 = .ok (.if_icmp .eq 39, 3) := by decide +kernel
theorem dX8_readToken_130 : decode cX8_readToken 130 = .ok (.iload_n 1, 1) := by decide +kernel
theorem dX8_readToken_131 : decode cX8_readToken 131 = .ok (.bipush 59, 2) := by decide +kernel
theorem dX8_readToken_133 : decode cX8_readToken 133 = .ok (.if_icmp .eq 33, 3) := by decide +kernel
theorem dX8_readToken_136 : decode cX8_readToken 136 = .ok (.iload_n 1, 1) := by decide +kernel
theorem dX8_readToken_137 : decode cX8_readToken 137 = .ok (.bipush 43, 2) := by decide +kernel
theorem dX8_readToken_139 : decode cX8_readToken 139 = .ok (.if_icmp .eq 27, 3) := by decide +kernel
theorem dX8_readToken_142 : decode cX8_readToken 142 = .ok (.iload_n 1, 1) := by decide +kernel
theorem dX8_readToken_143 : decode cX8_readToken 143 = .ok (.bipush 45, 2) := by decide +kernel
theorem dX8_readToken_145 : decode cX8_readToken 145 = .ok (.if_icmp .eq 21, 3) := by decide +kernel
theorem dX8_readToken_148 : decode cX8_readToken 148 = .ok (.iload_n 1, 1) := by decide +kernel
theorem dX8_readToken_149 : decode cX8_readToken 149 = .ok (.bipush 42, 2) := by decide +kernel
theorem dX8_readToken_151 : decode cX8_readToken 151 = .ok (.if_icmp .eq 15, 3) := by decide +kernel
theorem dX8_readToken_154 : decode cX8_readToken 154 = .ok (.iload_n 1, 1) := by decide +kernel
theorem dX8_readToken_155 : decode cX8_readToken 155 = .ok (.bipush 60, 2) := by decide +kernel
theorem dX8_readToken_157 : decode cX8_readToken 157 = .ok (.if_icmp .eq 9, 3) := by decide +kernel
theorem dX8_readToken_160 : decode cX8_readToken 160 = .ok (.iload_n 1, 1) := by decide +kernel
theorem dX8_readToken_161 : decode cX8_readToken 161 = .ok (.bipush 61, 2) := by decide +kernel
theorem dX8_readToken_163 : decode cX8_readToken 163 = .ok (.if_icmp .ne 7, 3) := by decide +kernel
theorem dX8_readToken_166 : decode cX8_readToken 166 = .ok (.iconst 1, 1) := by decide +kernel
theorem dX8_readToken_167 : decode cX8_readToken 167 = .ok (.goto 4, 3) := by decide +kernel
theorem dX8_readToken_170 : decode cX8_readToken 170 = .ok (.iconst 0, 1) := by decide +kernel
theorem dX8_readToken_171 : decode cX8_readToken 171 = .ok (.istore_n 2, 1) := by decide +kernel
theorem dX8_readToken_172 : decode cX8_readToken 172 = .ok (.aload_n 0, 1) := by decide +kernel
theorem dX8_readToken_173 : decode cX8_readToken 173 = .ok (.iload_n 2, 1) := by decide +kernel
theorem dX8_readToken_174 : decode cX8_readToken 174 = .ok (.ifCond .eq 7, 3) := by decide +kernel
theorem dX8_readToken_177 : decode cX8_readToken 177 = .ok (.iconst 3, 1) := by decide +kernel
theorem dX8_readToken_178 : decode cX8_readToken 178 = .ok (.goto 4, 3) := by decide +kernel
theorem dX8_readToken_181 : decode cX8_readToken 181 = .ok (.iconst 5, 1) := by decide +kernel
theorem dX8_readToken_182 : decode cX8_readToken 182 = .ok (.putfield 101, 3) := by decide +kernel
theorem dX8_readToken_185 : decode cX8_readToken 185 = .ok (.aload_n 0, 1) := by decide +kernel
theorem dX8_readToken_186 : decode cX8_readToken 186 = .ok (.iload_n 1, 1) := by decide +kernel
theorem dX8_readToken_187 : decode cX8_readToken 187 = .ok (.putfield 111, 3) := by decide +kernel
theorem dX8_readToken_190 : decode cX8_readToken 190 = .ok (.return_, 1) := by decide +kernel
theorem dX8_isSign_0 : decode cX8_isSign 0 = .ok (.aload_n 0, 1) := by decide +kernel
theorem dX8_isSign_1 : decode cX8_isSign 1 = .ok (.getfield 101, 3) := by decide +kernel
theorem dX8_isSign_4 : decode cX8_isSign 4 = .ok (.iconst 3, 1) := by decide +kernel
theorem dX8_isSign_5 : decode cX8_isSign 5 = .ok (.if_icmp .ne 15, 3) := by decide +kernel
theorem dX8_isSign_8 : decode cX8_isSign 8 = .ok (.aload_n 0, 1) := by decide +kernel
theorem dX8_isSign_9 : decode cX8_isSign 9 = .ok (.getfield 111, 3) := by decide +kernel
theorem dX8_isSign_12 : decode cX8_isSign 12 = .ok (.iload_n 1, 1) := by decide +kernel
theorem dX8_isSign_13 : decode cX8_isSign 13 = .ok (.if_icmp .ne 7, 3) := by decide +kernel
theorem dX8_isSign_16 : decode cX8_isSign 16 = .ok (.iconst 1, 1) := by decide +kernel
theorem dX8_isSign_17 : decode cX8_isSign 17 = .ok (.goto 4, 3) := by decide +kernel
theorem dX8_isSign_20 : decode cX8_isSign 20 = .ok (.iconst 0, 1) := by decide +kernel
theorem dX8_isSign_21 : decode cX8_isSign 21 = .ok (.ireturn, 1) := by decide +kernel
theorem dX8_isKey_0 : decode cX8_isKey 0 = .ok (.aload_n 0, 1) := by decide +kernel
theorem dX8_isKey_1 : decode cX8_isKey 1 = .ok (.getfield 101, 3) := by decide +kernel
theorem dX8_isKey_4 : decode cX8_isKey 4 = .ok (.iconst 4, 1) := by decide +kernel
theorem dX8_isKey_5 : decode cX8_isKey 5 = .ok (.if_icmp .ne 15, 3) := by decide +kernel
theorem dX8_isKey_8 : decode cX8_isKey 8 = .ok (.aload_n 0, 1) := by decide +kernel
theorem dX8_isKey_9 : decode cX8_isKey 9 = .ok (.getfield 111, 3) := by decide +kernel
theorem dX8_isKey_12 : decode cX8_isKey 12 = .ok (.iload_n 1, 1) := by decide +kernel
theorem dX8_isKey_13 : decode cX8_isKey 13 = .ok (.if_icmp .ne 7, 3) := by decide +kernel
theorem dX8_isKey_16 : decode cX8_isKey 16 = .ok (.iconst 1, 1) := by decide +kernel
theorem dX8_isKey_17 : decode cX8_isKey 17 = .ok (.goto 4, 3) := by decide +kernel
theorem dX8_isKey_20 : decode cX8_isKey 20 = .ok (.iconst 0, 1) := by decide +kernel
theorem dX8_isKey_21 : decode cX8_isKey 21 = .ok (.ireturn, 1) := by decide +kernel
theorem dX8_step_0 : decode cX8_step 0 = .ok (.aload_n 0, 1) := by decide +kernel
theorem dX8_step_1 : decode cX8_step 1 = .ok (.getfield 41, 3) := by decide +kernel
theorem dX8_step_4 : decode cX8_step 4 = .ok (.sipush 160, 3) := by decide +kernel
theorem dX8_step_7 : decode cX8_step 7 = .ok (.aload_n 0, 1) := by decide +kernel
theorem dX8_step_8 : decode cX8_step 8 = .ok (.getfield 87, 3) := by decide +kernel
theorem dX8_step_11 : decode cX8_step 11 = .ok (.imul, 1) := by decide +kernel
theorem dX8_step_12 : decode cX8_step 12 = .ok (.aload_n 0, 1) := by decide +kernel
theorem dX8_step_13 : decode cX8_step 13 = .ok (.getfield 128, 3) := by decide +kernel
theorem dX8_step_16 : decode cX8_step 16 = .ok (.iadd, 1) := by decide +kernel
theorem dX8_step_17 : decode cX8_step 17 = .ok (.iload_n 1, 1) := by decide +kernel
theorem dX8_step_18 : decode cX8_step 18 = .ok (.iastore, 1) := by decide +kernel
theorem dX8_step_19 : decode cX8_step 19 = .ok (.aload_n 0, 1) := by decide +kernel
theorem dX8_step_20 : decode cX8_step 20 = .ok (.dup, 1) := by decide +kernel
theorem dX8_step_21 : decode cX8_step 21 = .ok (.getfield 128, 3) := by decide +kernel
theorem dX8_step_24 : decode cX8_step 24 = .ok (.iconst 1, 1) := by decide +kernel
theorem dX8_step_25 : decode cX8_step 25 = .ok (.iadd, 1) := by decide +kernel
theorem dX8_step_26 : decode cX8_step 26 = .ok (.putfield 128, 3) := by decide +kernel
theorem dX8_step_29 : decode cX8_step 29 = .ok (.return_, 1) := by decide +kernel
theorem dX8_rank_0 : decode cX8_rank 0 = .ok (.iload_n 0, 1) := by decide +kernel
theorem dX8_rank_1 : decode cX8_rank 1 = .ok (.bipush 10, 2) := by decide +kernel
theorem dX8_rank_3 : decode cX8_rank 3 = .ok (.if_icmp .ne 7, 3) := by decide +kernel
theorem dX8_rank_6 : decode cX8_rank 6 = .ok (.iconst 1, 1) := by decide +kernel
theorem dX8_rank_7 : decode cX8_rank 7 = .ok (.goto 66, 3) := by decide +kernel
theorem dX8_rank_10 : decode cX8_rank 10 = .ok (.iload_n 0, 1) := by decide +kernel
theorem dX8_rank_11 : decode cX8_rank 11 = .ok (.bipush 11, 2) := by decide +kernel
theorem dX8_rank_13 : decode cX8_rank 13 = .ok (.if_icmp .ne 7, 3) := by decide +kernel
theorem dX8_rank_16 : decode cX8_rank 16 = .ok (.iconst 2, 1) := by decide +kernel
theorem dX8_rank_17 : decode cX8_rank 17 = .ok (.goto 56, 3) := by decide +kernel
theorem dX8_rank_20 : decode cX8_rank 20 = .ok (.iload_n 0, 1) := by decide +kernel
theorem dX8_rank_21 : decode cX8_rank 21 = .ok (.bipush 12, 2) := by decide +kernel
theorem dX8_rank_23 : decode cX8_rank 23 = .ok (.if_icmp .ne 7, 3) := by decide +kernel
theorem dX8_rank_26 : decode cX8_rank 26 = .ok (.iconst 3, 1) := by decide +kernel
theorem dX8_rank_27 : decode cX8_rank 27 = .ok (.goto 46, 3) := by decide +kernel
theorem dX8_rank_30 : decode cX8_rank 30 = .ok (.iload_n 0, 1) := by decide +kernel
theorem dX8_rank_31 : decode cX8_rank 31 = .ok (.bipush 15, 2) := by decide +kernel
theorem dX8_rank_33 : decode cX8_rank 33 = .ok (.if_icmp .ge 7, 3) := by decide +kernel
theorem dX8_rank_36 : decode cX8_rank 36 = .ok (.iconst 4, 1) := by decide +kernel
theorem dX8_rank_37 : decode cX8_rank 37 = .ok (.goto 36, 3) := by decide +kernel
theorem dX8_rank_40 : decode cX8_rank 40 = .ok (.iload_n 0, 1) := by decide +kernel
theorem dX8_rank_41 : decode cX8_rank 41 = .ok (.bipush 17, 2) := by decide +kernel
theorem dX8_rank_43 : decode cX8_rank 43 = .ok (.if_icmp .ge 7, 3) := by decide +kernel
theorem dX8_rank_46 : decode cX8_rank 46 = .ok (.iconst 5, 1) := by decide +kernel
theorem dX8_rank_47 : decode cX8_rank 47 = .ok (.goto 26, 3) := by decide +kernel
theorem dX8_rank_50 : decode cX8_rank 50 = .ok (.iload_n 0, 1) := by decide +kernel
theorem dX8_rank_51 : decode cX8_rank 51 = .ok (.bipush 17, 2) := by decide +kernel
theorem dX8_rank_53 : decode cX8_rank 53 = .ok (.if_icmp .ne 8, 3) := by decide +kernel
theorem dX8_rank_56 : decode cX8_rank 56 = .ok (.bipush 6, 2) := by decide +kernel
theorem dX8_rank_58 : decode cX8_rank 58 = .ok (.goto 15, 3) := by decide +kernel
theorem dX8_rank_61 : decode cX8_rank 61 = .ok (.iload_n 0, 1) := by decide +kernel
theorem dX8_rank_62 : decode cX8_rank 62 = .ok (.bipush 18, 2) := by decide +kernel
theorem dX8_rank_64 : decode cX8_rank 64 = .ok (.if_icmp .ne 8, 3) := by decide +kernel
theorem dX8_rank_67 : decode cX8_rank 67 = .ok (.bipush 7, 2) := by decide +kernel
theorem dX8_rank_69 : decode cX8_rank 69 = .ok (.goto 4, 3) := by decide +kernel
theorem dX8_rank_72 : decode cX8_rank 72 = .ok (.iconst 0, 1) := by decide +kernel
theorem dX8_rank_73 : decode cX8_rank 73 = .ok (.ireturn, 1) := by decide +kernel
theorem dX8_letGo_0 : decode cX8_letGo 0 = .ok (.aload_n 0, 1) := by decide +kernel
theorem dX8_letGo_1 : decode cX8_letGo 1 = .ok (.getfield 131, 3) := by decide +kernel
theorem dX8_letGo_4 : decode cX8_letGo 4 = .ok (.ifCond .le 47, 3) := by decide +kernel
theorem dX8_letGo_7 : decode cX8_letGo 7 = .ok (.aload_n 0, 1) := by decide +kernel
theorem dX8_letGo_8 : decode cX8_letGo 8 = .ok (.getfield 47, 3) := by decide +kernel
theorem dX8_letGo_11 : decode cX8_letGo 11 = .ok (.aload_n 0, 1) := by decide +kernel
theorem dX8_letGo_12 : decode cX8_letGo 12 = .ok (.getfield 131, 3) := by decide +kernel
theorem dX8_letGo_15 : decode cX8_letGo 15 = .ok (.iconst 1, 1) := by decide +kernel
theorem dX8_letGo_16 : decode cX8_letGo 16 = .ok (.isub, 1) := by decide +kernel
theorem dX8_letGo_17 : decode cX8_letGo 17 = .ok (.iaload, 1) := by decide +kernel
theorem dX8_letGo_18 : decode cX8_letGo 18 = .ok (.invokestatic 134, 3) := by decide +kernel
theorem dX8_letGo_21 : decode cX8_letGo 21 = .ok (.iload_n 1, 1) := by decide +kernel
theorem dX8_letGo_22 : decode cX8_letGo 22 = .ok (.if_icmp .lt 29, 3) := by decide +kernel
theorem dX8_letGo_25 : decode cX8_letGo 25 = .ok (.aload_n 0, 1) := by decide +kernel
theorem dX8_letGo_26 : decode cX8_letGo 26 = .ok (.dup, 1) := by decide +kernel
theorem dX8_letGo_27 : decode cX8_letGo 27 = .ok (.getfield 131, 3) := by decide +kernel
theorem dX8_letGo_30 : decode cX8_letGo 30 = .ok (.iconst 1, 1) := by decide +kernel
theorem dX8_letGo_31 : decode cX8_letGo 31 = .ok (.isub, 1) := by decide +kernel
theorem dX8_letGo_32 : decode cX8_letGo 32 = .ok (.putfield 131, 3) := by decide +kernel
theorem dX8_letGo_35 : decode cX8_letGo 35 = .ok (.aload_n 0, 1) := by decide +kernel
theorem dX8_letGo_36 : decode cX8_letGo 36 = .ok (.aload_n 0, 1) := by decide +kernel
theorem dX8_letGo_37 : decode cX8_letGo 37 = .ok (.getfield 47, 3) := by decide +kernel
theorem dX8_letGo_40 : decode cX8_letGo 40 = .ok (.aload_n 0, 1) := by decide +kernel
theorem dX8_letGo_41 : decode cX8_letGo 41 = .ok (.getfield 131, 3) := by decide +kernel
theorem dX8_letGo_44 : decode cX8_letGo 44 = .ok (.iaload, 1) := by decide +kernel
theorem dX8_letGo_45 : decode cX8_letGo 45 = .ok (.invokevirtual 138, 3) := by decide +kernel
theorem dX8_letGo_48 : decode cX8_letGo 48 = .ok (.goto (-48), 3) := by decide +kernel
theorem dX8_letGo_51 : decode cX8_letGo 51 = .ok (.return_, 1) := by decide +kernel
theorem dX8_opened_0 : decode cX8_opened 0 = .ok (.iconst 0, 1) := by decide +kernel
theorem dX8_opened_1 : decode cX8_opened 1 = .ok (.istore_n 1, 1) := by decide +kernel
theorem dX8_opened_2 : decode cX8_opened 2 = .ok (.iconst 0, 1) := by decide +kernel
theorem dX8_opened_3 : decode cX8_opened 3 = .ok (.istore_n 2, 1) := by decide +kernel
theorem dX8_opened_4 : decode cX8_opened 4 = .ok (.iload_n 2, 1) := by decide +kernel
theorem dX8_opened_5 : decode cX8_opened 5 = .ok (.aload_n 0, 1) := by decide +kernel
theorem dX8_opened_6 : decode cX8_opened 6 = .ok (.getfield 131, 3) := by decide +kernel
theorem dX8_opened_9 : decode cX8_opened 9 = .ok (.if_icmp .ge 50, 3) := by decide +kernel
theorem dX8_opened_12 : decode cX8_opened 12 = .ok (.iload_n 1, 1) := by decide +kernel
theorem dX8_opened_13 : decode cX8_opened 13 = .ok (.aload_n 0, 1) := by decide +kernel
theorem dX8_opened_14 : decode cX8_opened 14 = .ok (.getfield 47, 3) := by decide +kernel
theorem dX8_opened_17 : decode cX8_opened 17 = .ok (.iload_n 2, 1) := by decide +kernel
theorem dX8_opened_18 : decode cX8_opened 18 = .ok (.iaload, 1) := by decide +kernel
theorem dX8_opened_19 : decode cX8_opened 19 = .ok (.bipush 12, 2) := by decide +kernel
theorem dX8_opened_21 : decode cX8_opened 21 = .ok (.if_icmp .eq 25, 3) := by decide +kernel
theorem dX8_opened_24 : decode cX8_opened 24 = .ok (.aload_n 0, 1) := by decide +kernel
theorem dX8_opened_25 : decode cX8_opened 25 = .ok (.getfield 47, 3) := by decide +kernel
theorem dX8_opened_28 : decode cX8_opened 28 = .ok (.iload_n 2, 1) := by decide +kernel
theorem dX8_opened_29 : decode cX8_opened 29 = .ok (.iaload, 1) := by decide +kernel
theorem dX8_opened_30 : decode cX8_opened 30 = .ok (.bipush 18, 2) := by decide +kernel
theorem dX8_opened_32 : decode cX8_opened 32 = .ok (.if_icmp .eq 14, 3) := by decide +kernel
theorem dX8_opened_35 : decode cX8_opened 35 = .ok (.aload_n 0, 1) := by decide +kernel
theorem dX8_opened_36 : decode cX8_opened 36 = .ok (.getfield 47, 3) := by decide +kernel
theorem dX8_opened_39 : decode cX8_opened 39 = .ok (.iload_n 2, 1) := by decide +kernel
theorem dX8_opened_40 : decode cX8_opened 40 = .ok (.iaload, 1) := by decide +kernel
theorem dX8_opened_41 : decode cX8_opened 41 = .ok (.bipush 19, 2) := by decide +kernel
theorem dX8_opened_43 : decode cX8_opened 43 = .ok (.if_icmp .ne 7, 3) := by decide +kernel
theorem dX8_opened_46 : decode cX8_opened 46 = .ok (.iconst 1, 1) := by decide +kernel
theorem dX8_opened_47 : decode cX8_opened 47 = .ok (.goto 4, 3) := by decide +kernel
theorem dX8_opened_50 : decode cX8_opened 50 = .ok (.iconst 0, 1) := by decide +kernel
theorem dX8_opened_51 : decode cX8_opened 51 = .ok (.iadd, 1) := by decide +kernel
theorem dX8_opened_52 : decode cX8_opened 52 = .ok (.istore_n 1, 1) := by decide +kernel
theorem dX8_opened_53 : decode cX8_opened 53 = .ok (.iinc 2 1, 3) := by decide +kernel
theorem dX8_opened_56 : decode cX8_opened 56 = .ok (.goto (-52), 3) := by decide +kernel
theorem dX8_opened_59 : decode cX8_opened 59 = .ok (.iload_n 1, 1) := by decide +kernel
theorem dX8_opened_60 : decode cX8_opened 60 = .ok (.ireturn, 1) := by decide +kernel
theorem dX8_isBracketed_0 : decode cX8_isBracketed 0 = .ok (.iconst 0, 1) := by decide +kernel
theorem dX8_isBracketed_1 : decode cX8_isBracketed 1 = .ok (.istore_n 1, 1) := by decide +kernel
theorem dX8_isBracketed_2 : decode cX8_isBracketed 2 = .ok (.iconst 0, 1) := by decide +kernel
theorem dX8_isBracketed_3 : decode cX8_isBracketed 3 = .ok (.istore_n 2, 1) := by decide +kernel
theorem dX8_isBracketed_4 : decode cX8_isBracketed 4 = .ok (.iload_n 2, 1) := by decide +kernel
theorem dX8_isBracketed_5 : decode cX8_isBracketed 5 = .ok (.aload_n 0, 1) := by decide +kernel
theorem dX8_isBracketed_6 : decode cX8_isBracketed 6 = .ok (.getfield 131, 3) := by decide +kernel
theorem dX8_isBracketed_9 : decode cX8_isBracketed 9 = .ok (.if_icmp .ge 30, 3) := by decide +kernel
theorem dX8_isBracketed_12 : decode cX8_isBracketed 12 = .ok (.iload_n 1, 1) := by decide +kernel
theorem dX8_isBracketed_13 : decode cX8_isBracketed 13 = .ok (.ifCond .ne 14, 3) := by decide +kernel
theorem dX8_isBracketed_16 : decode cX8_isBracketed 16 = .ok (.aload_n 0, 1) := by decide +kernel
theorem dX8_isBracketed_17 : decode cX8_isBracketed 17 = .ok (.getfield 47, 3) := by decide +kernel
theorem dX8_isBracketed_20 : decode cX8_isBracketed 20 = .ok (.iload_n 2, 1) := by decide +kernel
theorem dX8_isBracketed_21 : decode cX8_isBracketed 21 = .ok (.iaload, 1) := by decide +kernel
theorem dX8_isBracketed_22 : decode cX8_isBracketed 22 = .ok (.bipush 19, 2) := by decide +kernel
theorem dX8_isBracketed_24 : decode cX8_isBracketed 24 = .ok (.if_icmp .ne 7, 3) := by decide +kernel
theorem dX8_isBracketed_27 : decode cX8_isBracketed 27 = .ok (.iconst 1, 1) := by decide +kernel
theorem dX8_isBracketed_28 : decode cX8_isBracketed 28 = .ok (.goto 4, 3) := by decide +kernel
theorem dX8_isBracketed_31 : decode cX8_isBracketed 31 = .ok (.iconst 0, 1) := by decide +kernel
theorem dX8_isBracketed_32 : decode cX8_isBracketed 32 = .ok (.istore_n 1, 1) := by decide +kernel
theorem dX8_isBracketed_33 : decode cX8_isBracketed 33 = .ok (.iinc 2 1, 3) := by decide +kernel
theorem dX8_isBracketed_36 : decode cX8_isBracketed 36 = .ok (.goto (-32), 3) := by decide +kernel
theorem dX8_isBracketed_39 : decode cX8_isBracketed 39 = .ok (.iload_n 1, 1) := by decide +kernel
theorem dX8_isBracketed_40 : decode cX8_isBracketed 40 = .ok (.ireturn, 1) := by decide +kernel
theorem dX8_hasCompared_0 : decode cX8_hasCompared 0 = .ok (.iconst 0, 1) := by decide +kernel
theorem dX8_hasCompared_1 : decode cX8_hasCompared 1 = .ok (.istore_n 1, 1) := by decide +kernel
theorem dX8_hasCompared_2 : decode cX8_hasCompared 2 = .ok (.iconst 1, 1) := by decide +kernel
theorem dX8_hasCompared_3 : decode cX8_hasCompared 3 = .ok (.istore_n 2, 1) := by decide +kernel
theorem dX8_hasCompared_4 : decode cX8_hasCompared 4 = .ok (.aload_n 0, 1) := by decide +kernel
theorem dX8_hasCompared_5 : decode cX8_hasCompared 5 = .ok (.getfield 131, 3) := by decide +kernel
theorem dX8_hasCompared_8 : decode cX8_hasCompared 8 = .ok (.iconst 1, 1) := by decide +kernel
theorem dX8_hasCompared_9 : decode cX8_hasCompared 9 = .ok (.isub, 1) := by decide +kernel
theorem dX8_hasCompared_10 : decode cX8_hasCompared 10 = .ok (.istore_n 3, 1) := by decide +kernel
theorem dX8_hasCompared_11 : decode cX8_hasCompared 11 = .ok (.iload_n 3, 1) := by decide +kernel
theorem dX8_hasCompared_12 : decode cX8_hasCompared 12 = .ok (.ifCond .lt 79, 3) := by decide +kernel
theorem dX8_hasCompared_15 : decode cX8_hasCompared 15 = .ok (.iload_n 2, 1) := by decide +kernel
theorem dX8_hasCompared_16 : decode cX8_hasCompared 16 = .ok (.ifCond .eq 75, 3) := by decide +kernel
theorem dX8_hasCompared_19 : decode cX8_hasCompared 19 = .ok (.aload_n 0, 1) := by decide +kernel
theorem dX8_hasCompared_20 : decode cX8_hasCompared 20 = .ok (.getfield 47, 3) := by decide +kernel
theorem dX8_hasCompared_23 : decode cX8_hasCompared 23 = .ok (.iload_n 3, 1) := by decide +kernel
theorem dX8_hasCompared_24 : decode cX8_hasCompared 24 = .ok (.iaload, 1) := by decide +kernel
theorem dX8_hasCompared_25 : decode cX8_hasCompared 25 = .ok (.istore 4, 2) := by decide +kernel
theorem dX8_hasCompared_27 : decode cX8_hasCompared 27 = .ok (.iload_n 1, 1) := by decide +kernel
theorem dX8_hasCompared_28 : decode cX8_hasCompared 28 = .ok (.ifCond .ne 17, 3) := by decide +kernel
theorem dX8_hasCompared_31 : decode cX8_hasCompared 31 = .ok (.iload 4, 2) := by decide +kernel
theorem dX8_hasCompared_33 : decode cX8_hasCompared 33 = .ok (.bipush 13, 2) := by decide +kernel
theorem dX8_hasCompared_35 : decode cX8_hasCompared 35 = .ok (.if_icmp .eq 10, 3) := by decide +kernel
theorem dX8_hasCompared_38 : decode cX8_hasCompared 38 = .ok (.iload 4, 2) := by decide +kernel
theorem dX8_hasCompared_40 : decode cX8_hasCompared 40 = .ok (.bipush 14, 2) := by decide +kernel
theorem dX8_hasCompared_42 : decode cX8_hasCompared 42 = .ok (.if_icmp .ne 7, 3) := by decide +kernel
theorem dX8_hasCompared_45 : decode cX8_hasCompared 45 = .ok (.iconst 1, 1) := by decide +kernel
theorem dX8_hasCompared_46 : decode cX8_hasCompared 46 = .ok (.goto 4, 3) := by decide +kernel
theorem dX8_hasCompared_49 : decode cX8_hasCompared 49 = .ok (.iconst 0, 1) := by decide +kernel
theorem dX8_hasCompared_50 : decode cX8_hasCompared 50 = .ok (.istore_n 1, 1) := by decide +kernel
theorem dX8_hasCompared_51 : decode cX8_hasCompared 51 = .ok (.iload 4, 2) := by decide +kernel
theorem dX8_hasCompared_53 : decode cX8_hasCompared 53 = .ok (.bipush 19, 2) := by decide +kernel
theorem dX8_hasCompared_55 : decode cX8_hasCompared 55 = .ok (.if_icmp .eq 28, 3) := by decide +kernel
theorem dX8_hasCompared_58 : decode cX8_hasCompared 58 = .ok (.iload 4, 2) := by decide +kernel
theorem dX8_hasCompared_60 : decode cX8_hasCompared 60 = .ok (.bipush 10, 2) := by decide +kernel
theorem dX8_hasCompared_62 : decode cX8_hasCompared 62 = .ok (.if_icmp .eq 21, 3) := by decide +kernel
theorem dX8_hasCompared_65 : decode cX8_hasCompared 65 = .ok (.iload 4, 2) := by decide +kernel
theorem dX8_hasCompared_67 : decode cX8_hasCompared 67 = .ok (.bipush 11, 2) := by decide +kernel
theorem dX8_hasCompared_69 : decode cX8_hasCompared 69 = .ok (.if_icmp .eq 14, 3) := by decide +kernel
theorem dX8_hasCompared_72 : decode cX8_hasCompared 72 = .ok (.iload 4, 2) := by decide +kernel
theorem dX8_hasCompared_74 : decode cX8_hasCompared 74 = .ok (.bipush 12, 2) := by decide +kernel
theorem dX8_hasCompared_76 : decode cX8_hasCompared 76 = .ok (.if_icmp .eq 7, 3) := by decide +kernel
theorem dX8_hasCompared_79 : decode cX8_hasCompared 79 = .ok (.iconst 1, 1) := by decide +kernel
theorem dX8_hasCompared_80 : decode cX8_hasCompared 80 = .ok (.goto 4, 3) := by decide +kernel
theorem dX8_hasCompared_83 : decode cX8_hasCompared 83 = .ok (.iconst 0, 1) := by decide +kernel
theorem dX8_hasCompared_84 : decode cX8_hasCompared 84 = .ok (.istore_n 2, 1) := by decide +kernel
theorem dX8_hasCompared_85 : decode cX8_hasCompared 85 = .ok (.iinc 3 (-1), 3) := by decide +kernel
theorem dX8_hasCompared_88 : decode cX8_hasCompared 88 = .ok (.goto (-77), 3) := by decide +kernel
theorem dX8_hasCompared_91 : decode cX8_hasCompared 91 = .ok (.iload_n 1, 1) := by decide +kernel
theorem dX8_hasCompared_92 : decode cX8_hasCompared 92 = .ok (.ireturn, 1) := by decide +kernel
theorem dX8_await_0 : decode cX8_await 0 = .ok (.aload_n 0, 1) := by decide +kernel
theorem dX8_await_1 : decode cX8_await 1 = .ok (.getfield 47, 3) := by decide +kernel
theorem dX8_await_4 : decode cX8_await 4 = .ok (.aload_n 0, 1) := by decide +kernel
theorem dX8_await_5 : decode cX8_await 5 = .ok (.getfield 131, 3) := by decide +kernel
theorem dX8_await_8 : decode cX8_await 8 = .ok (.iload_n 1, 1) := by decide +kernel
theorem dX8_await_9 : decode cX8_await 9 = .ok (.iastore, 1) := by decide +kernel
theorem dX8_await_10 : decode cX8_await 10 = .ok (.aload_n 0, 1) := by decide +kernel
theorem dX8_await_11 : decode cX8_await 11 = .ok (.dup, 1) := by decide +kernel
theorem dX8_await_12 : decode cX8_await 12 = .ok (.getfield 131, 3) := by decide +kernel
theorem dX8_await_15 : decode cX8_await 15 = .ok (.iconst 1, 1) := by decide +kernel
theorem dX8_await_16 : decode cX8_await 16 = .ok (.iadd, 1) := by decide +kernel
theorem dX8_await_17 : decode cX8_await 17 = .ok (.putfield 131, 3) := by decide +kernel
theorem dX8_await_20 : decode cX8_await 20 = .ok (.return_, 1) := by decide +kernel
theorem dX8_begins_0 : decode cX8_begins 0 = .ok (.aload_n 0, 1) := by decide +kernel
theorem dX8_begins_1 : decode cX8_begins 1 = .ok (.getfield 101, 3) := by decide +kernel
theorem dX8_begins_4 : decode cX8_begins 4 = .ok (.iconst 1, 1) := by decide +kernel
theorem dX8_begins_5 : decode cX8_begins 5 = .ok (.if_icmp .eq 11, 3) := by decide +kernel
theorem dX8_begins_8 : decode cX8_begins 8 = .ok (.aload_n 0, 1) := by decide +kernel
theorem dX8_begins_9 : decode cX8_begins 9 = .ok (.getfield 101, 3) := by decide +kernel
theorem dX8_begins_12 : decode cX8_begins 12 = .ok (.iconst 2, 1) := by decide +kernel
theorem dX8_begins_13 : decode cX8_begins 13 = .ok (.if_icmp .ne 41, 3) := by decide +kernel
theorem dX8_begins_16 : decode cX8_begins 16 = .ok (.aload_n 0, 1) := by decide +kernel
theorem dX8_begins_17 : decode cX8_begins 17 = .ok (.aload_n 0, 1) := by decide +kernel
theorem dX8_begins_18 : decode cX8_begins 18 = .ok (.getfield 101, 3) := by decide +kernel
theorem dX8_begins_21 : decode cX8_begins 21 = .ok (.iconst 1, 1) := by decide +kernel
theorem dX8_begins_22 : decode cX8_begins 22 = .ok (.if_icmp .ne 12, 3) := by decide +kernel
theorem dX8_begins_25 : decode cX8_begins 25 = .ok (.iconst (-1), 1) := by decide +kernel
theorem dX8_begins_26 : decode cX8_begins 26 = .ok (.aload_n 0, 1) := by decide +kernel
theorem dX8_begins_27 : decode cX8_begins 27 = .ok (.getfield 111, 3) := by decide +kernel
theorem dX8_begins_30 : decode cX8_begins 30 = .ok (.isub, 1) := by decide +kernel
theorem dX8_begins_31 : decode cX8_begins 31 = .ok (.goto 7, 3) := by decide +kernel
theorem dX8_begins_34 : decode cX8_begins 34 = .ok (.aload_n 0, 1) := by decide +kernel
theorem dX8_begins_35 : decode cX8_begins 35 = .ok (.getfield 111, 3) := by decide +kernel
theorem dX8_begins_38 : decode cX8_begins 38 = .ok (.invokevirtual 138, 3) := by decide +kernel
theorem dX8_begins_41 : decode cX8_begins 41 = .ok (.aload_n 0, 1) := by decide +kernel
theorem dX8_begins_42 : decode cX8_begins 42 = .ok (.bipush 7, 2) := by decide +kernel
theorem dX8_begins_44 : decode cX8_begins 44 = .ok (.invokevirtual 142, 3) := by decide +kernel
theorem dX8_begins_47 : decode cX8_begins 47 = .ok (.aload_n 0, 1) := by decide +kernel
theorem dX8_begins_48 : decode cX8_begins 48 = .ok (.iconst 0, 1) := by decide +kernel
theorem dX8_begins_49 : decode cX8_begins 49 = .ok (.putfield 145, 3) := by decide +kernel
theorem dX8_begins_52 : decode cX8_begins 52 = .ok (.iconst 1, 1) := by decide +kernel
theorem dX8_begins_53 : decode cX8_begins 53 = .ok (.ireturn, 1) := by decide +kernel
theorem dX8_begins_54 : decode cX8_begins 54 = .ok (.aload_n 0, 1) := by decide +kernel
theorem dX8_begins_55 : decode cX8_begins 55 = .ok (.bipush 11, 2) := by decide +kernel
theorem dX8_begins_57 : decode cX8_begins 57 = .ok (.invokevirtual 149, 3) := by decide +kernel
theorem dX8_begins_60 : decode cX8_begins 60 = .ok (.ifCond .eq 14, 3) := by decide +kernel
theorem dX8_begins_63 : decode cX8_begins 63 = .ok (.aload_n 0, 1) := by decide +kernel
theorem dX8_begins_64 : decode cX8_begins 64 = .ok (.getfield 152, 3) := by decide +kernel
theorem dX8_begins_67 : decode cX8_begins 67 = .ok (.ifCond .eq 7, 3) := by decide +kernel
theorem dX8_begins_70 : decode cX8_begins 70 = .ok (.iconst 1, 1) := by decide +kernel
theorem dX8_begins_71 : decode cX8_begins 71 = .ok (.goto 4, 3) := by decide +kernel
theorem dX8_begins_74 : decode cX8_begins 74 = .ok (.iconst 0, 1) := by decide +kernel
theorem dX8_begins_75 : decode cX8_begins 75 = .ok (.istore_n 1, 1) := by decide +kernel
theorem dX8_begins_76 : decode cX8_begins 76 = .ok (.iload_n 1, 1) := by decide +kernel
theorem dX8_begins_77 : decode cX8_begins 77 = .ok (.ifCond .ne 21, 3) := by decide +kernel
theorem dX8_begins_80 : decode cX8_begins 80 = .ok (.aload_n 0, 1) := by decide +kernel
theorem dX8_begins_81 : decode cX8_begins 81 = .ok (.bipush 40, 2) := by decide +kernel
theorem dX8_begins_83 : decode cX8_begins 83 = .ok (.invokevirtual 155, 3) := by decide +kernel
theorem dX8_begins_86 : decode cX8_begins 86 = .ok (.ifCond .ne 12, 3) := by decide +kernel
theorem dX8_begins_89 : decode cX8_begins 89 = .ok (.aload_n 0, 1) := by decide +kernel
theorem dX8_begins_90 : decode cX8_begins 90 = .ok (.bipush 45, 2) := by decide +kernel
theorem dX8_begins_92 : decode cX8_begins 92 = .ok (.invokevirtual 155, 3) := by decide +kernel
theorem dX8_begins_95 : decode cX8_begins 95 = .ok (.ifCond .eq 11, 3) := by decide +kernel
theorem dX8_begins_98 : decode cX8_begins 98 = .ok (.aload_n 0, 1) := by decide +kernel
theorem dX8_begins_99 : decode cX8_begins 99 = .ok (.invokevirtual 158, 3) := by decide +kernel
theorem dX8_begins_102 : decode cX8_begins 102 = .ok (.iconst 5, 1) := by decide +kernel
theorem dX8_begins_103 : decode cX8_begins 103 = .ok (.if_icmp .ne 5, 3) := by decide +kernel
theorem dX8_begins_106 : decode cX8_begins 106 = .ok (.iconst 0, 1) := by decide +kernel
theorem dX8_begins_107 : decode cX8_begins 107 = .ok (.ireturn, 1) := by decide +kernel
theorem dX8_begins_108 : decode cX8_begins 108 = .ok (.aload_n 0, 1) := by decide +kernel
theorem dX8_begins_109 : decode cX8_begins 109 = .ok (.iload_n 1, 1) := by decide +kernel
theorem dX8_begins_110 : decode cX8_begins 110 = .ok (.ifCond .eq 8, 3) := by decide +kernel
theorem dX8_begins_113 : decode cX8_begins 113 = .ok (.bipush 12, 2) := by decide +kernel
theorem dX8_begins_115 : decode cX8_begins 115 = .ok (.goto 19, 3) := by decide +kernel
theorem dX8_begins_118 : decode cX8_begins 118 = .ok (.aload_n 0, 1) := by decide +kernel
theorem dX8_begins_119 : decode cX8_begins 119 = .ok (.bipush 40, 2) := by decide +kernel
theorem dX8_begins_121 : decode cX8_begins 121 = .ok (.invokevirtual 155, 3) := by decide +kernel
theorem dX8_begins_124 : decode cX8_begins 124 = .ok (.ifCond .eq 8, 3) := by decide +kernel
theorem dX8_begins_127 : decode cX8_begins 127 = .ok (.bipush 19, 2) := by decide +kernel
theorem dX8_begins_129 : decode cX8_begins 129 = .ok (.goto 5, 3) := by decide +kernel
theorem dX8_begins_132 : decode cX8_begins 132 = .ok (.bipush 18, 2) := by decide +kernel
theorem dX8_begins_134 : decode cX8_begins 134 = .ok (.invokevirtual 161, 3) := by decide +kernel
theorem dX8_begins_137 : decode cX8_begins 137 = .ok (.aload_n 0, 1) := by decide +kernel
theorem dX8_begins_138 : decode cX8_begins 138 = .ok (.iload_n 1, 1) := by decide +kernel
theorem dX8_begins_139 : decode cX8_begins 139 = .ok (.ifCond .ne 12, 3) := by decide +kernel
theorem dX8_begins_142 : decode cX8_begins 142 = .ok (.aload_n 0, 1) := by decide +kernel
theorem dX8_begins_143 : decode cX8_begins 143 = .ok (.bipush 40, 2) := by decide +kernel
theorem dX8_begins_145 : decode cX8_begins 145 = .ok (.invokevirtual 155, 3) := by decide +kernel
theorem dX8_begins_148 : decode cX8_begins 148 = .ok (.ifCond .eq 7, 3) := by decide +kernel
theorem dX8_begins_151 : decode cX8_begins 151 = .ok (.iconst 1, 1) := by decide +kernel
theorem dX8_begins_152 : decode cX8_begins 152 = .ok (.goto 4, 3) := by decide +kernel
theorem dX8_begins_155 : decode cX8_begins 155 = .ok (.iconst 0, 1) := by decide +kernel
theorem dX8_begins_156 : decode cX8_begins 156 = .ok (.putfield 152, 3) := by decide +kernel
theorem dX8_begins_159 : decode cX8_begins 159 = .ok (.iconst 1, 1) := by decide +kernel
theorem dX8_begins_160 : decode cX8_begins 160 = .ok (.ireturn, 1) := by decide +kernel
theorem dX8_goOn_0 : decode cX8_goOn 0 = .ok (.aload_n 0, 1) := by decide +kernel
theorem dX8_goOn_1 : decode cX8_goOn 1 = .ok (.iload_n 1, 1) := by decide +kernel
theorem dX8_goOn_2 : decode cX8_goOn 2 = .ok (.invokestatic 134, 3) := by decide +kernel
theorem dX8_goOn_5 : decode cX8_goOn 5 = .ok (.invokevirtual 142, 3) := by decide +kernel
theorem dX8_goOn_8 : decode cX8_goOn 8 = .ok (.aload_n 0, 1) := by decide +kernel
theorem dX8_goOn_9 : decode cX8_goOn 9 = .ok (.iload_n 1, 1) := by decide +kernel
theorem dX8_goOn_10 : decode cX8_goOn 10 = .ok (.invokevirtual 161, 3) := by decide +kernel
theorem dX8_goOn_13 : decode cX8_goOn 13 = .ok (.aload_n 0, 1) := by decide +kernel
theorem dX8_goOn_14 : decode cX8_goOn 14 = .ok (.iconst 1, 1) := by decide +kernel
theorem dX8_goOn_15 : decode cX8_goOn 15 = .ok (.putfield 145, 3) := by decide +kernel
theorem dX8_goOn_18 : decode cX8_goOn 18 = .ok (.aload_n 0, 1) := by decide +kernel
theorem dX8_goOn_19 : decode cX8_goOn 19 = .ok (.iload_n 1, 1) := by decide +kernel
theorem dX8_goOn_20 : decode cX8_goOn 20 = .ok (.bipush 12, 2) := by decide +kernel
theorem dX8_goOn_22 : decode cX8_goOn 22 = .ok (.if_icmp .ge 7, 3) := by decide +kernel
theorem dX8_goOn_25 : decode cX8_goOn 25 = .ok (.iconst 1, 1) := by decide +kernel
theorem dX8_goOn_26 : decode cX8_goOn 26 = .ok (.goto 4, 3) := by decide +kernel
theorem dX8_goOn_29 : decode cX8_goOn 29 = .ok (.iconst 0, 1) := by decide +kernel
theorem dX8_goOn_30 : decode cX8_goOn 30 = .ok (.putfield 152, 3) := by decide +kernel
theorem dX8_goOn_33 : decode cX8_goOn 33 = .ok (.return_, 1) := by decide +kernel
theorem dX8_follows_0 : decode cX8_follows 0 = .ok (.aload_n 0, 1) := by decide +kernel
theorem dX8_follows_1 : decode cX8_follows 1 = .ok (.bipush 9, 2) := by decide +kernel
theorem dX8_follows_3 : decode cX8_follows 3 = .ok (.invokevirtual 149, 3) := by decide +kernel
theorem dX8_follows_6 : decode cX8_follows 6 = .ok (.ifCond .ne 12, 3) := by decide +kernel
theorem dX8_follows_9 : decode cX8_follows 9 = .ok (.aload_n 0, 1) := by decide +kernel
theorem dX8_follows_10 : decode cX8_follows 10 = .ok (.bipush 10, 2) := by decide +kernel
theorem dX8_follows_12 : decode cX8_follows 12 = .ok (.invokevirtual 149, 3) := by decide +kernel
theorem dX8_follows_15 : decode cX8_follows 15 = .ok (.ifCond .eq 25, 3) := by decide +kernel
theorem dX8_follows_18 : decode cX8_follows 18 = .ok (.aload_n 0, 1) := by decide +kernel
theorem dX8_follows_19 : decode cX8_follows 19 = .ok (.aload_n 0, 1) := by decide +kernel
theorem dX8_follows_20 : decode cX8_follows 20 = .ok (.bipush 9, 2) := by decide +kernel
theorem dX8_follows_22 : decode cX8_follows 22 = .ok (.invokevirtual 149, 3) := by decide +kernel
theorem dX8_follows_25 : decode cX8_follows 25 = .ok (.ifCond .eq 8, 3) := by decide +kernel
theorem dX8_follows_28 : decode cX8_follows 28 = .ok (.bipush 10, 2) := by decide +kernel
theorem dX8_follows_30 : decode cX8_follows 30 = .ok (.goto 5, 3) := by decide +kernel
theorem dX8_follows_33 : decode cX8_follows 33 = .ok (.bipush 11, 2) := by decide +kernel
theorem dX8_follows_35 : decode cX8_follows 35 = .ok (.invokevirtual 164, 3) := by decide +kernel
theorem dX8_follows_38 : decode cX8_follows 38 = .ok (.iconst 1, 1) := by decide +kernel
theorem dX8_follows_39 : decode cX8_follows 39 = .ok (.ireturn, 1) := by decide +kernel
theorem dX8_follows_40 : decode cX8_follows 40 = .ok (.aload_n 0, 1) := by decide +kernel
theorem dX8_follows_41 : decode cX8_follows 41 = .ok (.bipush 43, 2) := by decide +kernel
theorem dX8_follows_43 : decode cX8_follows 43 = .ok (.invokevirtual 155, 3) := by decide +kernel
theorem dX8_follows_46 : decode cX8_follows 46 = .ok (.ifCond .ne 21, 3) := by decide +kernel
theorem dX8_follows_49 : decode cX8_follows 49 = .ok (.aload_n 0, 1) := by decide +kernel
theorem dX8_follows_50 : decode cX8_follows 50 = .ok (.bipush 45, 2) := by decide +kernel
theorem dX8_follows_52 : decode cX8_follows 52 = .ok (.invokevirtual 155, 3) := by decide +kernel
theorem dX8_follows_55 : decode cX8_follows 55 = .ok (.ifCond .ne 12, 3) := by decide +kernel
theorem dX8_follows_58 : decode cX8_follows 58 = .ok (.aload_n 0, 1) := by decide +kernel
theorem dX8_follows_59 : decode cX8_follows 59 = .ok (.bipush 42, 2) := by decide +kernel
theorem dX8_follows_61 : decode cX8_follows 61 = .ok (.invokevirtual 155, 3) := by decide +kernel
theorem dX8_follows_64 : decode cX8_follows 64 = .ok (.ifCond .eq 39, 3) := by decide +kernel
theorem dX8_follows_67 : decode cX8_follows 67 = .ok (.aload_n 0, 1) := by decide +kernel
theorem dX8_follows_68 : decode cX8_follows 68 = .ok (.aload_n 0, 1) := by decide +kernel
theorem dX8_follows_69 : decode cX8_follows 69 = .ok (.bipush 43, 2) := by decide +kernel
theorem dX8_follows_71 : decode cX8_follows 71 = .ok (.invokevirtual 155, 3) := by decide +kernel
theorem dX8_follows_74 : decode cX8_follows 74 = .ok (.ifCond .eq 8, 3) := by decide +kernel
theorem dX8_follows_77 : decode cX8_follows 77 = .ok (.bipush 15, 2) := by decide +kernel
theorem dX8_follows_79 : decode cX8_follows 79 = .ok (.goto 19, 3) := by decide +kernel
theorem dX8_follows_82 : decode cX8_follows 82 = .ok (.aload_n 0, 1) := by decide +kernel
theorem dX8_follows_83 : decode cX8_follows 83 = .ok (.bipush 45, 2) := by decide +kernel
theorem dX8_follows_85 : decode cX8_follows 85 = .ok (.invokevirtual 155, 3) := by decide +kernel
theorem dX8_follows_88 : decode cX8_follows 88 = .ok (.ifCond .eq 8, 3) := by decide +kernel
theorem dX8_follows_91 : decode cX8_follows 91 = .ok (.bipush 16, 2) := by decide +kernel
theorem dX8_follows_93 : decode cX8_follows 93 = .ok (.goto 5, 3) := by decide +kernel
theorem dX8_follows_96 : decode cX8_follows 96 = .ok (.bipush 17, 2) := by decide +kernel
theorem dX8_follows_98 : decode cX8_follows 98 = .ok (.invokevirtual 164, 3) := by decide +kernel
theorem dX8_follows_101 : decode cX8_follows 101 = .ok (.iconst 1, 1) := by decide +kernel
theorem dX8_follows_102 : decode cX8_follows 102 = .ok (.ireturn, 1) := by decide +kernel
theorem dX8_follows_103 : decode cX8_follows 103 = .ok (.aload_n 0, 1) := by decide +kernel
theorem dX8_follows_104 : decode cX8_follows 104 = .ok (.bipush 60, 2) := by decide +kernel
theorem dX8_follows_106 : decode cX8_follows 106 = .ok (.invokevirtual 155, 3) := by decide +kernel
theorem dX8_follows_109 : decode cX8_follows 109 = .ok (.ifCond .ne 12, 3) := by decide +kernel
theorem dX8_follows_112 : decode cX8_follows 112 = .ok (.aload_n 0, 1) := by decide +kernel
theorem dX8_follows_113 : decode cX8_follows 113 = .ok (.bipush 61, 2) := by decide +kernel
theorem dX8_follows_115 : decode cX8_follows 115 = .ok (.invokevirtual 155, 3) := by decide +kernel
theorem dX8_follows_118 : decode cX8_follows 118 = .ok (.ifCond .eq 42, 3) := by decide +kernel
theorem dX8_follows_121 : decode cX8_follows 121 = .ok (.aload_n 0, 1) := by decide +kernel
theorem dX8_follows_122 : decode cX8_follows 122 = .ok (.invokevirtual 167, 3) := by decide +kernel
theorem dX8_follows_125 : decode cX8_follows 125 = .ok (.ifCond .ne 7, 3) := by decide +kernel
theorem dX8_follows_128 : decode cX8_follows 128 = .ok (.iconst 1, 1) := by decide +kernel
theorem dX8_follows_129 : decode cX8_follows 129 = .ok (.goto 4, 3) := by decide +kernel
theorem dX8_follows_132 : decode cX8_follows 132 = .ok (.iconst 0, 1) := by decide +kernel
theorem dX8_follows_133 : decode cX8_follows 133 = .ok (.istore_n 1, 1) := by decide +kernel
theorem dX8_follows_134 : decode cX8_follows 134 = .ok (.iload_n 1, 1) := by decide +kernel
theorem dX8_follows_135 : decode cX8_follows 135 = .ok (.ifCond .eq 23, 3) := by decide +kernel
theorem dX8_follows_138 : decode cX8_follows 138 = .ok (.aload_n 0, 1) := by decide +kernel
theorem dX8_follows_139 : decode cX8_follows 139 = .ok (.aload_n 0, 1) := by decide +kernel
theorem dX8_follows_140 : decode cX8_follows 140 = .ok (.bipush 60, 2) := by decide +kernel
theorem dX8_follows_142 : decode cX8_follows 142 = .ok (.invokevirtual 155, 3) := by decide +kernel
theorem dX8_follows_145 : decode cX8_follows 145 = .ok (.ifCond .eq 8, 3) := by decide +kernel
theorem dX8_follows_148 : decode cX8_follows 148 = .ok (.bipush 13, 2) := by decide +kernel
theorem dX8_follows_150 : decode cX8_follows 150 = .ok (.goto 5, 3) := by decide +kernel
theorem dX8_follows_153 : decode cX8_follows 153 = .ok (.bipush 14, 2) := by decide +kernel
theorem dX8_follows_155 : decode cX8_follows 155 = .ok (.invokevirtual 164, 3) := by decide +kernel
theorem dX8_follows_158 : decode cX8_follows 158 = .ok (.iload_n 1, 1) := by decide +kernel
theorem dX8_follows_159 : decode cX8_follows 159 = .ok (.ireturn, 1) := by decide +kernel
theorem dX8_follows_160 : decode cX8_follows 160 = .ok (.aload_n 0, 1) := by decide +kernel
theorem dX8_follows_161 : decode cX8_follows 161 = .ok (.bipush 41, 2) := by decide +kernel
theorem dX8_follows_163 : decode cX8_follows 163 = .ok (.invokevirtual 155, 3) := by decide +kernel
theorem dX8_follows_166 : decode cX8_follows 166 = .ok (.ifCond .eq 33, 3) := by decide +kernel
theorem dX8_follows_169 : decode cX8_follows 169 = .ok (.aload_n 0, 1) := by decide +kernel
theorem dX8_follows_170 : decode cX8_follows 170 = .ok (.invokevirtual 171, 3) := by decide +kernel
theorem dX8_follows_173 : decode cX8_follows 173 = .ok (.ifCond .eq 26, 3) := by decide +kernel
theorem dX8_follows_176 : decode cX8_follows 176 = .ok (.aload_n 0, 1) := by decide +kernel
theorem dX8_follows_177 : decode cX8_follows 177 = .ok (.iconst 1, 1) := by decide +kernel
theorem dX8_follows_178 : decode cX8_follows 178 = .ok (.invokevirtual 142, 3) := by decide +kernel
theorem dX8_follows_181 : decode cX8_follows 181 = .ok (.aload_n 0, 1) := by decide +kernel
theorem dX8_follows_182 : decode cX8_follows 182 = .ok (.dup, 1) := by decide +kernel
theorem dX8_follows_183 : decode cX8_follows 183 = .ok (.getfield 131, 3) := by decide +kernel
theorem dX8_follows_186 : decode cX8_follows 186 = .ok (.iconst 1, 1) := by decide +kernel
theorem dX8_follows_187 : decode cX8_follows 187 = .ok (.isub, 1) := by decide +kernel
theorem dX8_follows_188 : decode cX8_follows 188 = .ok (.putfield 131, 3) := by decide +kernel
theorem dX8_follows_191 : decode cX8_follows 191 = .ok (.aload_n 0, 1) := by decide +kernel
theorem dX8_follows_192 : decode cX8_follows 192 = .ok (.bipush 7, 2) := by decide +kernel
theorem dX8_follows_194 : decode cX8_follows 194 = .ok (.invokevirtual 142, 3) := by decide +kernel
theorem dX8_follows_197 : decode cX8_follows 197 = .ok (.iconst 1, 1) := by decide +kernel
theorem dX8_follows_198 : decode cX8_follows 198 = .ok (.ireturn, 1) := by decide +kernel
theorem dX8_follows_199 : decode cX8_follows 199 = .ok (.aload_n 0, 1) := by decide +kernel
theorem dX8_follows_200 : decode cX8_follows 200 = .ok (.aload_n 0, 1) := by decide +kernel
theorem dX8_follows_201 : decode cX8_follows 201 = .ok (.bipush 59, 2) := by decide +kernel
theorem dX8_follows_203 : decode cX8_follows 203 = .ok (.invokevirtual 155, 3) := by decide +kernel
theorem dX8_follows_206 : decode cX8_follows 206 = .ok (.ifCond .eq 14, 3) := by decide +kernel
theorem dX8_follows_209 : decode cX8_follows 209 = .ok (.aload_n 0, 1) := by decide +kernel
theorem dX8_follows_210 : decode cX8_follows 210 = .ok (.invokevirtual 171, 3) := by decide +kernel
theorem dX8_follows_213 : decode cX8_follows 213 = .ok (.ifCond .ne 7, 3) := by decide +kernel
theorem dX8_follows_216 : decode cX8_follows 216 = .ok (.iconst 1, 1) := by decide +kernel
theorem dX8_follows_217 : decode cX8_follows 217 = .ok (.goto 4, 3) := by decide +kernel
theorem dX8_follows_220 : decode cX8_follows 220 = .ok (.iconst 0, 1) := by decide +kernel
theorem dX8_follows_221 : decode cX8_follows 221 = .ok (.putfield 174, 3) := by decide +kernel
theorem dX8_follows_224 : decode cX8_follows 224 = .ok (.aload_n 0, 1) := by decide +kernel
theorem dX8_follows_225 : decode cX8_follows 225 = .ok (.getfield 174, 3) := by decide +kernel
theorem dX8_follows_228 : decode cX8_follows 228 = .ok (.ifCond .eq 8, 3) := by decide +kernel
theorem dX8_follows_231 : decode cX8_follows 231 = .ok (.aload_n 0, 1) := by decide +kernel
theorem dX8_follows_232 : decode cX8_follows 232 = .ok (.iconst 1, 1) := by decide +kernel
theorem dX8_follows_233 : decode cX8_follows 233 = .ok (.invokevirtual 142, 3) := by decide +kernel
theorem dX8_follows_236 : decode cX8_follows 236 = .ok (.aload_n 0, 1) := by decide +kernel
theorem dX8_follows_237 : decode cX8_follows 237 = .ok (.getfield 174, 3) := by decide +kernel
theorem dX8_follows_240 : decode cX8_follows 240 = .ok (.ireturn, 1) := by decide +kernel
theorem dX8_readOne_0 : decode cX8_readOne 0 = .ok (.aload_n 0, 1) := by decide +kernel
theorem dX8_readOne_1 : decode cX8_readOne 1 = .ok (.iconst 0, 1) := by decide +kernel
theorem dX8_readOne_2 : decode cX8_readOne 2 = .ok (.putfield 131, 3) := by decide +kernel
theorem dX8_readOne_5 : decode cX8_readOne 5 = .ok (.aload_n 0, 1) := by decide +kernel
theorem dX8_readOne_6 : decode cX8_readOne 6 = .ok (.iconst 0, 1) := by decide +kernel
theorem dX8_readOne_7 : decode cX8_readOne 7 = .ok (.putfield 174, 3) := by decide +kernel
theorem dX8_readOne_10 : decode cX8_readOne 10 = .ok (.aload_n 0, 1) := by decide +kernel
theorem dX8_readOne_11 : decode cX8_readOne 11 = .ok (.iconst 1, 1) := by decide +kernel
theorem dX8_readOne_12 : decode cX8_readOne 12 = .ok (.putfield 145, 3) := by decide +kernel
theorem dX8_readOne_15 : decode cX8_readOne 15 = .ok (.aload_n 0, 1) := by decide +kernel
theorem dX8_readOne_16 : decode cX8_readOne 16 = .ok (.iconst 1, 1) := by decide +kernel
theorem dX8_readOne_17 : decode cX8_readOne 17 = .ok (.putfield 152, 3) := by decide +kernel
theorem dX8_readOne_20 : decode cX8_readOne 20 = .ok (.iconst 1, 1) := by decide +kernel
theorem dX8_readOne_21 : decode cX8_readOne 21 = .ok (.istore_n 1, 1) := by decide +kernel
theorem dX8_readOne_22 : decode cX8_readOne 22 = .ok (.iload_n 1, 1) := by decide +kernel
theorem dX8_readOne_23 : decode cX8_readOne 23 = .ok (.ifCond .eq 36, 3) := by decide +kernel
theorem dX8_readOne_26 : decode cX8_readOne 26 = .ok (.aload_n 0, 1) := by decide +kernel
theorem dX8_readOne_27 : decode cX8_readOne 27 = .ok (.getfield 174, 3) := by decide +kernel
theorem dX8_readOne_30 : decode cX8_readOne 30 = .ok (.ifCond .ne 29, 3) := by decide +kernel
theorem dX8_readOne_33 : decode cX8_readOne 33 = .ok (.aload_n 0, 1) := by decide +kernel
theorem dX8_readOne_34 : decode cX8_readOne 34 = .ok (.invokevirtual 177, 3) := by decide +kernel
theorem dX8_readOne_37 : decode cX8_readOne 37 = .ok (.aload_n 0, 1) := by decide +kernel
theorem dX8_readOne_38 : decode cX8_readOne 38 = .ok (.getfield 145, 3) := by decide +kernel
theorem dX8_readOne_41 : decode cX8_readOne 41 = .ok (.ifCond .eq 10, 3) := by decide +kernel
theorem dX8_readOne_44 : decode cX8_readOne 44 = .ok (.aload_n 0, 1) := by decide +kernel
theorem dX8_readOne_45 : decode cX8_readOne 45 = .ok (.invokevirtual 180, 3) := by decide +kernel
theorem dX8_readOne_48 : decode cX8_readOne 48 = .ok (.goto 7, 3) := by decide +kernel
theorem dX8_readOne_51 : decode cX8_readOne 51 = .ok (.aload_n 0, 1) := by decide +kernel
theorem dX8_readOne_52 : decode cX8_readOne 52 = .ok (.invokevirtual 183, 3) := by decide +kernel
theorem dX8_readOne_55 : decode cX8_readOne 55 = .ok (.istore_n 1, 1) := by decide +kernel
theorem dX8_readOne_56 : decode cX8_readOne 56 = .ok (.goto (-34), 3) := by decide +kernel
theorem dX8_readOne_59 : decode cX8_readOne 59 = .ok (.iload_n 1, 1) := by decide +kernel
theorem dX8_readOne_60 : decode cX8_readOne 60 = .ok (.ireturn, 1) := by decide +kernel
theorem dX8_readText_0 : decode cX8_readText 0 = .ok (.aload_n 0, 1) := by decide +kernel
theorem dX8_readText_1 : decode cX8_readText 1 = .ok (.iconst 0, 1) := by decide +kernel
theorem dX8_readText_2 : decode cX8_readText 2 = .ok (.putfield 90, 3) := by decide +kernel
theorem dX8_readText_5 : decode cX8_readText 5 = .ok (.aload_n 0, 1) := by decide +kernel
theorem dX8_readText_6 : decode cX8_readText 6 = .ok (.iconst 0, 1) := by decide +kernel
theorem dX8_readText_7 : decode cX8_readText 7 = .ok (.putfield 128, 3) := by decide +kernel
theorem dX8_readText_10 : decode cX8_readText 10 = .ok (.iconst 0, 1) := by decide +kernel
theorem dX8_readText_11 : decode cX8_readText 11 = .ok (.istore_n 1, 1) := by decide +kernel
theorem dX8_readText_12 : decode cX8_readText 12 = .ok (.iload_n 1, 1) := by decide +kernel
theorem dX8_readText_13 : decode cX8_readText 13 = .ok (.iconst 3, 1) := by decide +kernel
theorem dX8_readText_14 : decode cX8_readText 14 = .ok (.if_icmp .ge 58, 3) := by decide +kernel
theorem dX8_readText_17 : decode cX8_readText 17 = .ok (.aload_n 0, 1) := by decide +kernel
theorem dX8_readText_18 : decode cX8_readText 18 = .ok (.invokevirtual 177, 3) := by decide +kernel
theorem dX8_readText_21 : decode cX8_readText 21 = .ok (.aload_n 0, 1) := by decide +kernel
theorem dX8_readText_22 : decode cX8_readText 22 = .ok (.bipush 6, 2) := by decide +kernel
theorem dX8_readText_24 : decode cX8_readText 24 = .ok (.iload_n 1, 1) := by decide +kernel
theorem dX8_readText_25 : decode cX8_readText 25 = .ok (.iadd, 1) := by decide +kernel
theorem dX8_readText_26 : decode cX8_readText 26 = .ok (.invokevirtual 149, 3) := by decide +kernel
theorem dX8_readText_29 : decode cX8_readText 29 = .ok (.ifCond .ne 8, 3) := by decide +kernel
theorem dX8_readText_32 : decode cX8_readText 32 = .ok (.aload_n 0, 1) := by decide +kernel
theorem dX8_readText_33 : decode cX8_readText 33 = .ok (.getfield 104, 3) := by decide +kernel
theorem dX8_readText_36 : decode cX8_readText 36 = .ok (.ireturn, 1) := by decide +kernel
theorem dX8_readText_37 : decode cX8_readText 37 = .ok (.aload_n 0, 1) := by decide +kernel
theorem dX8_readText_38 : decode cX8_readText 38 = .ok (.getfield 44, 3) := by decide +kernel
theorem dX8_readText_41 : decode cX8_readText 41 = .ok (.iconst 4, 1) := by decide +kernel
theorem dX8_readText_42 : decode cX8_readText 42 = .ok (.aload_n 0, 1) := by decide +kernel
theorem dX8_readText_43 : decode cX8_readText 43 = .ok (.getfield 87, 3) := by decide +kernel
theorem dX8_readText_46 : decode cX8_readText 46 = .ok (.imul, 1) := by decide +kernel
theorem dX8_readText_47 : decode cX8_readText 47 = .ok (.iload_n 1, 1) := by decide +kernel
theorem dX8_readText_48 : decode cX8_readText 48 = .ok (.iadd, 1) := by decide +kernel
theorem dX8_readText_49 : decode cX8_readText 49 = .ok (.aload_n 0, 1) := by decide +kernel
theorem dX8_readText_50 : decode cX8_readText 50 = .ok (.getfield 128, 3) := by decide +kernel
theorem dX8_readText_53 : decode cX8_readText 53 = .ok (.iastore, 1) := by decide +kernel
theorem dX8_readText_54 : decode cX8_readText 54 = .ok (.aload_n 0, 1) := by decide +kernel
theorem dX8_readText_55 : decode cX8_readText 55 = .ok (.invokevirtual 186, 3) := by decide +kernel
theorem dX8_readText_58 : decode cX8_readText 58 = .ok (.ifCond .ne 8, 3) := by decide +kernel
theorem dX8_readText_61 : decode cX8_readText 61 = .ok (.aload_n 0, 1) := by decide +kernel
theorem dX8_readText_62 : decode cX8_readText 62 = .ok (.getfield 104, 3) := by decide +kernel
theorem dX8_readText_65 : decode cX8_readText 65 = .ok (.ireturn, 1) := by decide +kernel
theorem dX8_readText_66 : decode cX8_readText 66 = .ok (.iinc 1 1, 3) := by decide +kernel
theorem dX8_readText_69 : decode cX8_readText 69 = .ok (.goto (-57), 3) := by decide +kernel
theorem dX8_readText_72 : decode cX8_readText 72 = .ok (.aload_n 0, 1) := by decide +kernel
theorem dX8_readText_73 : decode cX8_readText 73 = .ok (.getfield 44, 3) := by decide +kernel
theorem dX8_readText_76 : decode cX8_readText 76 = .ok (.iconst 4, 1) := by decide +kernel
theorem dX8_readText_77 : decode cX8_readText 77 = .ok (.aload_n 0, 1) := by decide +kernel
theorem dX8_readText_78 : decode cX8_readText 78 = .ok (.getfield 87, 3) := by decide +kernel
theorem dX8_readText_81 : decode cX8_readText 81 = .ok (.imul, 1) := by decide +kernel
theorem dX8_readText_82 : decode cX8_readText 82 = .ok (.iconst 3, 1) := by decide +kernel
theorem dX8_readText_83 : decode cX8_readText 83 = .ok (.iadd, 1) := by decide +kernel
theorem dX8_readText_84 : decode cX8_readText 84 = .ok (.aload_n 0, 1) := by decide +kernel
theorem dX8_readText_85 : decode cX8_readText 85 = .ok (.getfield 128, 3) := by decide +kernel
theorem dX8_readText_88 : decode cX8_readText 88 = .ok (.iastore, 1) := by decide +kernel
theorem dX8_readText_89 : decode cX8_readText 89 = .ok (.aload_n 0, 1) := by decide +kernel
theorem dX8_readText_90 : decode cX8_readText 90 = .ok (.invokevirtual 177, 3) := by decide +kernel
theorem dX8_readText_93 : decode cX8_readText 93 = .ok (.aload_n 0, 1) := by decide +kernel
theorem dX8_readText_94 : decode cX8_readText 94 = .ok (.getfield 101, 3) := by decide +kernel
theorem dX8_readText_97 : decode cX8_readText 97 = .ok (.ifCond .ne 7, 3) := by decide +kernel
theorem dX8_readText_100 : decode cX8_readText 100 = .ok (.iconst (-1), 1) := by decide +kernel
theorem dX8_readText_101 : decode cX8_readText 101 = .ok (.goto 7, 3) := by decide +kernel
theorem dX8_readText_104 : decode cX8_readText 104 = .ok (.aload_n 0, 1) := by decide +kernel
theorem dX8_readText_105 : decode cX8_readText 105 = .ok (.getfield 104, 3) := by decide +kernel
theorem dX8_readText_108 : decode cX8_readText 108 = .ok (.ireturn, 1) := by decide +kernel
theorem dX8_done_0 : decode cX8_done 0 = .ok (.iload_n 0, 1) := by decide +kernel
theorem dX8_done_1 : decode cX8_done 1 = .ok (.tableswitch 101 10 16 #[43, 57, 101, 71, 82, 93, 97], 43) := by decide +kernel
theorem dX8_done_44 : decode cX8_done 44 = .ok (.iload_n 1, 1) := by decide +kernel
theorem dX8_done_45 : decode cX8_done 45 = .ok (.ifCond .ne 7, 3) := by decide +kernel
theorem dX8_done_48 : decode cX8_done 48 = .ok (.iload_n 2, 1) := by decide +kernel
theorem dX8_done_49 : decode cX8_done 49 = .ok (.ifCond .eq 7, 3) := by decide +kernel
theorem dX8_done_52 : decode cX8_done 52 = .ok (.iconst 1, 1) := by decide +kernel
theorem dX8_done_53 : decode cX8_done 53 = .ok (.goto 4, 3) := by decide +kernel
theorem dX8_done_56 : decode cX8_done 56 = .ok (.iconst 0, 1) := by decide +kernel
theorem dX8_done_57 : decode cX8_done 57 = .ok (.ireturn, 1) := by decide +kernel
theorem dX8_done_58 : decode cX8_done 58 = .ok (.iload_n 1, 1) := by decide +kernel
theorem dX8_done_59 : decode cX8_done 59 = .ok (.ifCond .eq 11, 3) := by decide +kernel
theorem dX8_done_62 : decode cX8_done 62 = .ok (.iload_n 2, 1) := by decide +kernel
theorem dX8_done_63 : decode cX8_done 63 = .ok (.ifCond .eq 7, 3) := by decide +kernel
theorem dX8_done_66 : decode cX8_done 66 = .ok (.iconst 1, 1) := by decide +kernel
theorem dX8_done_67 : decode cX8_done 67 = .ok (.goto 4, 3) := by decide +kernel
theorem dX8_done_70 : decode cX8_done 70 = .ok (.iconst 0, 1) := by decide +kernel
theorem dX8_done_71 : decode cX8_done 71 = .ok (.ireturn, 1) := by decide +kernel
theorem dX8_done_72 : decode cX8_done 72 = .ok (.iload_n 1, 1) := by decide +kernel
theorem dX8_done_73 : decode cX8_done 73 = .ok (.iload_n 2, 1) := by decide +kernel
theorem dX8_done_74 : decode cX8_done 74 = .ok (.if_icmp .ge 7, 3) := by decide +kernel
theorem dX8_done_77 : decode cX8_done 77 = .ok (.iconst 1, 1) := by decide +kernel
theorem dX8_done_78 : decode cX8_done 78 = .ok (.goto 4, 3) := by decide +kernel
theorem dX8_done_81 : decode cX8_done 81 = .ok (.iconst 0, 1) := by decide +kernel
theorem dX8_done_82 : decode cX8_done 82 = .ok (.ireturn, 1) := by decide +kernel
theorem dX8_done_83 : decode cX8_done 83 = .ok (.iload_n 1, 1) := by decide +kernel
theorem dX8_done_84 : decode cX8_done 84 = .ok (.iload_n 2, 1) := by decide +kernel
theorem dX8_done_85 : decode cX8_done 85 = .ok (.if_icmp .ne 7, 3) := by decide +kernel
theorem dX8_done_88 : decode cX8_done 88 = .ok (.iconst 1, 1) := by decide +kernel
theorem dX8_done_89 : decode cX8_done 89 = .ok (.goto 4, 3) := by decide +kernel
theorem dX8_done_92 : decode cX8_done 92 = .ok (.iconst 0, 1) := by decide +kernel
theorem dX8_done_93 : decode cX8_done 93 = .ok (.ireturn, 1) := by decide +kernel
theorem dX8_done_94 : decode cX8_done 94 = .ok (.iload_n 1, 1) := by decide +kernel
theorem dX8_done_95 : decode cX8_done 95 = .ok (.iload_n 2, 1) := by decide +kernel
theorem dX8_done_96 : decode cX8_done 96 = .ok (.iadd, 1) := by decide +kernel
theorem dX8_done_97 : decode cX8_done 97 = .ok (.ireturn, 1) := by decide +kernel
theorem dX8_done_98 : decode cX8_done 98 = .ok (.iload_n 1, 1) := by decide +kernel
theorem dX8_done_99 : decode cX8_done 99 = .ok (.iload_n 2, 1) := by decide +kernel
theorem dX8_done_100 : decode cX8_done 100 = .ok (.isub, 1) := by decide +kernel
theorem dX8_done_101 : decode cX8_done 101 = .ok (.ireturn, 1) := by decide +kernel
theorem dX8_done_102 : decode cX8_done 102 = .ok (.iload_n 1, 1) := by decide +kernel
theorem dX8_done_103 : decode cX8_done 103 = .ok (.iload_n 2, 1) := by decide +kernel
theorem dX8_done_104 : decode cX8_done 104 = .ok (.imul, 1) := by decide +kernel
theorem dX8_done_105 : decode cX8_done 105 = .ok (.ireturn, 1) := by decide +kernel
theorem dX8_says_0 : decode cX8_says 0 = .ok (.iconst 0, 1) := by decide +kernel
theorem dX8_says_1 : decode cX8_says 1 = .ok (.istore_n 2, 1) := by decide +kernel
theorem dX8_says_2 : decode cX8_says 2 = .ok (.aload_n 0, 1) := by decide +kernel
theorem dX8_says_3 : decode cX8_says 3 = .ok (.getfield 44, 3) := by decide +kernel
theorem dX8_says_6 : decode cX8_says 6 = .ok (.iconst 4, 1) := by decide +kernel
theorem dX8_says_7 : decode cX8_says 7 = .ok (.aload_n 0, 1) := by decide +kernel
theorem dX8_says_8 : decode cX8_says 8 = .ok (.getfield 189, 3) := by decide +kernel
theorem dX8_says_11 : decode cX8_says 11 = .ok (.imul, 1) := by decide +kernel
theorem dX8_says_12 : decode cX8_says 12 = .ok (.iload_n 1, 1) := by decide +kernel
theorem dX8_says_13 : decode cX8_says 13 = .ok (.iadd, 1) := by decide +kernel
theorem dX8_says_14 : decode cX8_says 14 = .ok (.iaload, 1) := by decide +kernel
theorem dX8_says_15 : decode cX8_says 15 = .ok (.istore_n 3, 1) := by decide +kernel
theorem dX8_says_16 : decode cX8_says 16 = .ok (.iload_n 3, 1) := by decide +kernel
theorem dX8_says_17 : decode cX8_says 17 = .ok (.aload_n 0, 1) := by decide +kernel
theorem dX8_says_18 : decode cX8_says 18 = .ok (.getfield 44, 3) := by decide +kernel
theorem dX8_says_21 : decode cX8_says 21 = .ok (.iconst 4, 1) := by decide +kernel
theorem dX8_says_22 : decode cX8_says 22 = .ok (.aload_n 0, 1) := by decide +kernel
theorem dX8_says_23 : decode cX8_says 23 = .ok (.getfield 189, 3) := by decide +kernel
theorem dX8_says_26 : decode cX8_says 26 = .ok (.imul, 1) := by decide +kernel
theorem dX8_says_27 : decode cX8_says 27 = .ok (.iload_n 1, 1) := by decide +kernel
theorem dX8_says_28 : decode cX8_says 28 = .ok (.iadd, 1) := by decide +kernel
theorem dX8_says_29 : decode cX8_says 29 = .ok (.iconst 1, 1) := by decide +kernel
theorem dX8_says_30 : decode cX8_says 30 = .ok (.iadd, 1) := by decide +kernel
theorem dX8_says_31 : decode cX8_says 31 = .ok (.iaload, 1) := by decide +kernel
theorem dX8_says_32 : decode cX8_says 32 = .ok (.if_icmp .ge 155, 3) := by decide +kernel
theorem dX8_says_35 : decode cX8_says 35 = .ok (.aload_n 0, 1) := by decide +kernel
theorem dX8_says_36 : decode cX8_says 36 = .ok (.getfield 41, 3) := by decide +kernel
theorem dX8_says_39 : decode cX8_says 39 = .ok (.sipush 160, 3) := by decide +kernel
theorem dX8_says_42 : decode cX8_says 42 = .ok (.aload_n 0, 1) := by decide +kernel
theorem dX8_says_43 : decode cX8_says 43 = .ok (.getfield 189, 3) := by decide +kernel
theorem dX8_says_46 : decode cX8_says 46 = .ok (.imul, 1) := by decide +kernel
theorem dX8_says_47 : decode cX8_says 47 = .ok (.iload_n 3, 1) := by decide +kernel
theorem dX8_says_48 : decode cX8_says 48 = .ok (.iadd, 1) := by decide +kernel
theorem dX8_says_49 : decode cX8_says 49 = .ok (.iaload, 1) := by decide +kernel
theorem dX8_says_50 : decode cX8_says 50 = .ok (.istore 4, 2) := by decide +kernel
theorem dX8_says_52 : decode cX8_says 52 = .ok (.iload 4, 2) := by decide +kernel
theorem dX8_says_54 : decode cX8_says 54 = .ok (.bipush 10, 2) := by decide +kernel
theorem dX8_says_56 : decode cX8_says 56 = .ok (.if_icmp .ge 34, 3) := by decide +kernel
theorem dX8_says_59 : decode cX8_says 59 = .ok (.aload_n 0, 1) := by decide +kernel
theorem dX8_says_60 : decode cX8_says 60 = .ok (.getfield 53, 3) := by decide +kernel
theorem dX8_says_63 : decode cX8_says 63 = .ok (.iload_n 2, 1) := by decide +kernel
theorem dX8_says_64 : decode cX8_says 64 = .ok (.iload 4, 2) := by decide +kernel
theorem dX8_says_66 : decode cX8_says 66 = .ok (.ifCond .ge 10, 3) := by decide +kernel
theorem dX8_says_69 : decode cX8_says 69 = .ok (.iconst (-1), 1) := by decide +kernel
theorem dX8_says_70 : decode cX8_says 70 = .ok (.iload 4, 2) := by decide +kernel
theorem dX8_says_72 : decode cX8_says 72 = .ok (.isub, 1) := by decide +kernel
theorem dX8_says_73 : decode cX8_says 73 = .ok (.goto 10, 3) := by decide +kernel
theorem dX8_says_76 : decode cX8_says 76 = .ok (.aload_n 0, 1) := by decide +kernel
theorem dX8_says_77 : decode cX8_says 77 = .ok (.getfield 50, 3) := by decide +kernel
theorem dX8_says_80 : decode cX8_says 80 = .ok (.iload 4, 2) := by decide +kernel
theorem dX8_says_82 : decode cX8_says 82 = .ok (.iaload, 1) := by decide +kernel
theorem dX8_says_83 : decode cX8_says 83 = .ok (.iastore, 1) := by decide +kernel
theorem dX8_says_84 : decode cX8_says 84 = .ok (.iinc 2 1, 3) := by decide +kernel
theorem dX8_says_87 : decode cX8_says 87 = .ok (.goto 94, 3) := by decide +kernel
theorem dX8_says_90 : decode cX8_says 90 = .ok (.iload 4, 2) := by decide +kernel
theorem dX8_says_92 : decode cX8_says 92 = .ok (.bipush 12, 2) := by decide +kernel
theorem dX8_says_94 : decode cX8_says 94 = .ok (.if_icmp .ne 30, 3) := by decide +kernel
theorem dX8_says_97 : decode cX8_says 97 = .ok (.aload_n 0, 1) := by decide +kernel
theorem dX8_says_98 : decode cX8_says 98 = .ok (.getfield 53, 3) := by decide +kernel
theorem dX8_says_101 : decode cX8_says 101 = .ok (.iload_n 2, 1) := by decide +kernel
theorem dX8_says_102 : decode cX8_says 102 = .ok (.iconst 1, 1) := by decide +kernel
theorem dX8_says_103 : decode cX8_says 103 = .ok (.isub, 1) := by decide +kernel
theorem dX8_says_104 : decode cX8_says 104 = .ok (.aload_n 0, 1) := by decide +kernel
theorem dX8_says_105 : decode cX8_says 105 = .ok (.getfield 53, 3) := by decide +kernel
theorem dX8_says_108 : decode cX8_says 108 = .ok (.iload_n 2, 1) := by decide +kernel
theorem dX8_says_109 : decode cX8_says 109 = .ok (.iconst 1, 1) := by decide +kernel
theorem dX8_says_110 : decode cX8_says 110 = .ok (.isub, 1) := by decide +kernel
theorem dX8_says_111 : decode cX8_says 111 = .ok (.iaload, 1) := by decide +kernel
theorem dX8_says_112 : decode cX8_says 112 = .ok (.ifCond .ne 7, 3) := by decide +kernel
theorem dX8_says_115 : decode cX8_says 115 = .ok (.iconst 1, 1) := by decide +kernel
theorem dX8_says_116 : decode cX8_says 116 = .ok (.goto 4, 3) := by decide +kernel
theorem dX8_says_119 : decode cX8_says 119 = .ok (.iconst 0, 1) := by decide +kernel
theorem dX8_says_120 : decode cX8_says 120 = .ok (.iastore, 1) := by decide +kernel
theorem dX8_says_121 : decode cX8_says 121 = .ok (.goto 60, 3) := by decide +kernel
theorem dX8_says_124 : decode cX8_says 124 = .ok (.iload 4, 2) := by decide +kernel
theorem dX8_says_126 : decode cX8_says 126 = .ok (.bipush 18, 2) := by decide +kernel
theorem dX8_says_128 : decode cX8_says 128 = .ok (.if_icmp .ne 23, 3) := by decide +kernel
theorem dX8_says_131 : decode cX8_says 131 = .ok (.aload_n 0, 1) := by decide +kernel
theorem dX8_says_132 : decode cX8_says 132 = .ok (.getfield 53, 3) := by decide +kernel
theorem dX8_says_135 : decode cX8_says 135 = .ok (.iload_n 2, 1) := by decide +kernel
theorem dX8_says_136 : decode cX8_says 136 = .ok (.iconst 1, 1) := by decide +kernel
theorem dX8_says_137 : decode cX8_says 137 = .ok (.isub, 1) := by decide +kernel
theorem dX8_says_138 : decode cX8_says 138 = .ok (.aload_n 0, 1) := by decide +kernel
theorem dX8_says_139 : decode cX8_says 139 = .ok (.getfield 53, 3) := by decide +kernel
theorem dX8_says_142 : decode cX8_says 142 = .ok (.iload_n 2, 1) := by decide +kernel
theorem dX8_says_143 : decode cX8_says 143 = .ok (.iconst 1, 1) := by decide +kernel
theorem dX8_says_144 : decode cX8_says 144 = .ok (.isub, 1) := by decide +kernel
theorem dX8_says_145 : decode cX8_says 145 = .ok (.iaload, 1) := by decide +kernel
theorem dX8_says_146 : decode cX8_says 146 = .ok (.ineg, 1) := by decide +kernel
theorem dX8_says_147 : decode cX8_says 147 = .ok (.iastore, 1) := by decide +kernel
theorem dX8_says_148 : decode cX8_says 148 = .ok (.goto 33, 3) := by decide +kernel
theorem dX8_says_151 : decode cX8_says 151 = .ok (.iinc 2 (-1), 3) := by decide +kernel
theorem dX8_says_154 : decode cX8_says 154 = .ok (.aload_n 0, 1) := by decide +kernel
theorem dX8_says_155 : decode cX8_says 155 = .ok (.getfield 53, 3) := by decide +kernel
theorem dX8_says_158 : decode cX8_says 158 = .ok (.iload_n 2, 1) := by decide +kernel
theorem dX8_says_159 : decode cX8_says 159 = .ok (.iconst 1, 1) := by decide +kernel
theorem dX8_says_160 : decode cX8_says 160 = .ok (.isub, 1) := by decide +kernel
theorem dX8_says_161 : decode cX8_says 161 = .ok (.iload 4, 2) := by decide +kernel
theorem dX8_says_163 : decode cX8_says 163 = .ok (.aload_n 0, 1) := by decide +kernel
theorem dX8_says_164 : decode cX8_says 164 = .ok (.getfield 53, 3) := by decide +kernel
theorem dX8_says_167 : decode cX8_says 167 = .ok (.iload_n 2, 1) := by decide +kernel
theorem dX8_says_168 : decode cX8_says 168 = .ok (.iconst 1, 1) := by decide +kernel
theorem dX8_says_169 : decode cX8_says 169 = .ok (.isub, 1) := by decide +kernel
theorem dX8_says_170 : decode cX8_says 170 = .ok (.iaload, 1) := by decide +kernel
theorem dX8_says_171 : decode cX8_says 171 = .ok (.aload_n 0, 1) := by decide +kernel
theorem dX8_says_172 : decode cX8_says 172 = .ok (.getfield 53, 3) := by decide +kernel
theorem dX8_says_175 : decode cX8_says 175 = .ok (.iload_n 2, 1) := by decide +kernel
theorem dX8_says_176 : decode cX8_says 176 = .ok (.iaload, 1) := by decide +kernel
theorem dX8_says_177 : decode cX8_says 177 = .ok (.invokestatic 192, 3) := by decide +kernel
theorem dX8_says_180 : decode cX8_says 180 = .ok (.iastore, 1) := by decide +kernel
theorem dX8_says_181 : decode cX8_says 181 = .ok (.iinc 3 1, 3) := by decide +kernel
theorem dX8_says_184 : decode cX8_says 184 = .ok (.goto (-168), 3) := by decide +kernel
theorem dX8_says_187 : decode cX8_says 187 = .ok (.aload_n 0, 1) := by decide +kernel
theorem dX8_says_188 : decode cX8_says 188 = .ok (.getfield 53, 3) := by decide +kernel
theorem dX8_says_191 : decode cX8_says 191 = .ok (.iconst 0, 1) := by decide +kernel
theorem dX8_says_192 : decode cX8_says 192 = .ok (.iaload, 1) := by decide +kernel
theorem dX8_says_193 : decode cX8_says 193 = .ok (.ireturn, 1) := by decide +kernel
theorem dX8_feed_0 : decode cX8_feed 0 = .ok (.aload_n 0, 1) := by decide +kernel
theorem dX8_feed_1 : decode cX8_feed 1 = .ok (.iconst 0, 1) := by decide +kernel
theorem dX8_feed_2 : decode cX8_feed 2 = .ok (.putfield 77, 3) := by decide +kernel
theorem dX8_feed_5 : decode cX8_feed 5 = .ok (.iload_n 1, 1) := by decide +kernel
theorem dX8_feed_6 : decode cX8_feed 6 = .ok (.i2l, 1) := by decide +kernel
theorem dX8_feed_7 : decode cX8_feed 7 = .ok (.lconst 0, 1) := by decide +kernel
theorem dX8_feed_8 : decode cX8_feed 8 = .ok (.ldc2_w 196, 3) := by decide +kernel
theorem dX8_feed_11 : decode cX8_feed 11 = .ok (.invokestatic 97, 3) := by decide +kernel
theorem dX8_feed_14 : decode cX8_feed 14 = .ok (.ifCond .ne 6, 3) := by decide +kernel
theorem dX8_feed_17 : decode cX8_feed 17 = .ok (.bipush (-2), 2) := by decide +kernel
theorem dX8_feed_19 : decode cX8_feed 19 = .ok (.ireturn, 1) := by decide +kernel
theorem dX8_feed_20 : decode cX8_feed 20 = .ok (.aload_n 0, 1) := by decide +kernel
theorem dX8_feed_21 : decode cX8_feed 21 = .ok (.getfield 80, 3) := by decide +kernel
theorem dX8_feed_24 : decode cX8_feed 24 = .ok (.sipush 160, 3) := by decide +kernel
theorem dX8_feed_27 : decode cX8_feed 27 = .ok (.if_icmp .ne 6, 3) := by decide +kernel
theorem dX8_feed_30 : decode cX8_feed 30 = .ok (.bipush (-4), 2) := by decide +kernel
theorem dX8_feed_32 : decode cX8_feed 32 = .ok (.ireturn, 1) := by decide +kernel
theorem dX8_feed_33 : decode cX8_feed 33 = .ok (.aload_n 0, 1) := by decide +kernel
theorem dX8_feed_34 : decode cX8_feed 34 = .ok (.getfield 38, 3) := by decide +kernel
theorem dX8_feed_37 : decode cX8_feed 37 = .ok (.aload_n 0, 1) := by decide +kernel
theorem dX8_feed_38 : decode cX8_feed 38 = .ok (.getfield 80, 3) := by decide +kernel
theorem dX8_feed_41 : decode cX8_feed 41 = .ok (.iload_n 1, 1) := by decide +kernel
theorem dX8_feed_42 : decode cX8_feed 42 = .ok (.iastore, 1) := by decide +kernel
theorem dX8_feed_43 : decode cX8_feed 43 = .ok (.aload_n 0, 1) := by decide +kernel
theorem dX8_feed_44 : decode cX8_feed 44 = .ok (.dup, 1) := by decide +kernel
theorem dX8_feed_45 : decode cX8_feed 45 = .ok (.getfield 80, 3) := by decide +kernel
theorem dX8_feed_48 : decode cX8_feed 48 = .ok (.iconst 1, 1) := by decide +kernel
theorem dX8_feed_49 : decode cX8_feed 49 = .ok (.iadd, 1) := by decide +kernel
theorem dX8_feed_50 : decode cX8_feed 50 = .ok (.putfield 80, 3) := by decide +kernel
theorem dX8_feed_53 : decode cX8_feed 53 = .ok (.aload_n 0, 1) := by decide +kernel
theorem dX8_feed_54 : decode cX8_feed 54 = .ok (.getfield 80, 3) := by decide +kernel
theorem dX8_feed_57 : decode cX8_feed 57 = .ok (.ireturn, 1) := by decide +kernel
theorem dX8_text_0 : decode cX8_text 0 = .ok (.aload_n 0, 1) := by decide +kernel
theorem dX8_text_1 : decode cX8_text 1 = .ok (.iconst 0, 1) := by decide +kernel
theorem dX8_text_2 : decode cX8_text 2 = .ok (.putfield 77, 3) := by decide +kernel
theorem dX8_text_5 : decode cX8_text 5 = .ok (.aload_n 0, 1) := by decide +kernel
theorem dX8_text_6 : decode cX8_text 6 = .ok (.getfield 87, 3) := by decide +kernel
theorem dX8_text_9 : decode cX8_text 9 = .ok (.bipush 6, 2) := by decide +kernel
theorem dX8_text_11 : decode cX8_text 11 = .ok (.if_icmp .ne 6, 3) := by decide +kernel
theorem dX8_text_14 : decode cX8_text 14 = .ok (.bipush (-4), 2) := by decide +kernel
theorem dX8_text_16 : decode cX8_text 16 = .ok (.ireturn, 1) := by decide +kernel
theorem dX8_text_17 : decode cX8_text 17 = .ok (.aload_n 0, 1) := by decide +kernel
theorem dX8_text_18 : decode cX8_text 18 = .ok (.invokevirtual 83, 3) := by decide +kernel
theorem dX8_text_21 : decode cX8_text 21 = .ok (.istore_n 1, 1) := by decide +kernel
theorem dX8_text_22 : decode cX8_text 22 = .ok (.aload_n 0, 1) := by decide +kernel
theorem dX8_text_23 : decode cX8_text 23 = .ok (.iconst 0, 1) := by decide +kernel
theorem dX8_text_24 : decode cX8_text 24 = .ok (.putfield 80, 3) := by decide +kernel
theorem dX8_text_27 : decode cX8_text 27 = .ok (.iload_n 1, 1) := by decide +kernel
theorem dX8_text_28 : decode cX8_text 28 = .ok (.ifCond .lt 8, 3) := by decide +kernel
theorem dX8_text_31 : decode cX8_text 31 = .ok (.bipush (-100), 2) := by decide +kernel
theorem dX8_text_33 : decode cX8_text 33 = .ok (.iload_n 1, 1) := by decide +kernel
theorem dX8_text_34 : decode cX8_text 34 = .ok (.isub, 1) := by decide +kernel
theorem dX8_text_35 : decode cX8_text 35 = .ok (.ireturn, 1) := by decide +kernel
theorem dX8_text_36 : decode cX8_text 36 = .ok (.aload_n 0, 1) := by decide +kernel
theorem dX8_text_37 : decode cX8_text 37 = .ok (.dup, 1) := by decide +kernel
theorem dX8_text_38 : decode cX8_text 38 = .ok (.getfield 87, 3) := by decide +kernel
theorem dX8_text_41 : decode cX8_text 41 = .ok (.iconst 1, 1) := by decide +kernel
theorem dX8_text_42 : decode cX8_text 42 = .ok (.iadd, 1) := by decide +kernel
theorem dX8_text_43 : decode cX8_text 43 = .ok (.putfield 87, 3) := by decide +kernel
theorem dX8_text_46 : decode cX8_text 46 = .ok (.aload_n 0, 1) := by decide +kernel
theorem dX8_text_47 : decode cX8_text 47 = .ok (.getfield 87, 3) := by decide +kernel
theorem dX8_text_50 : decode cX8_text 50 = .ok (.iconst 1, 1) := by decide +kernel
theorem dX8_text_51 : decode cX8_text 51 = .ok (.isub, 1) := by decide +kernel
theorem dX8_text_52 : decode cX8_text 52 = .ok (.ireturn, 1) := by decide +kernel
theorem dX8_force_0 : decode cX8_force 0 = .ok (.aload_n 0, 1) := by decide +kernel
theorem dX8_force_1 : decode cX8_force 1 = .ok (.iconst 0, 1) := by decide +kernel
theorem dX8_force_2 : decode cX8_force 2 = .ok (.putfield 77, 3) := by decide +kernel
theorem dX8_force_5 : decode cX8_force 5 = .ok (.iload_n 1, 1) := by decide +kernel
theorem dX8_force_6 : decode cX8_force 6 = .ok (.i2l, 1) := by decide +kernel
theorem dX8_force_7 : decode cX8_force 7 = .ok (.lconst 0, 1) := by decide +kernel
theorem dX8_force_8 : decode cX8_force 8 = .ok (.aload_n 0, 1) := by decide +kernel
theorem dX8_force_9 : decode cX8_force 9 = .ok (.getfield 87, 3) := by decide +kernel
theorem dX8_force_12 : decode cX8_force 12 = .ok (.iconst 1, 1) := by decide +kernel
theorem dX8_force_13 : decode cX8_force 13 = .ok (.isub, 1) := by decide +kernel
theorem dX8_force_14 : decode cX8_force 14 = .ok (.i2l, 1) := by decide +kernel
theorem dX8_force_15 : decode cX8_force 15 = .ok (.invokestatic 97, 3) := by decide +kernel
theorem dX8_force_18 : decode cX8_force 18 = .ok (.ifCond .ne 6, 3) := by decide +kernel
theorem dX8_force_21 : decode cX8_force 21 = .ok (.bipush (-2), 2) := by decide +kernel
theorem dX8_force_23 : decode cX8_force 23 = .ok (.ireturn, 1) := by decide +kernel
theorem dX8_force_24 : decode cX8_force 24 = .ok (.aload_n 0, 1) := by decide +kernel
theorem dX8_force_25 : decode cX8_force 25 = .ok (.getfield 189, 3) := by decide +kernel
theorem dX8_force_28 : decode cX8_force 28 = .ok (.istore_n 2, 1) := by decide +kernel
theorem dX8_force_29 : decode cX8_force 29 = .ok (.aload_n 0, 1) := by decide +kernel
theorem dX8_force_30 : decode cX8_force 30 = .ok (.iload_n 1, 1) := by decide +kernel
theorem dX8_force_31 : decode cX8_force 31 = .ok (.putfield 189, 3) := by decide +kernel
theorem dX8_force_34 : decode cX8_force 34 = .ok (.iload_n 2, 1) := by decide +kernel
theorem dX8_force_35 : decode cX8_force 35 = .ok (.ireturn, 1) := by decide +kernel
theorem dX8_tallOf_0 : decode cX8_tallOf 0 = .ok (.aload_n 0, 1) := by decide +kernel
theorem dX8_tallOf_1 : decode cX8_tallOf 1 = .ok (.getfield 16, 3) := by decide +kernel
theorem dX8_tallOf_4 : decode cX8_tallOf 4 = .ok (.iload_n 1, 1) := by decide +kernel
theorem dX8_tallOf_5 : decode cX8_tallOf 5 = .ok (.iaload, 1) := by decide +kernel
theorem dX8_tallOf_6 : decode cX8_tallOf 6 = .ok (.istore_n 3, 1) := by decide +kernel
theorem dX8_tallOf_7 : decode cX8_tallOf 7 = .ok (.aload_n 0, 1) := by decide +kernel
theorem dX8_tallOf_8 : decode cX8_tallOf 8 = .ok (.getfield 19, 3) := by decide +kernel
theorem dX8_tallOf_11 : decode cX8_tallOf 11 = .ok (.iload_n 1, 1) := by decide +kernel
theorem dX8_tallOf_12 : decode cX8_tallOf 12 = .ok (.iaload, 1) := by decide +kernel
theorem dX8_tallOf_13 : decode cX8_tallOf 13 = .ok (.istore 4, 2) := by decide +kernel
theorem dX8_tallOf_15 : decode cX8_tallOf 15 = .ok (.iload_n 3, 1) := by decide +kernel
theorem dX8_tallOf_16 : decode cX8_tallOf 16 = .ok (.iload 4, 2) := by decide +kernel
theorem dX8_tallOf_18 : decode cX8_tallOf 18 = .ok (.iadd, 1) := by decide +kernel
theorem dX8_tallOf_19 : decode cX8_tallOf 19 = .ok (.iload_n 2, 1) := by decide +kernel
theorem dX8_tallOf_20 : decode cX8_tallOf 20 = .ok (.iconst 2, 1) := by decide +kernel
theorem dX8_tallOf_21 : decode cX8_tallOf 21 = .ok (.idiv, 1) := by decide +kernel
theorem dX8_tallOf_22 : decode cX8_tallOf 22 = .ok (.isub, 1) := by decide +kernel
theorem dX8_tallOf_23 : decode cX8_tallOf 23 = .ok (.istore 5, 2) := by decide +kernel
theorem dX8_tallOf_25 : decode cX8_tallOf 25 = .ok (.aload_n 0, 1) := by decide +kernel
theorem dX8_tallOf_26 : decode cX8_tallOf 26 = .ok (.getfield 13, 3) := by decide +kernel
theorem dX8_tallOf_29 : decode cX8_tallOf 29 = .ok (.iload_n 1, 1) := by decide +kernel
theorem dX8_tallOf_30 : decode cX8_tallOf 30 = .ok (.iaload, 1) := by decide +kernel
theorem dX8_tallOf_31 : decode cX8_tallOf 31 = .ok (.tableswitch 79 1 5 #[33, 39, 49, 57, 69], 33) := by decide +kernel
theorem dX8_tallOf_64 : decode cX8_tallOf 64 = .ok (.iload 5, 2) := by decide +kernel
theorem dX8_tallOf_66 : decode cX8_tallOf 66 = .ok (.istore_n 3, 1) := by decide +kernel
theorem dX8_tallOf_67 : decode cX8_tallOf 67 = .ok (.goto 43, 3) := by decide +kernel
theorem dX8_tallOf_70 : decode cX8_tallOf 70 = .ok (.iload_n 3, 1) := by decide +kernel
theorem dX8_tallOf_71 : decode cX8_tallOf 71 = .ok (.iconst 3, 1) := by decide +kernel
theorem dX8_tallOf_72 : decode cX8_tallOf 72 = .ok (.iload 4, 2) := by decide +kernel
theorem dX8_tallOf_74 : decode cX8_tallOf 74 = .ok (.imul, 1) := by decide +kernel
theorem dX8_tallOf_75 : decode cX8_tallOf 75 = .ok (.iadd, 1) := by decide +kernel
theorem dX8_tallOf_76 : decode cX8_tallOf 76 = .ok (.istore_n 3, 1) := by decide +kernel
theorem dX8_tallOf_77 : decode cX8_tallOf 77 = .ok (.goto 33, 3) := by decide +kernel
theorem dX8_tallOf_80 : decode cX8_tallOf 80 = .ok (.iload 5, 2) := by decide +kernel
theorem dX8_tallOf_82 : decode cX8_tallOf 82 = .ok (.iconst 2, 1) := by decide +kernel
theorem dX8_tallOf_83 : decode cX8_tallOf 83 = .ok (.idiv, 1) := by decide +kernel
theorem dX8_tallOf_84 : decode cX8_tallOf 84 = .ok (.istore_n 3, 1) := by decide +kernel
theorem dX8_tallOf_85 : decode cX8_tallOf 85 = .ok (.goto 25, 3) := by decide +kernel
theorem dX8_tallOf_88 : decode cX8_tallOf 88 = .ok (.iload_n 3, 1) := by decide +kernel
theorem dX8_tallOf_89 : decode cX8_tallOf 89 = .ok (.iconst 3, 1) := by decide +kernel
theorem dX8_tallOf_90 : decode cX8_tallOf 90 = .ok (.iload 4, 2) := by decide +kernel
theorem dX8_tallOf_92 : decode cX8_tallOf 92 = .ok (.imul, 1) := by decide +kernel
theorem dX8_tallOf_93 : decode cX8_tallOf 93 = .ok (.iconst 2, 1) := by decide +kernel
theorem dX8_tallOf_94 : decode cX8_tallOf 94 = .ok (.iadd, 1) := by decide +kernel
theorem dX8_tallOf_95 : decode cX8_tallOf 95 = .ok (.iadd, 1) := by decide +kernel
theorem dX8_tallOf_96 : decode cX8_tallOf 96 = .ok (.istore_n 3, 1) := by decide +kernel
theorem dX8_tallOf_97 : decode cX8_tallOf 97 = .ok (.goto 13, 3) := by decide +kernel
theorem dX8_tallOf_100 : decode cX8_tallOf 100 = .ok (.iload_n 3, 1) := by decide +kernel
theorem dX8_tallOf_101 : decode cX8_tallOf 101 = .ok (.iload_n 2, 1) := by decide +kernel
theorem dX8_tallOf_102 : decode cX8_tallOf 102 = .ok (.iload 4, 2) := by decide +kernel
theorem dX8_tallOf_104 : decode cX8_tallOf 104 = .ok (.imul, 1) := by decide +kernel
theorem dX8_tallOf_105 : decode cX8_tallOf 105 = .ok (.isub, 1) := by decide +kernel
theorem dX8_tallOf_106 : decode cX8_tallOf 106 = .ok (.istore_n 3, 1) := by decide +kernel
theorem dX8_tallOf_107 : decode cX8_tallOf 107 = .ok (.goto 3, 3) := by decide +kernel
theorem dX8_tallOf_110 : decode cX8_tallOf 110 = .ok (.iload_n 3, 1) := by decide +kernel
theorem dX8_tallOf_111 : decode cX8_tallOf 111 = .ok (.ifCond .ge 7, 3) := by decide +kernel
theorem dX8_tallOf_114 : decode cX8_tallOf 114 = .ok (.iconst 0, 1) := by decide +kernel
theorem dX8_tallOf_115 : decode cX8_tallOf 115 = .ok (.goto 4, 3) := by decide +kernel
theorem dX8_tallOf_118 : decode cX8_tallOf 118 = .ok (.iload_n 3, 1) := by decide +kernel
theorem dX8_tallOf_119 : decode cX8_tallOf 119 = .ok (.ireturn, 1) := by decide +kernel
theorem dX8_givesOf_0 : decode cX8_givesOf 0 = .ok (.aload_n 0, 1) := by decide +kernel
theorem dX8_givesOf_1 : decode cX8_givesOf 1 = .ok (.getfield 19, 3) := by decide +kernel
theorem dX8_givesOf_4 : decode cX8_givesOf 4 = .ok (.iload_n 1, 1) := by decide +kernel
theorem dX8_givesOf_5 : decode cX8_givesOf 5 = .ok (.iaload, 1) := by decide +kernel
theorem dX8_givesOf_6 : decode cX8_givesOf 6 = .ok (.istore_n 3, 1) := by decide +kernel
theorem dX8_givesOf_7 : decode cX8_givesOf 7 = .ok (.iload_n 2, 1) := by decide +kernel
theorem dX8_givesOf_8 : decode cX8_givesOf 8 = .ok (.iconst 2, 1) := by decide +kernel
theorem dX8_givesOf_9 : decode cX8_givesOf 9 = .ok (.idiv, 1) := by decide +kernel
theorem dX8_givesOf_10 : decode cX8_givesOf 10 = .ok (.iload_n 3, 1) := by decide +kernel
theorem dX8_givesOf_11 : decode cX8_givesOf 11 = .ok (.if_icmp .ge 9, 3) := by decide +kernel
theorem dX8_givesOf_14 : decode cX8_givesOf 14 = .ok (.iload_n 2, 1) := by decide +kernel
theorem dX8_givesOf_15 : decode cX8_givesOf 15 = .ok (.iconst 2, 1) := by decide +kernel
theorem dX8_givesOf_16 : decode cX8_givesOf 16 = .ok (.idiv, 1) := by decide +kernel
theorem dX8_givesOf_17 : decode cX8_givesOf 17 = .ok (.goto 4, 3) := by decide +kernel
theorem dX8_givesOf_20 : decode cX8_givesOf 20 = .ok (.iload_n 3, 1) := by decide +kernel
theorem dX8_givesOf_21 : decode cX8_givesOf 21 = .ok (.istore 4, 2) := by decide +kernel
theorem dX8_givesOf_23 : decode cX8_givesOf 23 = .ok (.aload_n 0, 1) := by decide +kernel
theorem dX8_givesOf_24 : decode cX8_givesOf 24 = .ok (.getfield 13, 3) := by decide +kernel
theorem dX8_givesOf_27 : decode cX8_givesOf 27 = .ok (.iload_n 1, 1) := by decide +kernel
theorem dX8_givesOf_28 : decode cX8_givesOf 28 = .ok (.iaload, 1) := by decide +kernel
theorem dX8_givesOf_29 : decode cX8_givesOf 29 = .ok (.istore 5, 2) := by decide +kernel
theorem dX8_givesOf_31 : decode cX8_givesOf 31 = .ok (.iload 5, 2) := by decide +kernel
theorem dX8_givesOf_33 : decode cX8_givesOf 33 = .ok (.iconst 1, 1) := by decide +kernel
theorem dX8_givesOf_34 : decode cX8_givesOf 34 = .ok (.if_icmp .ne 8, 3) := by decide +kernel
theorem dX8_givesOf_37 : decode cX8_givesOf 37 = .ok (.iload 4, 2) := by decide +kernel
theorem dX8_givesOf_39 : decode cX8_givesOf 39 = .ok (.goto 36, 3) := by decide +kernel
theorem dX8_givesOf_42 : decode cX8_givesOf 42 = .ok (.iload 5, 2) := by decide +kernel
theorem dX8_givesOf_44 : decode cX8_givesOf 44 = .ok (.iconst 3, 1) := by decide +kernel
theorem dX8_givesOf_45 : decode cX8_givesOf 45 = .ok (.if_icmp .ne 10, 3) := by decide +kernel
theorem dX8_givesOf_48 : decode cX8_givesOf 48 = .ok (.iload 4, 2) := by decide +kernel
theorem dX8_givesOf_50 : decode cX8_givesOf 50 = .ok (.iconst 1, 1) := by decide +kernel
theorem dX8_givesOf_51 : decode cX8_givesOf 51 = .ok (.iadd, 1) := by decide +kernel
theorem dX8_givesOf_52 : decode cX8_givesOf 52 = .ok (.goto 23, 3) := by decide +kernel
theorem dX8_givesOf_55 : decode cX8_givesOf 55 = .ok (.iload 5, 2) := by decide +kernel
theorem dX8_givesOf_57 : decode cX8_givesOf 57 = .ok (.iconst 5, 1) := by decide +kernel
theorem dX8_givesOf_58 : decode cX8_givesOf 58 = .ok (.if_icmp .ne 16, 3) := by decide +kernel
theorem dX8_givesOf_61 : decode cX8_givesOf 61 = .ok (.iload_n 2, 1) := by decide +kernel
theorem dX8_givesOf_62 : decode cX8_givesOf 62 = .ok (.iload_n 3, 1) := by decide +kernel
theorem dX8_givesOf_63 : decode cX8_givesOf 63 = .ok (.if_icmp .ge 7, 3) := by decide +kernel
theorem dX8_givesOf_66 : decode cX8_givesOf 66 = .ok (.iload_n 2, 1) := by decide +kernel
theorem dX8_givesOf_67 : decode cX8_givesOf 67 = .ok (.goto 8, 3) := by decide +kernel
theorem dX8_givesOf_70 : decode cX8_givesOf 70 = .ok (.iload_n 3, 1) := by decide +kernel
theorem dX8_givesOf_71 : decode cX8_givesOf 71 = .ok (.goto 4, 3) := by decide +kernel
theorem dX8_givesOf_74 : decode cX8_givesOf 74 = .ok (.iconst 0, 1) := by decide +kernel
theorem dX8_givesOf_75 : decode cX8_givesOf 75 = .ok (.ireturn, 1) := by decide +kernel
theorem dX8_cellOf_0 : decode cX8_cellOf 0 = .ok (.iload_n 3, 1) := by decide +kernel
theorem dX8_cellOf_1 : decode cX8_cellOf 1 = .ok (.iconst 2, 1) := by decide +kernel
theorem dX8_cellOf_2 : decode cX8_cellOf 2 = .ok (.iload_n 1, 1) := by decide +kernel
theorem dX8_cellOf_3 : decode cX8_cellOf 3 = .ok (.imul, 1) := by decide +kernel
theorem dX8_cellOf_4 : decode cX8_cellOf 4 = .ok (.iadd, 1) := by decide +kernel
theorem dX8_cellOf_5 : decode cX8_cellOf 5 = .ok (.bipush 8, 2) := by decide +kernel
theorem dX8_cellOf_7 : decode cX8_cellOf 7 = .ok (.irem, 1) := by decide +kernel
theorem dX8_cellOf_8 : decode cX8_cellOf 8 = .ok (.istore 4, 2) := by decide +kernel
theorem dX8_cellOf_10 : decode cX8_cellOf 10 = .ok (.iload 4, 2) := by decide +kernel
theorem dX8_cellOf_12 : decode cX8_cellOf 12 = .ok (.iconst 2, 1) := by decide +kernel
theorem dX8_cellOf_13 : decode cX8_cellOf 13 = .ok (.if_icmp .lt 10, 3) := by decide +kernel
theorem dX8_cellOf_16 : decode cX8_cellOf 16 = .ok (.iload 4, 2) := by decide +kernel
theorem dX8_cellOf_18 : decode cX8_cellOf 18 = .ok (.bipush 7, 2) := by decide +kernel
theorem dX8_cellOf_20 : decode cX8_cellOf 20 = .ok (.if_icmp .ne 7, 3) := by decide +kernel
theorem dX8_cellOf_23 : decode cX8_cellOf 23 = .ok (.iconst 1, 1) := by decide +kernel
theorem dX8_cellOf_24 : decode cX8_cellOf 24 = .ok (.goto 21, 3) := by decide +kernel
theorem dX8_cellOf_27 : decode cX8_cellOf 27 = .ok (.iload 4, 2) := by decide +kernel
theorem dX8_cellOf_29 : decode cX8_cellOf 29 = .ok (.iconst 2, 1) := by decide +kernel
theorem dX8_cellOf_30 : decode cX8_cellOf 30 = .ok (.if_icmp .le 14, 3) := by decide +kernel
theorem dX8_cellOf_33 : decode cX8_cellOf 33 = .ok (.iload 4, 2) := by decide +kernel
theorem dX8_cellOf_35 : decode cX8_cellOf 35 = .ok (.bipush 6, 2) := by decide +kernel
theorem dX8_cellOf_37 : decode cX8_cellOf 37 = .ok (.if_icmp .ge 7, 3) := by decide +kernel
theorem dX8_cellOf_40 : decode cX8_cellOf 40 = .ok (.iconst (-1), 1) := by decide +kernel
theorem dX8_cellOf_41 : decode cX8_cellOf 41 = .ok (.goto 4, 3) := by decide +kernel
theorem dX8_cellOf_44 : decode cX8_cellOf 44 = .ok (.iconst 0, 1) := by decide +kernel
theorem dX8_cellOf_45 : decode cX8_cellOf 45 = .ok (.istore 5, 2) := by decide +kernel
theorem dX8_cellOf_47 : decode cX8_cellOf 47 = .ok (.iload 4, 2) := by decide +kernel
theorem dX8_cellOf_49 : decode cX8_cellOf 49 = .ok (.ifCond .le 13, 3) := by decide +kernel
theorem dX8_cellOf_52 : decode cX8_cellOf 52 = .ok (.iload 4, 2) := by decide +kernel
theorem dX8_cellOf_54 : decode cX8_cellOf 54 = .ok (.iconst 4, 1) := by decide +kernel
theorem dX8_cellOf_55 : decode cX8_cellOf 55 = .ok (.if_icmp .ge 7, 3) := by decide +kernel
theorem dX8_cellOf_58 : decode cX8_cellOf 58 = .ok (.iconst 1, 1) := by decide +kernel
theorem dX8_cellOf_59 : decode cX8_cellOf 59 = .ok (.goto 14, 3) := by decide +kernel
theorem dX8_cellOf_62 : decode cX8_cellOf 62 = .ok (.iload 4, 2) := by decide +kernel
theorem dX8_cellOf_64 : decode cX8_cellOf 64 = .ok (.iconst 4, 1) := by decide +kernel
theorem dX8_cellOf_65 : decode cX8_cellOf 65 = .ok (.if_icmp .le 7, 3) := by decide +kernel
theorem dX8_cellOf_68 : decode cX8_cellOf 68 = .ok (.iconst (-1), 1) := by decide +kernel
theorem dX8_cellOf_69 : decode cX8_cellOf 69 = .ok (.goto 4, 3) := by decide +kernel
theorem dX8_cellOf_72 : decode cX8_cellOf 72 = .ok (.iconst 0, 1) := by decide +kernel
theorem dX8_cellOf_73 : decode cX8_cellOf 73 = .ok (.istore 6, 2) := by decide +kernel
theorem dX8_cellOf_75 : decode cX8_cellOf 75 = .ok (.bipush 8, 2) := by decide +kernel
theorem dX8_cellOf_77 : decode cX8_cellOf 77 = .ok (.iload_n 2, 1) := by decide +kernel
theorem dX8_cellOf_78 : decode cX8_cellOf 78 = .ok (.bipush 8, 2) := by decide +kernel
theorem dX8_cellOf_80 : decode cX8_cellOf 80 = .ok (.idiv, 1) := by decide +kernel
theorem dX8_cellOf_81 : decode cX8_cellOf 81 = .ok (.aload_n 0, 1) := by decide +kernel
theorem dX8_cellOf_82 : decode cX8_cellOf 82 = .ok (.getfield 26, 3) := by decide +kernel
theorem dX8_cellOf_85 : decode cX8_cellOf 85 = .ok (.iload 6, 2) := by decide +kernel
theorem dX8_cellOf_87 : decode cX8_cellOf 87 = .ok (.imul, 1) := by decide +kernel
theorem dX8_cellOf_88 : decode cX8_cellOf 88 = .ok (.iadd, 1) := by decide +kernel
theorem dX8_cellOf_89 : decode cX8_cellOf 89 = .ok (.iconst 0, 1) := by decide +kernel
theorem dX8_cellOf_90 : decode cX8_cellOf 90 = .ok (.bipush 7, 2) := by decide +kernel
theorem dX8_cellOf_92 : decode cX8_cellOf 92 = .ok (.invokestatic 198, 3) := by decide +kernel
theorem dX8_cellOf_95 : decode cX8_cellOf 95 = .ok (.imul, 1) := by decide +kernel
theorem dX8_cellOf_96 : decode cX8_cellOf 96 = .ok (.iload_n 2, 1) := by decide +kernel
theorem dX8_cellOf_97 : decode cX8_cellOf 97 = .ok (.bipush 8, 2) := by decide +kernel
theorem dX8_cellOf_99 : decode cX8_cellOf 99 = .ok (.irem, 1) := by decide +kernel
theorem dX8_cellOf_100 : decode cX8_cellOf 100 = .ok (.aload_n 0, 1) := by decide +kernel
theorem dX8_cellOf_101 : decode cX8_cellOf 101 = .ok (.getfield 26, 3) := by decide +kernel
theorem dX8_cellOf_104 : decode cX8_cellOf 104 = .ok (.iload 5, 2) := by decide +kernel
theorem dX8_cellOf_106 : decode cX8_cellOf 106 = .ok (.imul, 1) := by decide +kernel
theorem dX8_cellOf_107 : decode cX8_cellOf 107 = .ok (.iadd, 1) := by decide +kernel
theorem dX8_cellOf_108 : decode cX8_cellOf 108 = .ok (.iconst 0, 1) := by decide +kernel
theorem dX8_cellOf_109 : decode cX8_cellOf 109 = .ok (.bipush 7, 2) := by decide +kernel
theorem dX8_cellOf_111 : decode cX8_cellOf 111 = .ok (.invokestatic 198, 3) := by decide +kernel
theorem dX8_cellOf_114 : decode cX8_cellOf 114 = .ok (.iadd, 1) := by decide +kernel
theorem dX8_cellOf_115 : decode cX8_cellOf 115 = .ok (.ireturn, 1) := by decide +kernel
theorem dX8_find_0 : decode cX8_find 0 = .ok (.iconst 0, 1) := by decide +kernel
theorem dX8_find_1 : decode cX8_find 1 = .ok (.istore_n 3, 1) := by decide +kernel
theorem dX8_find_2 : decode cX8_find 2 = .ok (.iload_n 3, 1) := by decide +kernel
theorem dX8_find_3 : decode cX8_find 3 = .ok (.iconst 4, 1) := by decide +kernel
theorem dX8_find_4 : decode cX8_find 4 = .ok (.if_icmp .ge 37, 3) := by decide +kernel
theorem dX8_find_7 : decode cX8_find 7 = .ok (.aload_n 0, 1) := by decide +kernel
theorem dX8_find_8 : decode cX8_find 8 = .ok (.getfield 56, 3) := by decide +kernel
theorem dX8_find_11 : decode cX8_find 11 = .ok (.iload_n 3, 1) := by decide +kernel
theorem dX8_find_12 : decode cX8_find 12 = .ok (.aload_n 0, 1) := by decide +kernel
theorem dX8_find_13 : decode cX8_find 13 = .ok (.getfield 7, 3) := by decide +kernel
theorem dX8_find_16 : decode cX8_find 16 = .ok (.aload_n 0, 1) := by decide +kernel
theorem dX8_find_17 : decode cX8_find 17 = .ok (.iload_n 3, 1) := by decide +kernel
theorem dX8_find_18 : decode cX8_find 18 = .ok (.iload_n 1, 1) := by decide +kernel
theorem dX8_find_19 : decode cX8_find 19 = .ok (.iload_n 2, 1) := by decide +kernel
theorem dX8_find_20 : decode cX8_find 20 = .ok (.invokevirtual 201, 3) := by decide +kernel
theorem dX8_find_23 : decode cX8_find 23 = .ok (.iaload, 1) := by decide +kernel
theorem dX8_find_24 : decode cX8_find 24 = .ok (.aload_n 0, 1) := by decide +kernel
theorem dX8_find_25 : decode cX8_find 25 = .ok (.iload_n 3, 1) := by decide +kernel
theorem dX8_find_26 : decode cX8_find 26 = .ok (.aload_n 0, 1) := by decide +kernel
theorem dX8_find_27 : decode cX8_find 27 = .ok (.getfield 204, 3) := by decide +kernel
theorem dX8_find_30 : decode cX8_find 30 = .ok (.invokevirtual 207, 3) := by decide +kernel
theorem dX8_find_33 : decode cX8_find 33 = .ok (.iadd, 1) := by decide +kernel
theorem dX8_find_34 : decode cX8_find 34 = .ok (.iastore, 1) := by decide +kernel
theorem dX8_find_35 : decode cX8_find 35 = .ok (.iinc 3 1, 3) := by decide +kernel
theorem dX8_find_38 : decode cX8_find 38 = .ok (.goto (-36), 3) := by decide +kernel
theorem dX8_find_41 : decode cX8_find 41 = .ok (.aload_n 0, 1) := by decide +kernel
theorem dX8_find_42 : decode cX8_find 42 = .ok (.aload_n 0, 1) := by decide +kernel
theorem dX8_find_43 : decode cX8_find 43 = .ok (.getfield 56, 3) := by decide +kernel
theorem dX8_find_46 : decode cX8_find 46 = .ok (.iconst 0, 1) := by decide +kernel
theorem dX8_find_47 : decode cX8_find 47 = .ok (.iaload, 1) := by decide +kernel
theorem dX8_find_48 : decode cX8_find 48 = .ok (.aload_n 0, 1) := by decide +kernel
theorem dX8_find_49 : decode cX8_find 49 = .ok (.getfield 56, 3) := by decide +kernel
theorem dX8_find_52 : decode cX8_find 52 = .ok (.iconst 2, 1) := by decide +kernel
theorem dX8_find_53 : decode cX8_find 53 = .ok (.iaload, 1) := by decide +kernel
theorem dX8_find_54 : decode cX8_find 54 = .ok (.iadd, 1) := by decide +kernel
theorem dX8_find_55 : decode cX8_find 55 = .ok (.aload_n 0, 1) := by decide +kernel
theorem dX8_find_56 : decode cX8_find 56 = .ok (.getfield 56, 3) := by decide +kernel
theorem dX8_find_59 : decode cX8_find 59 = .ok (.iconst 1, 1) := by decide +kernel
theorem dX8_find_60 : decode cX8_find 60 = .ok (.iaload, 1) := by decide +kernel
theorem dX8_find_61 : decode cX8_find 61 = .ok (.isub, 1) := by decide +kernel
theorem dX8_find_62 : decode cX8_find 62 = .ok (.aload_n 0, 1) := by decide +kernel
theorem dX8_find_63 : decode cX8_find 63 = .ok (.getfield 56, 3) := by decide +kernel
theorem dX8_find_66 : decode cX8_find 66 = .ok (.iconst 3, 1) := by decide +kernel
theorem dX8_find_67 : decode cX8_find 67 = .ok (.iaload, 1) := by decide +kernel
theorem dX8_find_68 : decode cX8_find 68 = .ok (.isub, 1) := by decide +kernel
theorem dX8_find_69 : decode cX8_find 69 = .ok (.putfield 211, 3) := by decide +kernel
theorem dX8_find_72 : decode cX8_find 72 = .ok (.aload_n 0, 1) := by decide +kernel
theorem dX8_find_73 : decode cX8_find 73 = .ok (.aload_n 0, 1) := by decide +kernel
theorem dX8_find_74 : decode cX8_find 74 = .ok (.getfield 211, 3) := by decide +kernel
theorem dX8_find_77 : decode cX8_find 77 = .ok (.ifCond .ge 11, 3) := by decide +kernel
theorem dX8_find_80 : decode cX8_find 80 = .ok (.aload_n 0, 1) := by decide +kernel
theorem dX8_find_81 : decode cX8_find 81 = .ok (.getfield 211, 3) := by decide +kernel
theorem dX8_find_84 : decode cX8_find 84 = .ok (.ineg, 1) := by decide +kernel
theorem dX8_find_85 : decode cX8_find 85 = .ok (.goto 7, 3) := by decide +kernel
theorem dX8_find_88 : decode cX8_find 88 = .ok (.aload_n 0, 1) := by decide +kernel
theorem dX8_find_89 : decode cX8_find 89 = .ok (.getfield 211, 3) := by decide +kernel
theorem dX8_find_92 : decode cX8_find 92 = .ok (.putfield 214, 3) := by decide +kernel
theorem dX8_find_95 : decode cX8_find 95 = .ok (.aload_n 0, 1) := by decide +kernel
theorem dX8_find_96 : decode cX8_find 96 = .ok (.aload_n 0, 1) := by decide +kernel
theorem dX8_find_97 : decode cX8_find 97 = .ok (.getfield 211, 3) := by decide +kernel
theorem dX8_find_100 : decode cX8_find 100 = .ok (.ifCond .ge 7, 3) := by decide +kernel
theorem dX8_find_103 : decode cX8_find 103 = .ok (.iconst 1, 1) := by decide +kernel
theorem dX8_find_104 : decode cX8_find 104 = .ok (.goto 4, 3) := by decide +kernel
theorem dX8_find_107 : decode cX8_find 107 = .ok (.iconst 0, 1) := by decide +kernel
theorem dX8_find_108 : decode cX8_find 108 = .ok (.putfield 217, 3) := by decide +kernel
theorem dX8_find_111 : decode cX8_find 111 = .ok (.aload_n 0, 1) := by decide +kernel
theorem dX8_find_112 : decode cX8_find 112 = .ok (.iconst 1, 1) := by decide +kernel
theorem dX8_find_113 : decode cX8_find 113 = .ok (.aload_n 0, 1) := by decide +kernel
theorem dX8_find_114 : decode cX8_find 114 = .ok (.getfield 217, 3) := by decide +kernel
theorem dX8_find_117 : decode cX8_find 117 = .ok (.isub, 1) := by decide +kernel
theorem dX8_find_118 : decode cX8_find 118 = .ok (.putfield 220, 3) := by decide +kernel
theorem dX8_find_121 : decode cX8_find 121 = .ok (.aload_n 0, 1) := by decide +kernel
theorem dX8_find_122 : decode cX8_find 122 = .ok (.getfield 211, 3) := by decide +kernel
theorem dX8_find_125 : decode cX8_find 125 = .ok (.ifCond .ne 7, 3) := by decide +kernel
theorem dX8_find_128 : decode cX8_find 128 = .ok (.iconst 0, 1) := by decide +kernel
theorem dX8_find_129 : decode cX8_find 129 = .ok (.goto 30, 3) := by decide +kernel
theorem dX8_find_132 : decode cX8_find 132 = .ok (.aload_n 0, 1) := by decide +kernel
theorem dX8_find_133 : decode cX8_find 133 = .ok (.aload_n 0, 1) := by decide +kernel
theorem dX8_find_134 : decode cX8_find 134 = .ok (.getfield 220, 3) := by decide +kernel
theorem dX8_find_137 : decode cX8_find 137 = .ok (.aload_n 0, 1) := by decide +kernel
theorem dX8_find_138 : decode cX8_find 138 = .ok (.getfield 214, 3) := by decide +kernel
theorem dX8_find_141 : decode cX8_find 141 = .ok (.invokevirtual 223, 3) := by decide +kernel
theorem dX8_find_144 : decode cX8_find 144 = .ok (.aload_n 0, 1) := by decide +kernel
theorem dX8_find_145 : decode cX8_find 145 = .ok (.aload_n 0, 1) := by decide +kernel
theorem dX8_find_146 : decode cX8_find 146 = .ok (.getfield 220, 3) := by decide +kernel
theorem dX8_find_149 : decode cX8_find 149 = .ok (.iconst 2, 1) := by decide +kernel
theorem dX8_find_150 : decode cX8_find 150 = .ok (.iadd, 1) := by decide +kernel
theorem dX8_find_151 : decode cX8_find 151 = .ok (.aload_n 0, 1) := by decide +kernel
theorem dX8_find_152 : decode cX8_find 152 = .ok (.getfield 214, 3) := by decide +kernel
theorem dX8_find_155 : decode cX8_find 155 = .ok (.invokevirtual 223, 3) := by decide +kernel
theorem dX8_find_158 : decode cX8_find 158 = .ok (.iadd, 1) := by decide +kernel
theorem dX8_find_159 : decode cX8_find 159 = .ok (.istore_n 3, 1) := by decide +kernel
theorem dX8_find_160 : decode cX8_find 160 = .ok (.aload_n 0, 1) := by decide +kernel
theorem dX8_find_161 : decode cX8_find 161 = .ok (.getfield 50, 3) := by decide +kernel
theorem dX8_find_164 : decode cX8_find 164 = .ok (.iconst 0, 1) := by decide +kernel
theorem dX8_find_165 : decode cX8_find 165 = .ok (.aload_n 0, 1) := by decide +kernel
theorem dX8_find_166 : decode cX8_find 166 = .ok (.getfield 214, 3) := by decide +kernel
theorem dX8_find_169 : decode cX8_find 169 = .ok (.iastore, 1) := by decide +kernel
theorem dX8_find_170 : decode cX8_find 170 = .ok (.aload_n 0, 1) := by decide +kernel
theorem dX8_find_171 : decode cX8_find 171 = .ok (.getfield 50, 3) := by decide +kernel
theorem dX8_find_174 : decode cX8_find 174 = .ok (.iconst 1, 1) := by decide +kernel
theorem dX8_find_175 : decode cX8_find 175 = .ok (.iconst 0, 1) := by decide +kernel
theorem dX8_find_176 : decode cX8_find 176 = .ok (.iastore, 1) := by decide +kernel
theorem dX8_find_177 : decode cX8_find 177 = .ok (.aload_n 0, 1) := by decide +kernel
theorem dX8_find_178 : decode cX8_find 178 = .ok (.getfield 50, 3) := by decide +kernel
theorem dX8_find_181 : decode cX8_find 181 = .ok (.iconst 2, 1) := by decide +kernel
theorem dX8_find_182 : decode cX8_find 182 = .ok (.iload_n 2, 1) := by decide +kernel
theorem dX8_find_183 : decode cX8_find 183 = .ok (.iastore, 1) := by decide +kernel
theorem dX8_find_184 : decode cX8_find 184 = .ok (.aload_n 0, 1) := by decide +kernel
theorem dX8_find_185 : decode cX8_find 185 = .ok (.getfield 50, 3) := by decide +kernel
theorem dX8_find_188 : decode cX8_find 188 = .ok (.iconst 3, 1) := by decide +kernel
theorem dX8_find_189 : decode cX8_find 189 = .ok (.iload_n 1, 1) := by decide +kernel
theorem dX8_find_190 : decode cX8_find 190 = .ok (.bipush 8, 2) := by decide +kernel
theorem dX8_find_192 : decode cX8_find 192 = .ok (.idiv, 1) := by decide +kernel
theorem dX8_find_193 : decode cX8_find 193 = .ok (.iastore, 1) := by decide +kernel
theorem dX8_find_194 : decode cX8_find 194 = .ok (.aload_n 0, 1) := by decide +kernel
theorem dX8_find_195 : decode cX8_find 195 = .ok (.getfield 50, 3) := by decide +kernel
theorem dX8_find_198 : decode cX8_find 198 = .ok (.iconst 4, 1) := by decide +kernel
theorem dX8_find_199 : decode cX8_find 199 = .ok (.iload_n 1, 1) := by decide +kernel
theorem dX8_find_200 : decode cX8_find 200 = .ok (.bipush 8, 2) := by decide +kernel
theorem dX8_find_202 : decode cX8_find 202 = .ok (.irem, 1) := by decide +kernel
theorem dX8_find_203 : decode cX8_find 203 = .ok (.iastore, 1) := by decide +kernel
theorem dX8_find_204 : decode cX8_find 204 = .ok (.aload_n 0, 1) := by decide +kernel
theorem dX8_find_205 : decode cX8_find 205 = .ok (.getfield 50, 3) := by decide +kernel
theorem dX8_find_208 : decode cX8_find 208 = .ok (.iconst 5, 1) := by decide +kernel
theorem dX8_find_209 : decode cX8_find 209 = .ok (.iload_n 3, 1) := by decide +kernel
theorem dX8_find_210 : decode cX8_find 210 = .ok (.iastore, 1) := by decide +kernel
theorem dX8_find_211 : decode cX8_find 211 = .ok (.aload_n 0, 1) := by decide +kernel
theorem dX8_find_212 : decode cX8_find 212 = .ok (.iconst 0, 1) := by decide +kernel
theorem dX8_find_213 : decode cX8_find 213 = .ok (.invokevirtual 226, 3) := by decide +kernel
theorem dX8_find_216 : decode cX8_find 216 = .ok (.iconst 0, 1) := by decide +kernel
theorem dX8_find_217 : decode cX8_find 217 = .ok (.bipush 9, 2) := by decide +kernel
theorem dX8_find_219 : decode cX8_find 219 = .ok (.invokestatic 198, 3) := by decide +kernel
theorem dX8_find_222 : decode cX8_find 222 = .ok (.istore 4, 2) := by decide +kernel
theorem dX8_find_224 : decode cX8_find 224 = .ok (.aload_n 0, 1) := by decide +kernel
theorem dX8_find_225 : decode cX8_find 225 = .ok (.aload_n 0, 1) := by decide +kernel
theorem dX8_find_226 : decode cX8_find 226 = .ok (.getfield 214, 3) := by decide +kernel
theorem dX8_find_229 : decode cX8_find 229 = .ok (.iload 4, 2) := by decide +kernel
theorem dX8_find_231 : decode cX8_find 231 = .ok (.if_icmp .le 11, 3) := by decide +kernel
theorem dX8_find_234 : decode cX8_find 234 = .ok (.aload_n 0, 1) := by decide +kernel
theorem dX8_find_235 : decode cX8_find 235 = .ok (.getfield 214, 3) := by decide +kernel
theorem dX8_find_238 : decode cX8_find 238 = .ok (.iload_n 3, 1) := by decide +kernel
theorem dX8_find_239 : decode cX8_find 239 = .ok (.if_icmp .ge 7, 3) := by decide +kernel
theorem dX8_find_242 : decode cX8_find 242 = .ok (.iconst 0, 1) := by decide +kernel
theorem dX8_find_243 : decode cX8_find 243 = .ok (.goto 9, 3) := by decide +kernel
theorem dX8_find_246 : decode cX8_find 246 = .ok (.aload_n 0, 1) := by decide +kernel
theorem dX8_find_247 : decode cX8_find 247 = .ok (.getfield 214, 3) := by decide +kernel
theorem dX8_find_250 : decode cX8_find 250 = .ok (.iload_n 3, 1) := by decide +kernel
theorem dX8_find_251 : decode cX8_find 251 = .ok (.isub, 1) := by decide +kernel
theorem dX8_find_252 : decode cX8_find 252 = .ok (.putfield 229, 3) := by decide +kernel
theorem dX8_find_255 : decode cX8_find 255 = .ok (.aload_n 0, 1) := by decide +kernel
theorem dX8_find_256 : decode cX8_find 256 = .ok (.invokevirtual 232, 3) := by decide +kernel
theorem dX8_find_259 : decode cX8_find 259 = .ok (.aload_n 0, 1) := by decide +kernel
theorem dX8_find_260 : decode cX8_find 260 = .ok (.getfield 50, 3) := by decide +kernel
theorem dX8_find_263 : decode cX8_find 263 = .ok (.iconst 0, 1) := by decide +kernel
theorem dX8_find_264 : decode cX8_find 264 = .ok (.aload_n 0, 1) := by decide +kernel
theorem dX8_find_265 : decode cX8_find 265 = .ok (.getfield 229, 3) := by decide +kernel
theorem dX8_find_268 : decode cX8_find 268 = .ok (.iastore, 1) := by decide +kernel
theorem dX8_find_269 : decode cX8_find 269 = .ok (.aload_n 0, 1) := by decide +kernel
theorem dX8_find_270 : decode cX8_find 270 = .ok (.getfield 50, 3) := by decide +kernel
theorem dX8_find_273 : decode cX8_find 273 = .ok (.iconst 1, 1) := by decide +kernel
theorem dX8_find_274 : decode cX8_find 274 = .ok (.aload_n 0, 1) := by decide +kernel
theorem dX8_find_275 : decode cX8_find 275 = .ok (.getfield 235, 3) := by decide +kernel
theorem dX8_find_278 : decode cX8_find 278 = .ok (.iastore, 1) := by decide +kernel
theorem dX8_find_279 : decode cX8_find 279 = .ok (.return_, 1) := by decide +kernel
theorem dX8_findLean_0 : decode cX8_findLean 0 = .ok (.aload_n 0, 1) := by decide +kernel
theorem dX8_findLean_1 : decode cX8_findLean 1 = .ok (.getfield 56, 3) := by decide +kernel
theorem dX8_findLean_4 : decode cX8_findLean 4 = .ok (.aload_n 0, 1) := by decide +kernel
theorem dX8_findLean_5 : decode cX8_findLean 5 = .ok (.getfield 217, 3) := by decide +kernel
theorem dX8_findLean_8 : decode cX8_findLean 8 = .ok (.iaload, 1) := by decide +kernel
theorem dX8_findLean_9 : decode cX8_findLean 9 = .ok (.aload_n 0, 1) := by decide +kernel
theorem dX8_findLean_10 : decode cX8_findLean 10 = .ok (.getfield 56, 3) := by decide +kernel
theorem dX8_findLean_13 : decode cX8_findLean 13 = .ok (.aload_n 0, 1) := by decide +kernel
theorem dX8_findLean_14 : decode cX8_findLean 14 = .ok (.getfield 217, 3) := by decide +kernel
theorem dX8_findLean_17 : decode cX8_findLean 17 = .ok (.iconst 2, 1) := by decide +kernel
theorem dX8_findLean_18 : decode cX8_findLean 18 = .ok (.iadd, 1) := by decide +kernel
theorem dX8_findLean_19 : decode cX8_findLean 19 = .ok (.iaload, 1) := by decide +kernel
theorem dX8_findLean_20 : decode cX8_findLean 20 = .ok (.iadd, 1) := by decide +kernel
theorem dX8_findLean_21 : decode cX8_findLean 21 = .ok (.istore_n 1, 1) := by decide +kernel
theorem dX8_findLean_22 : decode cX8_findLean 22 = .ok (.aload_n 0, 1) := by decide +kernel
theorem dX8_findLean_23 : decode cX8_findLean 23 = .ok (.getfield 211, 3) := by decide +kernel
theorem dX8_findLean_26 : decode cX8_findLean 26 = .ok (.ifCond .ne 17, 3) := by decide +kernel
theorem dX8_findLean_29 : decode cX8_findLean 29 = .ok (.aload_n 0, 1) := by decide +kernel
theorem dX8_findLean_30 : decode cX8_findLean 30 = .ok (.getfield 56, 3) := by decide +kernel
theorem dX8_findLean_33 : decode cX8_findLean 33 = .ok (.aload_n 0, 1) := by decide +kernel
theorem dX8_findLean_34 : decode cX8_findLean 34 = .ok (.getfield 220, 3) := by decide +kernel
theorem dX8_findLean_37 : decode cX8_findLean 37 = .ok (.iconst 2, 1) := by decide +kernel
theorem dX8_findLean_38 : decode cX8_findLean 38 = .ok (.iadd, 1) := by decide +kernel
theorem dX8_findLean_39 : decode cX8_findLean 39 = .ok (.iaload, 1) := by decide +kernel
theorem dX8_findLean_40 : decode cX8_findLean 40 = .ok (.goto 14, 3) := by decide +kernel
theorem dX8_findLean_43 : decode cX8_findLean 43 = .ok (.iload_n 1, 1) := by decide +kernel
theorem dX8_findLean_44 : decode cX8_findLean 44 = .ok (.aload_n 0, 1) := by decide +kernel
theorem dX8_findLean_45 : decode cX8_findLean 45 = .ok (.getfield 56, 3) := by decide +kernel
theorem dX8_findLean_48 : decode cX8_findLean 48 = .ok (.aload_n 0, 1) := by decide +kernel
theorem dX8_findLean_49 : decode cX8_findLean 49 = .ok (.getfield 220, 3) := by decide +kernel
theorem dX8_findLean_52 : decode cX8_findLean 52 = .ok (.iaload, 1) := by decide +kernel
theorem dX8_findLean_53 : decode cX8_findLean 53 = .ok (.isub, 1) := by decide +kernel
theorem dX8_findLean_54 : decode cX8_findLean 54 = .ok (.istore_n 2, 1) := by decide +kernel
theorem dX8_findLean_55 : decode cX8_findLean 55 = .ok (.aload_n 0, 1) := by decide +kernel
theorem dX8_findLean_56 : decode cX8_findLean 56 = .ok (.getfield 56, 3) := by decide +kernel
theorem dX8_findLean_59 : decode cX8_findLean 59 = .ok (.aload_n 0, 1) := by decide +kernel
theorem dX8_findLean_60 : decode cX8_findLean 60 = .ok (.getfield 217, 3) := by decide +kernel
theorem dX8_findLean_63 : decode cX8_findLean 63 = .ok (.iaload, 1) := by decide +kernel
theorem dX8_findLean_64 : decode cX8_findLean 64 = .ok (.istore_n 3, 1) := by decide +kernel
theorem dX8_findLean_65 : decode cX8_findLean 65 = .ok (.iload_n 3, 1) := by decide +kernel
theorem dX8_findLean_66 : decode cX8_findLean 66 = .ok (.istore 4, 2) := by decide +kernel
theorem dX8_findLean_68 : decode cX8_findLean 68 = .ok (.iconst 0, 1) := by decide +kernel
theorem dX8_findLean_69 : decode cX8_findLean 69 = .ok (.istore 5, 2) := by decide +kernel
theorem dX8_findLean_71 : decode cX8_findLean 71 = .ok (.iload 5, 2) := by decide +kernel
theorem dX8_findLean_73 : decode cX8_findLean 73 = .ok (.iconst 3, 1) := by decide +kernel
theorem dX8_findLean_74 : decode cX8_findLean 74 = .ok (.if_icmp .ge 78, 3) := by decide +kernel
theorem dX8_findLean_77 : decode cX8_findLean 77 = .ok (.iload 5, 2) := by decide +kernel
theorem dX8_findLean_79 : decode cX8_findLean 79 = .ok (.ifCond .ne 17, 3) := by decide +kernel
theorem dX8_findLean_82 : decode cX8_findLean 82 = .ok (.aload_n 0, 1) := by decide +kernel
theorem dX8_findLean_83 : decode cX8_findLean 83 = .ok (.getfield 56, 3) := by decide +kernel
theorem dX8_findLean_86 : decode cX8_findLean 86 = .ok (.aload_n 0, 1) := by decide +kernel
theorem dX8_findLean_87 : decode cX8_findLean 87 = .ok (.getfield 217, 3) := by decide +kernel
theorem dX8_findLean_90 : decode cX8_findLean 90 = .ok (.iconst 2, 1) := by decide +kernel
theorem dX8_findLean_91 : decode cX8_findLean 91 = .ok (.iadd, 1) := by decide +kernel
theorem dX8_findLean_92 : decode cX8_findLean 92 = .ok (.iaload, 1) := by decide +kernel
theorem dX8_findLean_93 : decode cX8_findLean 93 = .ok (.goto 22, 3) := by decide +kernel
theorem dX8_findLean_96 : decode cX8_findLean 96 = .ok (.iload 5, 2) := by decide +kernel
theorem dX8_findLean_98 : decode cX8_findLean 98 = .ok (.iconst 1, 1) := by decide +kernel
theorem dX8_findLean_99 : decode cX8_findLean 99 = .ok (.if_icmp .ne 15, 3) := by decide +kernel
theorem dX8_findLean_102 : decode cX8_findLean 102 = .ok (.aload_n 0, 1) := by decide +kernel
theorem dX8_findLean_103 : decode cX8_findLean 103 = .ok (.getfield 56, 3) := by decide +kernel
theorem dX8_findLean_106 : decode cX8_findLean 106 = .ok (.aload_n 0, 1) := by decide +kernel
theorem dX8_findLean_107 : decode cX8_findLean 107 = .ok (.getfield 220, 3) := by decide +kernel
theorem dX8_findLean_110 : decode cX8_findLean 110 = .ok (.iaload, 1) := by decide +kernel
theorem dX8_findLean_111 : decode cX8_findLean 111 = .ok (.goto 4, 3) := by decide +kernel
theorem dX8_findLean_114 : decode cX8_findLean 114 = .ok (.iload_n 2, 1) := by decide +kernel
theorem dX8_findLean_115 : decode cX8_findLean 115 = .ok (.istore 6, 2) := by decide +kernel
theorem dX8_findLean_117 : decode cX8_findLean 117 = .ok (.iload 6, 2) := by decide +kernel
theorem dX8_findLean_119 : decode cX8_findLean 119 = .ok (.iload_n 3, 1) := by decide +kernel
theorem dX8_findLean_120 : decode cX8_findLean 120 = .ok (.if_icmp .le 8, 3) := by decide +kernel
theorem dX8_findLean_123 : decode cX8_findLean 123 = .ok (.iload 6, 2) := by decide +kernel
theorem dX8_findLean_125 : decode cX8_findLean 125 = .ok (.goto 4, 3) := by decide +kernel
theorem dX8_findLean_128 : decode cX8_findLean 128 = .ok (.iload_n 3, 1) := by decide +kernel
theorem dX8_findLean_129 : decode cX8_findLean 129 = .ok (.istore_n 3, 1) := by decide +kernel
theorem dX8_findLean_130 : decode cX8_findLean 130 = .ok (.iload 6, 2) := by decide +kernel
theorem dX8_findLean_132 : decode cX8_findLean 132 = .ok (.iload 4, 2) := by decide +kernel
theorem dX8_findLean_134 : decode cX8_findLean 134 = .ok (.if_icmp .ge 8, 3) := by decide +kernel
theorem dX8_findLean_137 : decode cX8_findLean 137 = .ok (.iload 6, 2) := by decide +kernel
theorem dX8_findLean_139 : decode cX8_findLean 139 = .ok (.goto 5, 3) := by decide +kernel
theorem dX8_findLean_142 : decode cX8_findLean 142 = .ok (.iload 4, 2) := by decide +kernel
theorem dX8_findLean_144 : decode cX8_findLean 144 = .ok (.istore 4, 2) := by decide +kernel
theorem dX8_findLean_146 : decode cX8_findLean 146 = .ok (.iinc 5 1, 3) := by decide +kernel
theorem dX8_findLean_149 : decode cX8_findLean 149 = .ok (.goto (-78), 3) := by decide +kernel
theorem dX8_findLean_152 : decode cX8_findLean 152 = .ok (.aload_n 0, 1) := by decide +kernel
theorem dX8_findLean_153 : decode cX8_findLean 153 = .ok (.iload_n 3, 1) := by decide +kernel
theorem dX8_findLean_154 : decode cX8_findLean 154 = .ok (.iload 4, 2) := by decide +kernel
theorem dX8_findLean_156 : decode cX8_findLean 156 = .ok (.isub, 1) := by decide +kernel
theorem dX8_findLean_157 : decode cX8_findLean 157 = .ok (.putfield 235, 3) := by decide +kernel
theorem dX8_findLean_160 : decode cX8_findLean 160 = .ok (.return_, 1) := by decide +kernel
theorem dX8_findNow_0 : decode cX8_findNow 0 = .ok (.aload_n 0, 1) := by decide +kernel
theorem dX8_findNow_1 : decode cX8_findNow 1 = .ok (.aload_n 0, 1) := by decide +kernel
theorem dX8_findNow_2 : decode cX8_findNow 2 = .ok (.getfield 22, 3) := by decide +kernel
theorem dX8_findNow_5 : decode cX8_findNow 5 = .ok (.aload_n 0, 1) := by decide +kernel
theorem dX8_findNow_6 : decode cX8_findNow 6 = .ok (.getfield 238, 3) := by decide +kernel
theorem dX8_findNow_9 : decode cX8_findNow 9 = .ok (.invokevirtual 241, 3) := by decide +kernel
theorem dX8_findNow_12 : decode cX8_findNow 12 = .ok (.return_, 1) := by decide +kernel
theorem dX8_foundOf_0 : decode cX8_foundOf 0 = .ok (.iload_n 1, 1) := by decide +kernel
theorem dX8_foundOf_1 : decode cX8_foundOf 1 = .ok (.tableswitch 91 0 4 #[35, 40, 45, 50, 76], 35) := by decide +kernel
theorem dX8_foundOf_36 : decode cX8_foundOf 36 = .ok (.aload_n 0, 1) := by decide +kernel
theorem dX8_foundOf_37 : decode cX8_foundOf 37 = .ok (.getfield 211, 3) := by decide +kernel
theorem dX8_foundOf_40 : decode cX8_foundOf 40 = .ok (.ireturn, 1) := by decide +kernel
theorem dX8_foundOf_41 : decode cX8_foundOf 41 = .ok (.aload_n 0, 1) := by decide +kernel
theorem dX8_foundOf_42 : decode cX8_foundOf 42 = .ok (.getfield 229, 3) := by decide +kernel
theorem dX8_foundOf_45 : decode cX8_foundOf 45 = .ok (.ireturn, 1) := by decide +kernel
theorem dX8_foundOf_46 : decode cX8_foundOf 46 = .ok (.aload_n 0, 1) := by decide +kernel
theorem dX8_foundOf_47 : decode cX8_foundOf 47 = .ok (.getfield 235, 3) := by decide +kernel
theorem dX8_foundOf_50 : decode cX8_foundOf 50 = .ok (.ireturn, 1) := by decide +kernel
theorem dX8_foundOf_51 : decode cX8_foundOf 51 = .ok (.aload_n 0, 1) := by decide +kernel
theorem dX8_foundOf_52 : decode cX8_foundOf 52 = .ok (.getfield 211, 3) := by decide +kernel
theorem dX8_foundOf_55 : decode cX8_foundOf 55 = .ok (.ifCond .ne 7, 3) := by decide +kernel
theorem dX8_foundOf_58 : decode cX8_foundOf 58 = .ok (.iconst 0, 1) := by decide +kernel
theorem dX8_foundOf_59 : decode cX8_foundOf 59 = .ok (.goto 17, 3) := by decide +kernel
theorem dX8_foundOf_62 : decode cX8_foundOf 62 = .ok (.aload_n 0, 1) := by decide +kernel
theorem dX8_foundOf_63 : decode cX8_foundOf 63 = .ok (.getfield 220, 3) := by decide +kernel
theorem dX8_foundOf_66 : decode cX8_foundOf 66 = .ok (.iconst 1, 1) := by decide +kernel
theorem dX8_foundOf_67 : decode cX8_foundOf 67 = .ok (.if_icmp .ne 8, 3) := by decide +kernel
theorem dX8_foundOf_70 : decode cX8_foundOf 70 = .ok (.bipush 10, 2) := by decide +kernel
theorem dX8_foundOf_72 : decode cX8_foundOf 72 = .ok (.goto 4, 3) := by decide +kernel
theorem dX8_foundOf_75 : decode cX8_foundOf 75 = .ok (.iconst 5, 1) := by decide +kernel
theorem dX8_foundOf_76 : decode cX8_foundOf 76 = .ok (.ireturn, 1) := by decide +kernel
theorem dX8_foundOf_77 : decode cX8_foundOf 77 = .ok (.aload_n 0, 1) := by decide +kernel
theorem dX8_foundOf_78 : decode cX8_foundOf 78 = .ok (.iconst 1, 1) := by decide +kernel
theorem dX8_foundOf_79 : decode cX8_foundOf 79 = .ok (.invokevirtual 226, 3) := by decide +kernel
theorem dX8_foundOf_82 : decode cX8_foundOf 82 = .ok (.sipush (-999), 3) := by decide +kernel
theorem dX8_foundOf_85 : decode cX8_foundOf 85 = .ok (.sipush 999, 3) := by decide +kernel
theorem dX8_foundOf_88 : decode cX8_foundOf 88 = .ok (.invokestatic 198, 3) := by decide +kernel
theorem dX8_foundOf_91 : decode cX8_foundOf 91 = .ok (.ireturn, 1) := by decide +kernel
theorem dX8_foundOf_92 : decode cX8_foundOf 92 = .ok (.aload_n 0, 1) := by decide +kernel
theorem dX8_foundOf_93 : decode cX8_foundOf 93 = .ok (.iconst 2, 1) := by decide +kernel
theorem dX8_foundOf_94 : decode cX8_foundOf 94 = .ok (.invokevirtual 226, 3) := by decide +kernel
theorem dX8_foundOf_97 : decode cX8_foundOf 97 = .ok (.iconst 0, 1) := by decide +kernel
theorem dX8_foundOf_98 : decode cX8_foundOf 98 = .ok (.bipush 99, 2) := by decide +kernel
theorem dX8_foundOf_100 : decode cX8_foundOf 100 = .ok (.invokestatic 198, 3) := by decide +kernel
theorem dX8_foundOf_103 : decode cX8_foundOf 103 = .ok (.ireturn, 1) := by decide +kernel
theorem dX8_stands_0 : decode cX8_stands 0 = .ok (.aload_n 0, 1) := by decide +kernel
theorem dX8_stands_1 : decode cX8_stands 1 = .ok (.iconst 0, 1) := by decide +kernel
theorem dX8_stands_2 : decode cX8_stands 2 = .ok (.putfield 77, 3) := by decide +kernel
theorem dX8_stands_5 : decode cX8_stands 5 = .ok (.iload_n 1, 1) := by decide +kernel
theorem dX8_stands_6 : decode cX8_stands 6 = .ok (.i2l, 1) := by decide +kernel
theorem dX8_stands_7 : decode cX8_stands 7 = .ok (.lconst 0, 1) := by decide +kernel
theorem dX8_stands_8 : decode cX8_stands 8 = .ok (.ldc2_w 245, 3) := by decide +kernel
theorem dX8_stands_11 : decode cX8_stands 11 = .ok (.invokestatic 97, 3) := by decide +kernel
theorem dX8_stands_14 : decode cX8_stands 14 = .ok (.ifCond .ne 6, 3) := by decide +kernel
theorem dX8_stands_17 : decode cX8_stands 17 = .ok (.ldc 247, 2) := by decide +kernel
theorem dX8_stands_19 : decode cX8_stands 19 = .ok (.ireturn, 1) := by decide +kernel
theorem dX8_stands_20 : decode cX8_stands 20 = .ok (.aload_n 0, 1) := by decide +kernel
theorem dX8_stands_21 : decode cX8_stands 21 = .ok (.invokevirtual 248, 3) := by decide +kernel
theorem dX8_stands_24 : decode cX8_stands 24 = .ok (.aload_n 0, 1) := by decide +kernel
theorem dX8_stands_25 : decode cX8_stands 25 = .ok (.iload_n 1, 1) := by decide +kernel
theorem dX8_stands_26 : decode cX8_stands 26 = .ok (.invokevirtual 251, 3) := by decide +kernel
theorem dX8_stands_29 : decode cX8_stands 29 = .ok (.ireturn, 1) := by decide +kernel
theorem dX8_standsAt_0 : decode cX8_standsAt 0 = .ok (.aload_n 0, 1) := by decide +kernel
theorem dX8_standsAt_1 : decode cX8_standsAt 1 = .ok (.iconst 0, 1) := by decide +kernel
theorem dX8_standsAt_2 : decode cX8_standsAt 2 = .ok (.putfield 77, 3) := by decide +kernel
theorem dX8_standsAt_5 : decode cX8_standsAt 5 = .ok (.iload_n 1, 1) := by decide +kernel
theorem dX8_standsAt_6 : decode cX8_standsAt 6 = .ok (.i2l, 1) := by decide +kernel
theorem dX8_standsAt_7 : decode cX8_standsAt 7 = .ok (.lconst 0, 1) := by decide +kernel
theorem dX8_standsAt_8 : decode cX8_standsAt 8 = .ok (.ldc2_w 254, 3) := by decide +kernel
theorem dX8_standsAt_11 : decode cX8_standsAt 11 = .ok (.invokestatic 97, 3) := by decide +kernel
theorem dX8_standsAt_14 : decode cX8_standsAt 14 = .ok (.ifCond .eq 27, 3) := by decide +kernel
theorem dX8_standsAt_17 : decode cX8_standsAt 17 = .ok (.iload_n 2, 1) := by decide +kernel
theorem dX8_standsAt_18 : decode cX8_standsAt 18 = .ok (.i2l, 1) := by decide +kernel
theorem dX8_standsAt_19 : decode cX8_standsAt 19 = .ok (.lconst 0, 1) := by decide +kernel
theorem dX8_standsAt_20 : decode cX8_standsAt 20 = .ok (.ldc2_w 256, 3) := by decide +kernel
theorem dX8_standsAt_23 : decode cX8_standsAt 23 = .ok (.invokestatic 97, 3) := by decide +kernel
theorem dX8_standsAt_26 : decode cX8_standsAt 26 = .ok (.ifCond .eq 15, 3) := by decide +kernel
theorem dX8_standsAt_29 : decode cX8_standsAt 29 = .ok (.iload_n 3, 1) := by decide +kernel
theorem dX8_standsAt_30 : decode cX8_standsAt 30 = .ok (.i2l, 1) := by decide +kernel
theorem dX8_standsAt_31 : decode cX8_standsAt 31 = .ok (.lconst 0, 1) := by decide +kernel
theorem dX8_standsAt_32 : decode cX8_standsAt 32 = .ok (.ldc2_w 245, 3) := by decide +kernel
theorem dX8_standsAt_35 : decode cX8_standsAt 35 = .ok (.invokestatic 97, 3) := by decide +kernel
theorem dX8_standsAt_38 : decode cX8_standsAt 38 = .ok (.ifCond .ne 6, 3) := by decide +kernel
theorem dX8_standsAt_41 : decode cX8_standsAt 41 = .ok (.ldc 247, 2) := by decide +kernel
theorem dX8_standsAt_43 : decode cX8_standsAt 43 = .ok (.ireturn, 1) := by decide +kernel
theorem dX8_standsAt_44 : decode cX8_standsAt 44 = .ok (.aload_n 0, 1) := by decide +kernel
theorem dX8_standsAt_45 : decode cX8_standsAt 45 = .ok (.iload_n 1, 1) := by decide +kernel
theorem dX8_standsAt_46 : decode cX8_standsAt 46 = .ok (.iload_n 2, 1) := by decide +kernel
theorem dX8_standsAt_47 : decode cX8_standsAt 47 = .ok (.invokevirtual 241, 3) := by decide +kernel
theorem dX8_standsAt_50 : decode cX8_standsAt 50 = .ok (.aload_n 0, 1) := by decide +kernel
theorem dX8_standsAt_51 : decode cX8_standsAt 51 = .ok (.iload_n 3, 1) := by decide +kernel
theorem dX8_standsAt_52 : decode cX8_standsAt 52 = .ok (.invokevirtual 251, 3) := by decide +kernel
theorem dX8_standsAt_55 : decode cX8_standsAt 55 = .ok (.ireturn, 1) := by decide +kernel
theorem dX8_isFirmAt_0 : decode cX8_isFirmAt 0 = .ok (.aload_n 0, 1) := by decide +kernel
theorem dX8_isFirmAt_1 : decode cX8_isFirmAt 1 = .ok (.iload_n 1, 1) := by decide +kernel
theorem dX8_isFirmAt_2 : decode cX8_isFirmAt 2 = .ok (.iload_n 2, 1) := by decide +kernel
theorem dX8_isFirmAt_3 : decode cX8_isFirmAt 3 = .ok (.bipush 8, 2) := by decide +kernel
theorem dX8_isFirmAt_5 : decode cX8_isFirmAt 5 = .ok (.irem, 1) := by decide +kernel
theorem dX8_isFirmAt_6 : decode cX8_isFirmAt 6 = .ok (.invokevirtual 241, 3) := by decide +kernel
theorem dX8_isFirmAt_9 : decode cX8_isFirmAt 9 = .ok (.aload_n 0, 1) := by decide +kernel
theorem dX8_isFirmAt_10 : decode cX8_isFirmAt 10 = .ok (.getfield 229, 3) := by decide +kernel
theorem dX8_isFirmAt_13 : decode cX8_isFirmAt 13 = .ok (.ifCond .ne 7, 3) := by decide +kernel
theorem dX8_isFirmAt_16 : decode cX8_isFirmAt 16 = .ok (.iconst 1, 1) := by decide +kernel
theorem dX8_isFirmAt_17 : decode cX8_isFirmAt 17 = .ok (.goto 4, 3) := by decide +kernel
theorem dX8_isFirmAt_20 : decode cX8_isFirmAt 20 = .ok (.iconst 0, 1) := by decide +kernel
theorem dX8_isFirmAt_21 : decode cX8_isFirmAt 21 = .ok (.ireturn, 1) := by decide +kernel
theorem dX8_firmAt_0 : decode cX8_firmAt 0 = .ok (.iconst 0, 1) := by decide +kernel
theorem dX8_firmAt_1 : decode cX8_firmAt 1 = .ok (.istore_n 2, 1) := by decide +kernel
theorem dX8_firmAt_2 : decode cX8_firmAt 2 = .ok (.iconst 0, 1) := by decide +kernel
theorem dX8_firmAt_3 : decode cX8_firmAt 3 = .ok (.istore_n 3, 1) := by decide +kernel
theorem dX8_firmAt_4 : decode cX8_firmAt 4 = .ok (.iload_n 3, 1) := by decide +kernel
theorem dX8_firmAt_5 : decode cX8_firmAt 5 = .ok (.bipush 8, 2) := by decide +kernel
theorem dX8_firmAt_7 : decode cX8_firmAt 7 = .ok (.if_icmp .ge 28, 3) := by decide +kernel
theorem dX8_firmAt_10 : decode cX8_firmAt 10 = .ok (.aload_n 0, 1) := by decide +kernel
theorem dX8_firmAt_11 : decode cX8_firmAt 11 = .ok (.iload_n 1, 1) := by decide +kernel
theorem dX8_firmAt_12 : decode cX8_firmAt 12 = .ok (.iload_n 3, 1) := by decide +kernel
theorem dX8_firmAt_13 : decode cX8_firmAt 13 = .ok (.invokevirtual 258, 3) := by decide +kernel
theorem dX8_firmAt_16 : decode cX8_firmAt 16 = .ok (.ifCond .eq 11, 3) := by decide +kernel
theorem dX8_firmAt_19 : decode cX8_firmAt 19 = .ok (.iload_n 2, 1) := by decide +kernel
theorem dX8_firmAt_20 : decode cX8_firmAt 20 = .ok (.iconst 1, 1) := by decide +kernel
theorem dX8_firmAt_21 : decode cX8_firmAt 21 = .ok (.iload_n 3, 1) := by decide +kernel
theorem dX8_firmAt_22 : decode cX8_firmAt 22 = .ok (.ishl, 1) := by decide +kernel
theorem dX8_firmAt_23 : decode cX8_firmAt 23 = .ok (.ior, 1) := by decide +kernel
theorem dX8_firmAt_24 : decode cX8_firmAt 24 = .ok (.goto 4, 3) := by decide +kernel
theorem dX8_firmAt_27 : decode cX8_firmAt 27 = .ok (.iload_n 2, 1) := by decide +kernel
theorem dX8_firmAt_28 : decode cX8_firmAt 28 = .ok (.istore_n 2, 1) := by decide +kernel
theorem dX8_firmAt_29 : decode cX8_firmAt 29 = .ok (.iinc 3 1, 3) := by decide +kernel
theorem dX8_firmAt_32 : decode cX8_firmAt 32 = .ok (.goto (-28), 3) := by decide +kernel
theorem dX8_firmAt_35 : decode cX8_firmAt 35 = .ok (.iload_n 2, 1) := by decide +kernel
theorem dX8_firmAt_36 : decode cX8_firmAt 36 = .ok (.ireturn, 1) := by decide +kernel
theorem dX8_firm_0 : decode cX8_firm 0 = .ok (.aload_n 0, 1) := by decide +kernel
theorem dX8_firm_1 : decode cX8_firm 1 = .ok (.iconst 0, 1) := by decide +kernel
theorem dX8_firm_2 : decode cX8_firm 2 = .ok (.putfield 77, 3) := by decide +kernel
theorem dX8_firm_5 : decode cX8_firm 5 = .ok (.aload_n 0, 1) := by decide +kernel
theorem dX8_firm_6 : decode cX8_firm 6 = .ok (.aload_n 0, 1) := by decide +kernel
theorem dX8_firm_7 : decode cX8_firm 7 = .ok (.getfield 22, 3) := by decide +kernel
theorem dX8_firm_10 : decode cX8_firm 10 = .ok (.invokevirtual 262, 3) := by decide +kernel
theorem dX8_firm_13 : decode cX8_firm 13 = .ok (.ireturn, 1) := by decide +kernel
theorem dX8_fewest_0 : decode cX8_fewest 0 = .ok (.aload_n 0, 1) := by decide +kernel
theorem dX8_fewest_1 : decode cX8_fewest 1 = .ok (.iconst 0, 1) := by decide +kernel
theorem dX8_fewest_2 : decode cX8_fewest 2 = .ok (.putfield 77, 3) := by decide +kernel
theorem dX8_fewest_5 : decode cX8_fewest 5 = .ok (.iload_n 1, 1) := by decide +kernel
theorem dX8_fewest_6 : decode cX8_fewest 6 = .ok (.i2l, 1) := by decide +kernel
theorem dX8_fewest_7 : decode cX8_fewest 7 = .ok (.lconst 0, 1) := by decide +kernel
theorem dX8_fewest_8 : decode cX8_fewest 8 = .ok (.lconst 1, 1) := by decide +kernel
theorem dX8_fewest_9 : decode cX8_fewest 9 = .ok (.invokestatic 97, 3) := by decide +kernel
theorem dX8_fewest_12 : decode cX8_fewest 12 = .ok (.ifCond .ne 6, 3) := by decide +kernel
theorem dX8_fewest_15 : decode cX8_fewest 15 = .ok (.bipush (-2), 2) := by decide +kernel
theorem dX8_fewest_17 : decode cX8_fewest 17 = .ok (.ireturn, 1) := by decide +kernel
theorem dX8_fewest_18 : decode cX8_fewest 18 = .ok (.aload_n 0, 1) := by decide +kernel
theorem dX8_fewest_19 : decode cX8_fewest 19 = .ok (.aload_n 0, 1) := by decide +kernel
theorem dX8_fewest_20 : decode cX8_fewest 20 = .ok (.getfield 22, 3) := by decide +kernel
theorem dX8_fewest_23 : decode cX8_fewest 23 = .ok (.invokevirtual 262, 3) := by decide +kernel
theorem dX8_fewest_26 : decode cX8_fewest 26 = .ok (.istore_n 2, 1) := by decide +kernel
theorem dX8_fewest_27 : decode cX8_fewest 27 = .ok (.iconst 0, 1) := by decide +kernel
theorem dX8_fewest_28 : decode cX8_fewest 28 = .ok (.istore_n 3, 1) := by decide +kernel
theorem dX8_fewest_29 : decode cX8_fewest 29 = .ok (.iload_n 3, 1) := by decide +kernel
theorem dX8_fewest_30 : decode cX8_fewest 30 = .ok (.iconst 5, 1) := by decide +kernel
theorem dX8_fewest_31 : decode cX8_fewest 31 = .ok (.if_icmp .ge 76, 3) := by decide +kernel
theorem dX8_fewest_34 : decode cX8_fewest 34 = .ok (.aload_n 0, 1) := by decide +kernel
theorem dX8_fewest_35 : decode cX8_fewest 35 = .ok (.getfield 238, 3) := by decide +kernel
theorem dX8_fewest_38 : decode cX8_fewest 38 = .ok (.iload_n 3, 1) := by decide +kernel
theorem dX8_fewest_39 : decode cX8_fewest 39 = .ok (.iadd, 1) := by decide +kernel
theorem dX8_fewest_40 : decode cX8_fewest 40 = .ok (.bipush 8, 2) := by decide +kernel
theorem dX8_fewest_42 : decode cX8_fewest 42 = .ok (.irem, 1) := by decide +kernel
theorem dX8_fewest_43 : decode cX8_fewest 43 = .ok (.istore 4, 2) := by decide +kernel
theorem dX8_fewest_45 : decode cX8_fewest 45 = .ok (.aload_n 0, 1) := by decide +kernel
theorem dX8_fewest_46 : decode cX8_fewest 46 = .ok (.getfield 238, 3) := by decide +kernel
theorem dX8_fewest_49 : decode cX8_fewest 49 = .ok (.bipush 8, 2) := by decide +kernel
theorem dX8_fewest_51 : decode cX8_fewest 51 = .ok (.iadd, 1) := by decide +kernel
theorem dX8_fewest_52 : decode cX8_fewest 52 = .ok (.iload_n 3, 1) := by decide +kernel
theorem dX8_fewest_53 : decode cX8_fewest 53 = .ok (.isub, 1) := by decide +kernel
theorem dX8_fewest_54 : decode cX8_fewest 54 = .ok (.bipush 8, 2) := by decide +kernel
theorem dX8_fewest_56 : decode cX8_fewest 56 = .ok (.irem, 1) := by decide +kernel
theorem dX8_fewest_57 : decode cX8_fewest 57 = .ok (.istore 5, 2) := by decide +kernel
theorem dX8_fewest_59 : decode cX8_fewest 59 = .ok (.iload_n 2, 1) := by decide +kernel
theorem dX8_fewest_60 : decode cX8_fewest 60 = .ok (.iload 4, 2) := by decide +kernel
theorem dX8_fewest_62 : decode cX8_fewest 62 = .ok (.ishr, 1) := by decide +kernel
theorem dX8_fewest_63 : decode cX8_fewest 63 = .ok (.iconst 1, 1) := by decide +kernel
theorem dX8_fewest_64 : decode cX8_fewest 64 = .ok (.iand, 1) := by decide +kernel
theorem dX8_fewest_65 : decode cX8_fewest 65 = .ok (.iconst 1, 1) := by decide +kernel
theorem dX8_fewest_66 : decode cX8_fewest 66 = .ok (.if_icmp .ne 14, 3) := by decide +kernel
theorem dX8_fewest_69 : decode cX8_fewest 69 = .ok (.iload_n 1, 1) := by decide +kernel
theorem dX8_fewest_70 : decode cX8_fewest 70 = .ok (.ifCond .ne 7, 3) := by decide +kernel
theorem dX8_fewest_73 : decode cX8_fewest 73 = .ok (.iload_n 3, 1) := by decide +kernel
theorem dX8_fewest_74 : decode cX8_fewest 74 = .ok (.goto 5, 3) := by decide +kernel
theorem dX8_fewest_77 : decode cX8_fewest 77 = .ok (.iload 4, 2) := by decide +kernel
theorem dX8_fewest_79 : decode cX8_fewest 79 = .ok (.ireturn, 1) := by decide +kernel
theorem dX8_fewest_80 : decode cX8_fewest 80 = .ok (.iload_n 2, 1) := by decide +kernel
theorem dX8_fewest_81 : decode cX8_fewest 81 = .ok (.iload 5, 2) := by decide +kernel
theorem dX8_fewest_83 : decode cX8_fewest 83 = .ok (.ishr, 1) := by decide +kernel
theorem dX8_fewest_84 : decode cX8_fewest 84 = .ok (.iconst 1, 1) := by decide +kernel
theorem dX8_fewest_85 : decode cX8_fewest 85 = .ok (.iand, 1) := by decide +kernel
theorem dX8_fewest_86 : decode cX8_fewest 86 = .ok (.iconst 1, 1) := by decide +kernel
theorem dX8_fewest_87 : decode cX8_fewest 87 = .ok (.if_icmp .ne 14, 3) := by decide +kernel
theorem dX8_fewest_90 : decode cX8_fewest 90 = .ok (.iload_n 1, 1) := by decide +kernel
theorem dX8_fewest_91 : decode cX8_fewest 91 = .ok (.ifCond .ne 7, 3) := by decide +kernel
theorem dX8_fewest_94 : decode cX8_fewest 94 = .ok (.iload_n 3, 1) := by decide +kernel
theorem dX8_fewest_95 : decode cX8_fewest 95 = .ok (.goto 5, 3) := by decide +kernel
theorem dX8_fewest_98 : decode cX8_fewest 98 = .ok (.iload 5, 2) := by decide +kernel
theorem dX8_fewest_100 : decode cX8_fewest 100 = .ok (.ireturn, 1) := by decide +kernel
theorem dX8_fewest_101 : decode cX8_fewest 101 = .ok (.iinc 3 1, 3) := by decide +kernel
theorem dX8_fewest_104 : decode cX8_fewest 104 = .ok (.goto (-75), 3) := by decide +kernel
theorem dX8_fewest_107 : decode cX8_fewest 107 = .ok (.iconst (-1), 1) := by decide +kernel
theorem dX8_fewest_108 : decode cX8_fewest 108 = .ok (.ireturn, 1) := by decide +kernel
theorem dX8_knock_0 : decode cX8_knock 0 = .ok (.aload_n 0, 1) := by decide +kernel
theorem dX8_knock_1 : decode cX8_knock 1 = .ok (.iload_n 1, 1) := by decide +kernel
theorem dX8_knock_2 : decode cX8_knock 2 = .ok (.iload_n 2, 1) := by decide +kernel
theorem dX8_knock_3 : decode cX8_knock 3 = .ok (.bipush 8, 2) := by decide +kernel
theorem dX8_knock_5 : decode cX8_knock 5 = .ok (.irem, 1) := by decide +kernel
theorem dX8_knock_6 : decode cX8_knock 6 = .ok (.invokevirtual 241, 3) := by decide +kernel
theorem dX8_knock_9 : decode cX8_knock 9 = .ok (.aload_n 0, 1) := by decide +kernel
theorem dX8_knock_10 : decode cX8_knock 10 = .ok (.getfield 229, 3) := by decide +kernel
theorem dX8_knock_13 : decode cX8_knock 13 = .ok (.ifCond .ne 7, 3) := by decide +kernel
theorem dX8_knock_16 : decode cX8_knock 16 = .ok (.iconst 0, 1) := by decide +kernel
theorem dX8_knock_17 : decode cX8_knock 17 = .ok (.goto 15, 3) := by decide +kernel
theorem dX8_knock_20 : decode cX8_knock 20 = .ok (.aload_n 0, 1) := by decide +kernel
theorem dX8_knock_21 : decode cX8_knock 21 = .ok (.getfield 211, 3) := by decide +kernel
theorem dX8_knock_24 : decode cX8_knock 24 = .ok (.ifCond .le 7, 3) := by decide +kernel
theorem dX8_knock_27 : decode cX8_knock 27 = .ok (.iconst 1, 1) := by decide +kernel
theorem dX8_knock_28 : decode cX8_knock 28 = .ok (.goto 4, 3) := by decide +kernel
theorem dX8_knock_31 : decode cX8_knock 31 = .ok (.iconst 2, 1) := by decide +kernel
theorem dX8_knock_32 : decode cX8_knock 32 = .ok (.ireturn, 1) := by decide +kernel
theorem dX8_feels_0 : decode cX8_feels 0 = .ok (.aload_n 0, 1) := by decide +kernel
theorem dX8_feels_1 : decode cX8_feels 1 = .ok (.iconst 0, 1) := by decide +kernel
theorem dX8_feels_2 : decode cX8_feels 2 = .ok (.putfield 77, 3) := by decide +kernel
theorem dX8_feels_5 : decode cX8_feels 5 = .ok (.iload_n 1, 1) := by decide +kernel
theorem dX8_feels_6 : decode cX8_feels 6 = .ok (.i2l, 1) := by decide +kernel
theorem dX8_feels_7 : decode cX8_feels 7 = .ok (.lconst 0, 1) := by decide +kernel
theorem dX8_feels_8 : decode cX8_feels 8 = .ok (.lconst 1, 1) := by decide +kernel
theorem dX8_feels_9 : decode cX8_feels 9 = .ok (.invokestatic 97, 3) := by decide +kernel
theorem dX8_feels_12 : decode cX8_feels 12 = .ok (.ifCond .ne 6, 3) := by decide +kernel
theorem dX8_feels_15 : decode cX8_feels 15 = .ok (.bipush (-2), 2) := by decide +kernel
theorem dX8_feels_17 : decode cX8_feels 17 = .ok (.ireturn, 1) := by decide +kernel
theorem dX8_feels_18 : decode cX8_feels 18 = .ok (.aload_n 0, 1) := by decide +kernel
theorem dX8_feels_19 : decode cX8_feels 19 = .ok (.aload_n 0, 1) := by decide +kernel
theorem dX8_feels_20 : decode cX8_feels 20 = .ok (.getfield 22, 3) := by decide +kernel
theorem dX8_feels_23 : decode cX8_feels 23 = .ok (.aload_n 0, 1) := by decide +kernel
theorem dX8_feels_24 : decode cX8_feels 24 = .ok (.getfield 238, 3) := by decide +kernel
theorem dX8_feels_27 : decode cX8_feels 27 = .ok (.invokevirtual 265, 3) := by decide +kernel
theorem dX8_feels_30 : decode cX8_feels 30 = .ok (.istore_n 2, 1) := by decide +kernel
theorem dX8_feels_31 : decode cX8_feels 31 = .ok (.iconst 0, 1) := by decide +kernel
theorem dX8_feels_32 : decode cX8_feels 32 = .ok (.istore_n 3, 1) := by decide +kernel
theorem dX8_feels_33 : decode cX8_feels 33 = .ok (.iload_n 2, 1) := by decide +kernel
theorem dX8_feels_34 : decode cX8_feels 34 = .ok (.istore 4, 2) := by decide +kernel
theorem dX8_feels_36 : decode cX8_feels 36 = .ok (.iload 4, 2) := by decide +kernel
theorem dX8_feels_38 : decode cX8_feels 38 = .ok (.ifCond .eq 37, 3) := by decide +kernel
theorem dX8_feels_41 : decode cX8_feels 41 = .ok (.iload 4, 2) := by decide +kernel
theorem dX8_feels_43 : decode cX8_feels 43 = .ok (.iload_n 2, 1) := by decide +kernel
theorem dX8_feels_44 : decode cX8_feels 44 = .ok (.if_icmp .ne 31, 3) := by decide +kernel
theorem dX8_feels_47 : decode cX8_feels 47 = .ok (.iload_n 3, 1) := by decide +kernel
theorem dX8_feels_48 : decode cX8_feels 48 = .ok (.bipush 8, 2) := by decide +kernel
theorem dX8_feels_50 : decode cX8_feels 50 = .ok (.if_icmp .ge 25, 3) := by decide +kernel
theorem dX8_feels_53 : decode cX8_feels 53 = .ok (.iinc 3 1, 3) := by decide +kernel
theorem dX8_feels_56 : decode cX8_feels 56 = .ok (.aload_n 0, 1) := by decide +kernel
theorem dX8_feels_57 : decode cX8_feels 57 = .ok (.aload_n 0, 1) := by decide +kernel
theorem dX8_feels_58 : decode cX8_feels 58 = .ok (.getfield 22, 3) := by decide +kernel
theorem dX8_feels_61 : decode cX8_feels 61 = .ok (.aload_n 0, 1) := by decide +kernel
theorem dX8_feels_62 : decode cX8_feels 62 = .ok (.getfield 238, 3) := by decide +kernel
theorem dX8_feels_65 : decode cX8_feels 65 = .ok (.iload_n 3, 1) := by decide +kernel
theorem dX8_feels_66 : decode cX8_feels 66 = .ok (.iadd, 1) := by decide +kernel
theorem dX8_feels_67 : decode cX8_feels 67 = .ok (.invokevirtual 265, 3) := by decide +kernel
theorem dX8_feels_70 : decode cX8_feels 70 = .ok (.istore 4, 2) := by decide +kernel
theorem dX8_feels_72 : decode cX8_feels 72 = .ok (.goto (-36), 3) := by decide +kernel
theorem dX8_feels_75 : decode cX8_feels 75 = .ok (.iload_n 1, 1) := by decide +kernel
theorem dX8_feels_76 : decode cX8_feels 76 = .ok (.ifCond .ne 7, 3) := by decide +kernel
theorem dX8_feels_79 : decode cX8_feels 79 = .ok (.iload_n 3, 1) := by decide +kernel
theorem dX8_feels_80 : decode cX8_feels 80 = .ok (.goto 13, 3) := by decide +kernel
theorem dX8_feels_83 : decode cX8_feels 83 = .ok (.iload 4, 2) := by decide +kernel
theorem dX8_feels_85 : decode cX8_feels 85 = .ok (.ifCond .ne 7, 3) := by decide +kernel
theorem dX8_feels_88 : decode cX8_feels 88 = .ok (.iconst 1, 1) := by decide +kernel
theorem dX8_feels_89 : decode cX8_feels 89 = .ok (.goto 4, 3) := by decide +kernel
theorem dX8_feels_92 : decode cX8_feels 92 = .ok (.iconst 0, 1) := by decide +kernel
theorem dX8_feels_93 : decode cX8_feels 93 = .ok (.ireturn, 1) := by decide +kernel
theorem dX8_best_0 : decode cX8_best 0 = .ok (.aload_n 0, 1) := by decide +kernel
theorem dX8_best_1 : decode cX8_best 1 = .ok (.iconst 0, 1) := by decide +kernel
theorem dX8_best_2 : decode cX8_best 2 = .ok (.putfield 77, 3) := by decide +kernel
theorem dX8_best_5 : decode cX8_best 5 = .ok (.iload_n 1, 1) := by decide +kernel
theorem dX8_best_6 : decode cX8_best 6 = .ok (.i2l, 1) := by decide +kernel
theorem dX8_best_7 : decode cX8_best 7 = .ok (.lconst 0, 1) := by decide +kernel
theorem dX8_best_8 : decode cX8_best 8 = .ok (.ldc2_w 268, 3) := by decide +kernel
theorem dX8_best_11 : decode cX8_best 11 = .ok (.invokestatic 97, 3) := by decide +kernel
theorem dX8_best_14 : decode cX8_best 14 = .ok (.ifCond .ne 6, 3) := by decide +kernel
theorem dX8_best_17 : decode cX8_best 17 = .ok (.ldc 247, 2) := by decide +kernel
theorem dX8_best_19 : decode cX8_best 19 = .ok (.ireturn, 1) := by decide +kernel
theorem dX8_best_20 : decode cX8_best 20 = .ok (.iconst 0, 1) := by decide +kernel
theorem dX8_best_21 : decode cX8_best 21 = .ok (.istore_n 2, 1) := by decide +kernel
theorem dX8_best_22 : decode cX8_best 22 = .ok (.sipush (-1000), 3) := by decide +kernel
theorem dX8_best_25 : decode cX8_best 25 = .ok (.istore_n 3, 1) := by decide +kernel
theorem dX8_best_26 : decode cX8_best 26 = .ok (.iconst 0, 1) := by decide +kernel
theorem dX8_best_27 : decode cX8_best 27 = .ok (.istore 4, 2) := by decide +kernel
theorem dX8_best_29 : decode cX8_best 29 = .ok (.iload 4, 2) := by decide +kernel
theorem dX8_best_31 : decode cX8_best 31 = .ok (.sipush 512, 3) := by decide +kernel
theorem dX8_best_34 : decode cX8_best 34 = .ok (.if_icmp .ge 56, 3) := by decide +kernel
theorem dX8_best_37 : decode cX8_best 37 = .ok (.aload_n 0, 1) := by decide +kernel
theorem dX8_best_38 : decode cX8_best 38 = .ok (.iload 4, 2) := by decide +kernel
theorem dX8_best_40 : decode cX8_best 40 = .ok (.bipush 8, 2) := by decide +kernel
theorem dX8_best_42 : decode cX8_best 42 = .ok (.idiv, 1) := by decide +kernel
theorem dX8_best_43 : decode cX8_best 43 = .ok (.iload 4, 2) := by decide +kernel
theorem dX8_best_45 : decode cX8_best 45 = .ok (.bipush 8, 2) := by decide +kernel
theorem dX8_best_47 : decode cX8_best 47 = .ok (.irem, 1) := by decide +kernel
theorem dX8_best_48 : decode cX8_best 48 = .ok (.invokevirtual 241, 3) := by decide +kernel
theorem dX8_best_51 : decode cX8_best 51 = .ok (.aload_n 0, 1) := by decide +kernel
theorem dX8_best_52 : decode cX8_best 52 = .ok (.iconst 4, 1) := by decide +kernel
theorem dX8_best_53 : decode cX8_best 53 = .ok (.invokevirtual 251, 3) := by decide +kernel
theorem dX8_best_56 : decode cX8_best 56 = .ok (.istore 5, 2) := by decide +kernel
theorem dX8_best_58 : decode cX8_best 58 = .ok (.iload 5, 2) := by decide +kernel
theorem dX8_best_60 : decode cX8_best 60 = .ok (.iload_n 3, 1) := by decide +kernel
theorem dX8_best_61 : decode cX8_best 61 = .ok (.if_icmp .le 8, 3) := by decide +kernel
theorem dX8_best_64 : decode cX8_best 64 = .ok (.iload 4, 2) := by decide +kernel
theorem dX8_best_66 : decode cX8_best 66 = .ok (.goto 4, 3) := by decide +kernel
theorem dX8_best_69 : decode cX8_best 69 = .ok (.iload_n 2, 1) := by decide +kernel
theorem dX8_best_70 : decode cX8_best 70 = .ok (.istore_n 2, 1) := by decide +kernel
theorem dX8_best_71 : decode cX8_best 71 = .ok (.iload 5, 2) := by decide +kernel
theorem dX8_best_73 : decode cX8_best 73 = .ok (.iload_n 3, 1) := by decide +kernel
theorem dX8_best_74 : decode cX8_best 74 = .ok (.if_icmp .le 8, 3) := by decide +kernel
theorem dX8_best_77 : decode cX8_best 77 = .ok (.iload 5, 2) := by decide +kernel
theorem dX8_best_79 : decode cX8_best 79 = .ok (.goto 4, 3) := by decide +kernel
theorem dX8_best_82 : decode cX8_best 82 = .ok (.iload_n 3, 1) := by decide +kernel
theorem dX8_best_83 : decode cX8_best 83 = .ok (.istore_n 3, 1) := by decide +kernel
theorem dX8_best_84 : decode cX8_best 84 = .ok (.iinc 4 1, 3) := by decide +kernel
theorem dX8_best_87 : decode cX8_best 87 = .ok (.goto (-58), 3) := by decide +kernel
theorem dX8_best_90 : decode cX8_best 90 = .ok (.iload_n 1, 1) := by decide +kernel
theorem dX8_best_91 : decode cX8_best 91 = .ok (.ifCond .ne 10, 3) := by decide +kernel
theorem dX8_best_94 : decode cX8_best 94 = .ok (.iload_n 2, 1) := by decide +kernel
theorem dX8_best_95 : decode cX8_best 95 = .ok (.bipush 8, 2) := by decide +kernel
theorem dX8_best_97 : decode cX8_best 97 = .ok (.idiv, 1) := by decide +kernel
theorem dX8_best_98 : decode cX8_best 98 = .ok (.goto 16, 3) := by decide +kernel
theorem dX8_best_101 : decode cX8_best 101 = .ok (.iload_n 1, 1) := by decide +kernel
theorem dX8_best_102 : decode cX8_best 102 = .ok (.iconst 1, 1) := by decide +kernel
theorem dX8_best_103 : decode cX8_best 103 = .ok (.if_icmp .ne 10, 3) := by decide +kernel
theorem dX8_best_106 : decode cX8_best 106 = .ok (.iload_n 2, 1) := by decide +kernel
theorem dX8_best_107 : decode cX8_best 107 = .ok (.bipush 8, 2) := by decide +kernel
theorem dX8_best_109 : decode cX8_best 109 = .ok (.irem, 1) := by decide +kernel
theorem dX8_best_110 : decode cX8_best 110 = .ok (.goto 4, 3) := by decide +kernel
theorem dX8_best_113 : decode cX8_best 113 = .ok (.iload_n 3, 1) := by decide +kernel
theorem dX8_best_114 : decode cX8_best 114 = .ok (.ireturn, 1) := by decide +kernel
theorem dX8_turn_0 : decode cX8_turn 0 = .ok (.aload_n 0, 1) := by decide +kernel
theorem dX8_turn_1 : decode cX8_turn 1 = .ok (.iconst 0, 1) := by decide +kernel
theorem dX8_turn_2 : decode cX8_turn 2 = .ok (.putfield 77, 3) := by decide +kernel
theorem dX8_turn_5 : decode cX8_turn 5 = .ok (.iload_n 1, 1) := by decide +kernel
theorem dX8_turn_6 : decode cX8_turn 6 = .ok (.i2l, 1) := by decide +kernel
theorem dX8_turn_7 : decode cX8_turn 7 = .ok (.ldc2_w 270, 3) := by decide +kernel
theorem dX8_turn_10 : decode cX8_turn 10 = .ok (.ldc2_w 256, 3) := by decide +kernel
theorem dX8_turn_13 : decode cX8_turn 13 = .ok (.invokestatic 97, 3) := by decide +kernel
theorem dX8_turn_16 : decode cX8_turn 16 = .ok (.ifCond .ne 6, 3) := by decide +kernel
theorem dX8_turn_19 : decode cX8_turn 19 = .ok (.bipush (-2), 2) := by decide +kernel
theorem dX8_turn_21 : decode cX8_turn 21 = .ok (.ireturn, 1) := by decide +kernel
theorem dX8_turn_22 : decode cX8_turn 22 = .ok (.aload_n 0, 1) := by decide +kernel
theorem dX8_turn_23 : decode cX8_turn 23 = .ok (.aload_n 0, 1) := by decide +kernel
theorem dX8_turn_24 : decode cX8_turn 24 = .ok (.getfield 238, 3) := by decide +kernel
theorem dX8_turn_27 : decode cX8_turn 27 = .ok (.iload_n 1, 1) := by decide +kernel
theorem dX8_turn_28 : decode cX8_turn 28 = .ok (.iadd, 1) := by decide +kernel
theorem dX8_turn_29 : decode cX8_turn 29 = .ok (.bipush 8, 2) := by decide +kernel
theorem dX8_turn_31 : decode cX8_turn 31 = .ok (.iadd, 1) := by decide +kernel
theorem dX8_turn_32 : decode cX8_turn 32 = .ok (.bipush 8, 2) := by decide +kernel
theorem dX8_turn_34 : decode cX8_turn 34 = .ok (.irem, 1) := by decide +kernel
theorem dX8_turn_35 : decode cX8_turn 35 = .ok (.putfield 238, 3) := by decide +kernel
theorem dX8_turn_38 : decode cX8_turn 38 = .ok (.aload_n 0, 1) := by decide +kernel
theorem dX8_turn_39 : decode cX8_turn 39 = .ok (.invokevirtual 248, 3) := by decide +kernel
theorem dX8_turn_42 : decode cX8_turn 42 = .ok (.aload_n 0, 1) := by decide +kernel
theorem dX8_turn_43 : decode cX8_turn 43 = .ok (.getfield 229, 3) := by decide +kernel
theorem dX8_turn_46 : decode cX8_turn 46 = .ok (.ireturn, 1) := by decide +kernel
theorem dX8_wedge_0 : decode cX8_wedge 0 = .ok (.aload_n 0, 1) := by decide +kernel
theorem dX8_wedge_1 : decode cX8_wedge 1 = .ok (.iconst 0, 1) := by decide +kernel
theorem dX8_wedge_2 : decode cX8_wedge 2 = .ok (.putfield 77, 3) := by decide +kernel
theorem dX8_wedge_5 : decode cX8_wedge 5 = .ok (.aload_n 0, 1) := by decide +kernel
theorem dX8_wedge_6 : decode cX8_wedge 6 = .ok (.invokevirtual 248, 3) := by decide +kernel
theorem dX8_wedge_9 : decode cX8_wedge 9 = .ok (.aload_n 0, 1) := by decide +kernel
theorem dX8_wedge_10 : decode cX8_wedge 10 = .ok (.getfield 229, 3) := by decide +kernel
theorem dX8_wedge_13 : decode cX8_wedge 13 = .ok (.ifCond .ne 6, 3) := by decide +kernel
theorem dX8_wedge_16 : decode cX8_wedge 16 = .ok (.bipush (-3), 2) := by decide +kernel
theorem dX8_wedge_18 : decode cX8_wedge 18 = .ok (.ireturn, 1) := by decide +kernel
theorem dX8_wedge_19 : decode cX8_wedge 19 = .ok (.aload_n 0, 1) := by decide +kernel
theorem dX8_wedge_20 : decode cX8_wedge 20 = .ok (.aload_n 0, 1) := by decide +kernel
theorem dX8_wedge_21 : decode cX8_wedge 21 = .ok (.getfield 220, 3) := by decide +kernel
theorem dX8_wedge_24 : decode cX8_wedge 24 = .ok (.aload_n 0, 1) := by decide +kernel
theorem dX8_wedge_25 : decode cX8_wedge 25 = .ok (.getfield 22, 3) := by decide +kernel
theorem dX8_wedge_28 : decode cX8_wedge 28 = .ok (.aload_n 0, 1) := by decide +kernel
theorem dX8_wedge_29 : decode cX8_wedge 29 = .ok (.getfield 238, 3) := by decide +kernel
theorem dX8_wedge_32 : decode cX8_wedge 32 = .ok (.invokevirtual 201, 3) := by decide +kernel
theorem dX8_wedge_35 : decode cX8_wedge 35 = .ok (.istore_n 1, 1) := by decide +kernel
theorem dX8_wedge_36 : decode cX8_wedge 36 = .ok (.aload_n 0, 1) := by decide +kernel
theorem dX8_wedge_37 : decode cX8_wedge 37 = .ok (.getfield 7, 3) := by decide +kernel
theorem dX8_wedge_40 : decode cX8_wedge 40 = .ok (.iload_n 1, 1) := by decide +kernel
theorem dX8_wedge_41 : decode cX8_wedge 41 = .ok (.aload_n 0, 1) := by decide +kernel
theorem dX8_wedge_42 : decode cX8_wedge 42 = .ok (.getfield 7, 3) := by decide +kernel
theorem dX8_wedge_45 : decode cX8_wedge 45 = .ok (.iload_n 1, 1) := by decide +kernel
theorem dX8_wedge_46 : decode cX8_wedge 46 = .ok (.iaload, 1) := by decide +kernel
theorem dX8_wedge_47 : decode cX8_wedge 47 = .ok (.aload_n 0, 1) := by decide +kernel
theorem dX8_wedge_48 : decode cX8_wedge 48 = .ok (.getfield 229, 3) := by decide +kernel
theorem dX8_wedge_51 : decode cX8_wedge 51 = .ok (.iadd, 1) := by decide +kernel
theorem dX8_wedge_52 : decode cX8_wedge 52 = .ok (.iconst 0, 1) := by decide +kernel
theorem dX8_wedge_53 : decode cX8_wedge 53 = .ok (.bipush 99, 2) := by decide +kernel
theorem dX8_wedge_55 : decode cX8_wedge 55 = .ok (.invokestatic 198, 3) := by decide +kernel
theorem dX8_wedge_58 : decode cX8_wedge 58 = .ok (.iastore, 1) := by decide +kernel
theorem dX8_wedge_59 : decode cX8_wedge 59 = .ok (.aload_n 0, 1) := by decide +kernel
theorem dX8_wedge_60 : decode cX8_wedge 60 = .ok (.getfield 229, 3) := by decide +kernel
theorem dX8_wedge_63 : decode cX8_wedge 63 = .ok (.ireturn, 1) := by decide +kernel
theorem dX8_saw_0 : decode cX8_saw 0 = .ok (.aload_n 0, 1) := by decide +kernel
theorem dX8_saw_1 : decode cX8_saw 1 = .ok (.iconst 0, 1) := by decide +kernel
theorem dX8_saw_2 : decode cX8_saw 2 = .ok (.putfield 77, 3) := by decide +kernel
theorem dX8_saw_5 : decode cX8_saw 5 = .ok (.aload_n 0, 1) := by decide +kernel
theorem dX8_saw_6 : decode cX8_saw 6 = .ok (.invokevirtual 248, 3) := by decide +kernel
theorem dX8_saw_9 : decode cX8_saw 9 = .ok (.aload_n 0, 1) := by decide +kernel
theorem dX8_saw_10 : decode cX8_saw 10 = .ok (.getfield 229, 3) := by decide +kernel
theorem dX8_saw_13 : decode cX8_saw 13 = .ok (.ifCond .ne 6, 3) := by decide +kernel
theorem dX8_saw_16 : decode cX8_saw 16 = .ok (.bipush (-3), 2) := by decide +kernel
theorem dX8_saw_18 : decode cX8_saw 18 = .ok (.ireturn, 1) := by decide +kernel
theorem dX8_saw_19 : decode cX8_saw 19 = .ok (.aload_n 0, 1) := by decide +kernel
theorem dX8_saw_20 : decode cX8_saw 20 = .ok (.getfield 229, 3) := by decide +kernel
theorem dX8_saw_23 : decode cX8_saw 23 = .ok (.iconst 2, 1) := by decide +kernel
theorem dX8_saw_24 : decode cX8_saw 24 = .ok (.idiv, 1) := by decide +kernel
theorem dX8_saw_25 : decode cX8_saw 25 = .ok (.istore_n 1, 1) := by decide +kernel
theorem dX8_saw_26 : decode cX8_saw 26 = .ok (.aload_n 0, 1) := by decide +kernel
theorem dX8_saw_27 : decode cX8_saw 27 = .ok (.getfield 16, 3) := by decide +kernel
theorem dX8_saw_30 : decode cX8_saw 30 = .ok (.aload_n 0, 1) := by decide +kernel
theorem dX8_saw_31 : decode cX8_saw 31 = .ok (.getfield 217, 3) := by decide +kernel
theorem dX8_saw_34 : decode cX8_saw 34 = .ok (.aload_n 0, 1) := by decide +kernel
theorem dX8_saw_35 : decode cX8_saw 35 = .ok (.getfield 16, 3) := by decide +kernel
theorem dX8_saw_38 : decode cX8_saw 38 = .ok (.aload_n 0, 1) := by decide +kernel
theorem dX8_saw_39 : decode cX8_saw 39 = .ok (.getfield 217, 3) := by decide +kernel
theorem dX8_saw_42 : decode cX8_saw 42 = .ok (.iaload, 1) := by decide +kernel
theorem dX8_saw_43 : decode cX8_saw 43 = .ok (.iload_n 1, 1) := by decide +kernel
theorem dX8_saw_44 : decode cX8_saw 44 = .ok (.isub, 1) := by decide +kernel
theorem dX8_saw_45 : decode cX8_saw 45 = .ok (.iconst 0, 1) := by decide +kernel
theorem dX8_saw_46 : decode cX8_saw 46 = .ok (.bipush 99, 2) := by decide +kernel
theorem dX8_saw_48 : decode cX8_saw 48 = .ok (.invokestatic 198, 3) := by decide +kernel
theorem dX8_saw_51 : decode cX8_saw 51 = .ok (.iastore, 1) := by decide +kernel
theorem dX8_saw_52 : decode cX8_saw 52 = .ok (.aload_n 0, 1) := by decide +kernel
theorem dX8_saw_53 : decode cX8_saw 53 = .ok (.getfield 16, 3) := by decide +kernel
theorem dX8_saw_56 : decode cX8_saw 56 = .ok (.aload_n 0, 1) := by decide +kernel
theorem dX8_saw_57 : decode cX8_saw 57 = .ok (.getfield 217, 3) := by decide +kernel
theorem dX8_saw_60 : decode cX8_saw 60 = .ok (.iconst 2, 1) := by decide +kernel
theorem dX8_saw_61 : decode cX8_saw 61 = .ok (.iadd, 1) := by decide +kernel
theorem dX8_saw_62 : decode cX8_saw 62 = .ok (.aload_n 0, 1) := by decide +kernel
theorem dX8_saw_63 : decode cX8_saw 63 = .ok (.getfield 16, 3) := by decide +kernel
theorem dX8_saw_66 : decode cX8_saw 66 = .ok (.aload_n 0, 1) := by decide +kernel
theorem dX8_saw_67 : decode cX8_saw 67 = .ok (.getfield 217, 3) := by decide +kernel
theorem dX8_saw_70 : decode cX8_saw 70 = .ok (.iconst 2, 1) := by decide +kernel
theorem dX8_saw_71 : decode cX8_saw 71 = .ok (.iadd, 1) := by decide +kernel
theorem dX8_saw_72 : decode cX8_saw 72 = .ok (.iaload, 1) := by decide +kernel
theorem dX8_saw_73 : decode cX8_saw 73 = .ok (.aload_n 0, 1) := by decide +kernel
theorem dX8_saw_74 : decode cX8_saw 74 = .ok (.getfield 229, 3) := by decide +kernel
theorem dX8_saw_77 : decode cX8_saw 77 = .ok (.isub, 1) := by decide +kernel
theorem dX8_saw_78 : decode cX8_saw 78 = .ok (.iload_n 1, 1) := by decide +kernel
theorem dX8_saw_79 : decode cX8_saw 79 = .ok (.iadd, 1) := by decide +kernel
theorem dX8_saw_80 : decode cX8_saw 80 = .ok (.iconst 0, 1) := by decide +kernel
theorem dX8_saw_81 : decode cX8_saw 81 = .ok (.bipush 99, 2) := by decide +kernel
theorem dX8_saw_83 : decode cX8_saw 83 = .ok (.invokestatic 198, 3) := by decide +kernel
theorem dX8_saw_86 : decode cX8_saw 86 = .ok (.iastore, 1) := by decide +kernel
theorem dX8_saw_87 : decode cX8_saw 87 = .ok (.aload_n 0, 1) := by decide +kernel
theorem dX8_saw_88 : decode cX8_saw 88 = .ok (.invokevirtual 248, 3) := by decide +kernel
theorem dX8_saw_91 : decode cX8_saw 91 = .ok (.aload_n 0, 1) := by decide +kernel
theorem dX8_saw_92 : decode cX8_saw 92 = .ok (.getfield 229, 3) := by decide +kernel
theorem dX8_saw_95 : decode cX8_saw 95 = .ok (.ireturn, 1) := by decide +kernel
theorem dX8_screwBy_0 : decode cX8_screwBy 0 = .ok (.iconst 0, 1) := by decide +kernel
theorem dX8_screwBy_1 : decode cX8_screwBy 1 = .ok (.istore_n 2, 1) := by decide +kernel
theorem dX8_screwBy_2 : decode cX8_screwBy 2 = .ok (.iload_n 1, 1) := by decide +kernel
theorem dX8_screwBy_3 : decode cX8_screwBy 3 = .ok (.istore_n 3, 1) := by decide +kernel
theorem dX8_screwBy_4 : decode cX8_screwBy 4 = .ok (.iconst 0, 1) := by decide +kernel
theorem dX8_screwBy_5 : decode cX8_screwBy 5 = .ok (.istore 4, 2) := by decide +kernel
theorem dX8_screwBy_7 : decode cX8_screwBy 7 = .ok (.iload 4, 2) := by decide +kernel
theorem dX8_screwBy_9 : decode cX8_screwBy 9 = .ok (.iconst 4, 1) := by decide +kernel
theorem dX8_screwBy_10 : decode cX8_screwBy 10 = .ok (.if_icmp .ge 147, 3) := by decide +kernel
theorem dX8_screwBy_13 : decode cX8_screwBy 13 = .ok (.iload_n 3, 1) := by decide +kernel
theorem dX8_screwBy_14 : decode cX8_screwBy 14 = .ok (.bipush 7, 2) := by decide +kernel
theorem dX8_screwBy_16 : decode cX8_screwBy 16 = .ok (.irem, 1) := by decide +kernel
theorem dX8_screwBy_17 : decode cX8_screwBy 17 = .ok (.iconst 3, 1) := by decide +kernel
theorem dX8_screwBy_18 : decode cX8_screwBy 18 = .ok (.isub, 1) := by decide +kernel
theorem dX8_screwBy_19 : decode cX8_screwBy 19 = .ok (.istore 5, 2) := by decide +kernel
theorem dX8_screwBy_21 : decode cX8_screwBy 21 = .ok (.iload_n 3, 1) := by decide +kernel
theorem dX8_screwBy_22 : decode cX8_screwBy 22 = .ok (.bipush 7, 2) := by decide +kernel
theorem dX8_screwBy_24 : decode cX8_screwBy 24 = .ok (.idiv, 1) := by decide +kernel
theorem dX8_screwBy_25 : decode cX8_screwBy 25 = .ok (.istore_n 3, 1) := by decide +kernel
theorem dX8_screwBy_26 : decode cX8_screwBy 26 = .ok (.aload_n 0, 1) := by decide +kernel
theorem dX8_screwBy_27 : decode cX8_screwBy 27 = .ok (.getfield 13, 3) := by decide +kernel
theorem dX8_screwBy_30 : decode cX8_screwBy 30 = .ok (.iload 4, 2) := by decide +kernel
theorem dX8_screwBy_32 : decode cX8_screwBy 32 = .ok (.iaload, 1) := by decide +kernel
theorem dX8_screwBy_33 : decode cX8_screwBy 33 = .ok (.iconst 2, 1) := by decide +kernel
theorem dX8_screwBy_34 : decode cX8_screwBy 34 = .ok (.if_icmp .eq 14, 3) := by decide +kernel
theorem dX8_screwBy_37 : decode cX8_screwBy 37 = .ok (.aload_n 0, 1) := by decide +kernel
theorem dX8_screwBy_38 : decode cX8_screwBy 38 = .ok (.getfield 13, 3) := by decide +kernel
theorem dX8_screwBy_41 : decode cX8_screwBy 41 = .ok (.iload 4, 2) := by decide +kernel
theorem dX8_screwBy_43 : decode cX8_screwBy 43 = .ok (.iaload, 1) := by decide +kernel
theorem dX8_screwBy_44 : decode cX8_screwBy 44 = .ok (.iconst 4, 1) := by decide +kernel
theorem dX8_screwBy_45 : decode cX8_screwBy 45 = .ok (.if_icmp .ne 7, 3) := by decide +kernel
theorem dX8_screwBy_48 : decode cX8_screwBy 48 = .ok (.iconst 1, 1) := by decide +kernel
theorem dX8_screwBy_49 : decode cX8_screwBy 49 = .ok (.goto 4, 3) := by decide +kernel
theorem dX8_screwBy_52 : decode cX8_screwBy 52 = .ok (.iconst 0, 1) := by decide +kernel
theorem dX8_screwBy_53 : decode cX8_screwBy 53 = .ok (.istore 6, 2) := by decide +kernel
theorem dX8_screwBy_55 : decode cX8_screwBy 55 = .ok (.iload 5, 2) := by decide +kernel
theorem dX8_screwBy_57 : decode cX8_screwBy 57 = .ok (.ifCond .eq 29, 3) := by decide +kernel
theorem dX8_screwBy_60 : decode cX8_screwBy 60 = .ok (.iload 6, 2) := by decide +kernel
theorem dX8_screwBy_62 : decode cX8_screwBy 62 = .ok (.ifCond .eq 28, 3) := by decide +kernel
theorem dX8_screwBy_65 : decode cX8_screwBy 65 = .ok (.aload_n 0, 1) := by decide +kernel
theorem dX8_screwBy_66 : decode cX8_screwBy 66 = .ok (.getfield 59, 3) := by decide +kernel
theorem dX8_screwBy_69 : decode cX8_screwBy 69 = .ok (.iload 4, 2) := by decide +kernel
theorem dX8_screwBy_71 : decode cX8_screwBy 71 = .ok (.iaload, 1) := by decide +kernel
theorem dX8_screwBy_72 : decode cX8_screwBy 72 = .ok (.iload 5, 2) := by decide +kernel
theorem dX8_screwBy_74 : decode cX8_screwBy 74 = .ok (.iadd, 1) := by decide +kernel
theorem dX8_screwBy_75 : decode cX8_screwBy 75 = .ok (.i2l, 1) := by decide +kernel
theorem dX8_screwBy_76 : decode cX8_screwBy 76 = .ok (.lconst 0, 1) := by decide +kernel
theorem dX8_screwBy_77 : decode cX8_screwBy 77 = .ok (.ldc2_w 272, 3) := by decide +kernel
theorem dX8_screwBy_80 : decode cX8_screwBy 80 = .ok (.invokestatic 97, 3) := by decide +kernel
theorem dX8_screwBy_83 : decode cX8_screwBy 83 = .ok (.ifCond .eq 7, 3) := by decide +kernel
theorem dX8_screwBy_86 : decode cX8_screwBy 86 = .ok (.iconst 1, 1) := by decide +kernel
theorem dX8_screwBy_87 : decode cX8_screwBy 87 = .ok (.goto 4, 3) := by decide +kernel
theorem dX8_screwBy_90 : decode cX8_screwBy 90 = .ok (.iconst 0, 1) := by decide +kernel
theorem dX8_screwBy_91 : decode cX8_screwBy 91 = .ok (.istore 7, 2) := by decide +kernel
theorem dX8_screwBy_93 : decode cX8_screwBy 93 = .ok (.iload_n 2, 1) := by decide +kernel
theorem dX8_screwBy_94 : decode cX8_screwBy 94 = .ok (.iload 7, 2) := by decide +kernel
theorem dX8_screwBy_96 : decode cX8_screwBy 96 = .ok (.ifCond .ne 8, 3) := by decide +kernel
theorem dX8_screwBy_99 : decode cX8_screwBy 99 = .ok (.bipush 9, 2) := by decide +kernel
theorem dX8_screwBy_101 : decode cX8_screwBy 101 = .ok (.goto 16, 3) := by decide +kernel
theorem dX8_screwBy_104 : decode cX8_screwBy 104 = .ok (.iload 5, 2) := by decide +kernel
theorem dX8_screwBy_106 : decode cX8_screwBy 106 = .ok (.ifCond .ge 9, 3) := by decide +kernel
theorem dX8_screwBy_109 : decode cX8_screwBy 109 = .ok (.iload 5, 2) := by decide +kernel
theorem dX8_screwBy_111 : decode cX8_screwBy 111 = .ok (.ineg, 1) := by decide +kernel
theorem dX8_screwBy_112 : decode cX8_screwBy 112 = .ok (.goto 5, 3) := by decide +kernel
theorem dX8_screwBy_115 : decode cX8_screwBy 115 = .ok (.iload 5, 2) := by decide +kernel
theorem dX8_screwBy_117 : decode cX8_screwBy 117 = .ok (.iadd, 1) := by decide +kernel
theorem dX8_screwBy_118 : decode cX8_screwBy 118 = .ok (.istore_n 2, 1) := by decide +kernel
theorem dX8_screwBy_119 : decode cX8_screwBy 119 = .ok (.aload_n 0, 1) := by decide +kernel
theorem dX8_screwBy_120 : decode cX8_screwBy 120 = .ok (.getfield 19, 3) := by decide +kernel
theorem dX8_screwBy_123 : decode cX8_screwBy 123 = .ok (.iload 4, 2) := by decide +kernel
theorem dX8_screwBy_125 : decode cX8_screwBy 125 = .ok (.iload 7, 2) := by decide +kernel
theorem dX8_screwBy_127 : decode cX8_screwBy 127 = .ok (.ifCond .eq 16, 3) := by decide +kernel
theorem dX8_screwBy_130 : decode cX8_screwBy 130 = .ok (.aload_n 0, 1) := by decide +kernel
theorem dX8_screwBy_131 : decode cX8_screwBy 131 = .ok (.getfield 59, 3) := by decide +kernel
theorem dX8_screwBy_134 : decode cX8_screwBy 134 = .ok (.iload 4, 2) := by decide +kernel
theorem dX8_screwBy_136 : decode cX8_screwBy 136 = .ok (.iaload, 1) := by decide +kernel
theorem dX8_screwBy_137 : decode cX8_screwBy 137 = .ok (.iload 5, 2) := by decide +kernel
theorem dX8_screwBy_139 : decode cX8_screwBy 139 = .ok (.iadd, 1) := by decide +kernel
theorem dX8_screwBy_140 : decode cX8_screwBy 140 = .ok (.goto 10, 3) := by decide +kernel
theorem dX8_screwBy_143 : decode cX8_screwBy 143 = .ok (.aload_n 0, 1) := by decide +kernel
theorem dX8_screwBy_144 : decode cX8_screwBy 144 = .ok (.getfield 59, 3) := by decide +kernel
theorem dX8_screwBy_147 : decode cX8_screwBy 147 = .ok (.iload 4, 2) := by decide +kernel
theorem dX8_screwBy_149 : decode cX8_screwBy 149 = .ok (.iaload, 1) := by decide +kernel
theorem dX8_screwBy_150 : decode cX8_screwBy 150 = .ok (.iastore, 1) := by decide +kernel
theorem dX8_screwBy_151 : decode cX8_screwBy 151 = .ok (.iinc 4 1, 3) := by decide +kernel
theorem dX8_screwBy_154 : decode cX8_screwBy 154 = .ok (.goto (-147), 3) := by decide +kernel
theorem dX8_screwBy_157 : decode cX8_screwBy 157 = .ok (.iload_n 2, 1) := by decide +kernel
theorem dX8_screwBy_158 : decode cX8_screwBy 158 = .ok (.iconst 4, 1) := by decide +kernel
theorem dX8_screwBy_159 : decode cX8_screwBy 159 = .ok (.if_icmp .le 8, 3) := by decide +kernel
theorem dX8_screwBy_162 : decode cX8_screwBy 162 = .ok (.bipush 9, 2) := by decide +kernel
theorem dX8_screwBy_164 : decode cX8_screwBy 164 = .ok (.goto 4, 3) := by decide +kernel
theorem dX8_screwBy_167 : decode cX8_screwBy 167 = .ok (.iload_n 2, 1) := by decide +kernel
theorem dX8_screwBy_168 : decode cX8_screwBy 168 = .ok (.ireturn, 1) := by decide +kernel
theorem dX8_screwed_0 : decode cX8_screwed 0 = .ok (.aload_n 0, 1) := by decide +kernel
theorem dX8_screwed_1 : decode cX8_screwed 1 = .ok (.iconst 0, 1) := by decide +kernel
theorem dX8_screwed_2 : decode cX8_screwed 2 = .ok (.putfield 77, 3) := by decide +kernel
theorem dX8_screwed_5 : decode cX8_screwed 5 = .ok (.iconst 0, 1) := by decide +kernel
theorem dX8_screwed_6 : decode cX8_screwed 6 = .ok (.istore_n 1, 1) := by decide +kernel
theorem dX8_screwed_7 : decode cX8_screwed 7 = .ok (.iload_n 1, 1) := by decide +kernel
theorem dX8_screwed_8 : decode cX8_screwed 8 = .ok (.iconst 4, 1) := by decide +kernel
theorem dX8_screwed_9 : decode cX8_screwed 9 = .ok (.if_icmp .ge 21, 3) := by decide +kernel
theorem dX8_screwed_12 : decode cX8_screwed 12 = .ok (.aload_n 0, 1) := by decide +kernel
theorem dX8_screwed_13 : decode cX8_screwed 13 = .ok (.getfield 59, 3) := by decide +kernel
theorem dX8_screwed_16 : decode cX8_screwed 16 = .ok (.iload_n 1, 1) := by decide +kernel
theorem dX8_screwed_17 : decode cX8_screwed 17 = .ok (.aload_n 0, 1) := by decide +kernel
theorem dX8_screwed_18 : decode cX8_screwed 18 = .ok (.getfield 19, 3) := by decide +kernel
theorem dX8_screwed_21 : decode cX8_screwed 21 = .ok (.iload_n 1, 1) := by decide +kernel
theorem dX8_screwed_22 : decode cX8_screwed 22 = .ok (.iaload, 1) := by decide +kernel
theorem dX8_screwed_23 : decode cX8_screwed 23 = .ok (.iastore, 1) := by decide +kernel
theorem dX8_screwed_24 : decode cX8_screwed 24 = .ok (.iinc 1 1, 3) := by decide +kernel
theorem dX8_screwed_27 : decode cX8_screwed 27 = .ok (.goto (-20), 3) := by decide +kernel
theorem dX8_screwed_30 : decode cX8_screwed 30 = .ok (.bipush 9, 2) := by decide +kernel
theorem dX8_screwed_32 : decode cX8_screwed 32 = .ok (.istore_n 1, 1) := by decide +kernel
theorem dX8_screwed_33 : decode cX8_screwed 33 = .ok (.iconst 0, 1) := by decide +kernel
theorem dX8_screwed_34 : decode cX8_screwed 34 = .ok (.istore_n 2, 1) := by decide +kernel
theorem dX8_screwed_35 : decode cX8_screwed 35 = .ok (.iload_n 2, 1) := by decide +kernel
theorem dX8_screwed_36 : decode cX8_screwed 36 = .ok (.sipush 2401, 3) := by decide +kernel
theorem dX8_screwed_39 : decode cX8_screwed 39 = .ok (.if_icmp .ge 37, 3) := by decide +kernel
theorem dX8_screwed_42 : decode cX8_screwed 42 = .ok (.aload_n 0, 1) := by decide +kernel
theorem dX8_screwed_43 : decode cX8_screwed 43 = .ok (.iload_n 2, 1) := by decide +kernel
theorem dX8_screwed_44 : decode cX8_screwed 44 = .ok (.invokevirtual 274, 3) := by decide +kernel
theorem dX8_screwed_47 : decode cX8_screwed 47 = .ok (.istore_n 3, 1) := by decide +kernel
theorem dX8_screwed_48 : decode cX8_screwed 48 = .ok (.iload_n 3, 1) := by decide +kernel
theorem dX8_screwed_49 : decode cX8_screwed 49 = .ok (.iload_n 1, 1) := by decide +kernel
theorem dX8_screwed_50 : decode cX8_screwed 50 = .ok (.if_icmp .ge 20, 3) := by decide +kernel
theorem dX8_screwed_53 : decode cX8_screwed 53 = .ok (.aload_n 0, 1) := by decide +kernel
theorem dX8_screwed_54 : decode cX8_screwed 54 = .ok (.invokevirtual 248, 3) := by decide +kernel
theorem dX8_screwed_57 : decode cX8_screwed 57 = .ok (.aload_n 0, 1) := by decide +kernel
theorem dX8_screwed_58 : decode cX8_screwed 58 = .ok (.getfield 229, 3) := by decide +kernel
theorem dX8_screwed_61 : decode cX8_screwed 61 = .ok (.ifCond .ne 7, 3) := by decide +kernel
theorem dX8_screwed_64 : decode cX8_screwed 64 = .ok (.iload_n 3, 1) := by decide +kernel
theorem dX8_screwed_65 : decode cX8_screwed 65 = .ok (.goto 4, 3) := by decide +kernel
theorem dX8_screwed_68 : decode cX8_screwed 68 = .ok (.iload_n 1, 1) := by decide +kernel
theorem dX8_screwed_69 : decode cX8_screwed 69 = .ok (.istore_n 1, 1) := by decide +kernel
theorem dX8_screwed_70 : decode cX8_screwed 70 = .ok (.iinc 2 1, 3) := by decide +kernel
theorem dX8_screwed_73 : decode cX8_screwed 73 = .ok (.goto (-38), 3) := by decide +kernel
theorem dX8_screwed_76 : decode cX8_screwed 76 = .ok (.iconst 0, 1) := by decide +kernel
theorem dX8_screwed_77 : decode cX8_screwed 77 = .ok (.istore_n 2, 1) := by decide +kernel
theorem dX8_screwed_78 : decode cX8_screwed 78 = .ok (.iload_n 2, 1) := by decide +kernel
theorem dX8_screwed_79 : decode cX8_screwed 79 = .ok (.iconst 4, 1) := by decide +kernel
theorem dX8_screwed_80 : decode cX8_screwed 80 = .ok (.if_icmp .ge 21, 3) := by decide +kernel
theorem dX8_screwed_83 : decode cX8_screwed 83 = .ok (.aload_n 0, 1) := by decide +kernel
theorem dX8_screwed_84 : decode cX8_screwed 84 = .ok (.getfield 19, 3) := by decide +kernel
theorem dX8_screwed_87 : decode cX8_screwed 87 = .ok (.iload_n 2, 1) := by decide +kernel
theorem dX8_screwed_88 : decode cX8_screwed 88 = .ok (.aload_n 0, 1) := by decide +kernel
theorem dX8_screwed_89 : decode cX8_screwed 89 = .ok (.getfield 59, 3) := by decide +kernel
theorem dX8_screwed_92 : decode cX8_screwed 92 = .ok (.iload_n 2, 1) := by decide +kernel
theorem dX8_screwed_93 : decode cX8_screwed 93 = .ok (.iaload, 1) := by decide +kernel
theorem dX8_screwed_94 : decode cX8_screwed 94 = .ok (.iastore, 1) := by decide +kernel
theorem dX8_screwed_95 : decode cX8_screwed 95 = .ok (.iinc 2 1, 3) := by decide +kernel
theorem dX8_screwed_98 : decode cX8_screwed 98 = .ok (.goto (-20), 3) := by decide +kernel
theorem dX8_screwed_101 : decode cX8_screwed 101 = .ok (.iload_n 1, 1) := by decide +kernel
theorem dX8_screwed_102 : decode cX8_screwed 102 = .ok (.bipush 9, 2) := by decide +kernel
theorem dX8_screwed_104 : decode cX8_screwed 104 = .ok (.if_icmp .ge 7, 3) := by decide +kernel
theorem dX8_screwed_107 : decode cX8_screwed 107 = .ok (.iload_n 1, 1) := by decide +kernel
theorem dX8_screwed_108 : decode cX8_screwed 108 = .ok (.goto 4, 3) := by decide +kernel
theorem dX8_screwed_111 : decode cX8_screwed 111 = .ok (.iconst (-1), 1) := by decide +kernel
theorem dX8_screwed_112 : decode cX8_screwed 112 = .ok (.ireturn, 1) := by decide +kernel
theorem dX8_blame_0 : decode cX8_blame 0 = .ok (.aload_n 0, 1) := by decide +kernel
theorem dX8_blame_1 : decode cX8_blame 1 = .ok (.iconst 0, 1) := by decide +kernel
theorem dX8_blame_2 : decode cX8_blame 2 = .ok (.putfield 77, 3) := by decide +kernel
theorem dX8_blame_5 : decode cX8_blame 5 = .ok (.iload_n 1, 1) := by decide +kernel
theorem dX8_blame_6 : decode cX8_blame 6 = .ok (.i2l, 1) := by decide +kernel
theorem dX8_blame_7 : decode cX8_blame 7 = .ok (.lconst 0, 1) := by decide +kernel
theorem dX8_blame_8 : decode cX8_blame 8 = .ok (.lconst 1, 1) := by decide +kernel
theorem dX8_blame_9 : decode cX8_blame 9 = .ok (.invokestatic 97, 3) := by decide +kernel
theorem dX8_blame_12 : decode cX8_blame 12 = .ok (.ifCond .ne 6, 3) := by decide +kernel
theorem dX8_blame_15 : decode cX8_blame 15 = .ok (.ldc 247, 2) := by decide +kernel
theorem dX8_blame_17 : decode cX8_blame 17 = .ok (.ireturn, 1) := by decide +kernel
theorem dX8_blame_18 : decode cX8_blame 18 = .ok (.aload_n 0, 1) := by decide +kernel
theorem dX8_blame_19 : decode cX8_blame 19 = .ok (.aload_n 0, 1) := by decide +kernel
theorem dX8_blame_20 : decode cX8_blame 20 = .ok (.getfield 22, 3) := by decide +kernel
theorem dX8_blame_23 : decode cX8_blame 23 = .ok (.aload_n 0, 1) := by decide +kernel
theorem dX8_blame_24 : decode cX8_blame 24 = .ok (.getfield 238, 3) := by decide +kernel
theorem dX8_blame_27 : decode cX8_blame 27 = .ok (.iconst 2, 1) := by decide +kernel
theorem dX8_blame_28 : decode cX8_blame 28 = .ok (.iadd, 1) := by decide +kernel
theorem dX8_blame_29 : decode cX8_blame 29 = .ok (.bipush 8, 2) := by decide +kernel
theorem dX8_blame_31 : decode cX8_blame 31 = .ok (.irem, 1) := by decide +kernel
theorem dX8_blame_32 : decode cX8_blame 32 = .ok (.invokevirtual 241, 3) := by decide +kernel
theorem dX8_blame_35 : decode cX8_blame 35 = .ok (.aload_n 0, 1) := by decide +kernel
theorem dX8_blame_36 : decode cX8_blame 36 = .ok (.getfield 211, 3) := by decide +kernel
theorem dX8_blame_39 : decode cX8_blame 39 = .ok (.istore_n 2, 1) := by decide +kernel
theorem dX8_blame_40 : decode cX8_blame 40 = .ok (.aload_n 0, 1) := by decide +kernel
theorem dX8_blame_41 : decode cX8_blame 41 = .ok (.invokevirtual 248, 3) := by decide +kernel
theorem dX8_blame_44 : decode cX8_blame 44 = .ok (.aload_n 0, 1) := by decide +kernel
theorem dX8_blame_45 : decode cX8_blame 45 = .ok (.getfield 211, 3) := by decide +kernel
theorem dX8_blame_48 : decode cX8_blame 48 = .ok (.iload_n 2, 1) := by decide +kernel
theorem dX8_blame_49 : decode cX8_blame 49 = .ok (.iadd, 1) := by decide +kernel
theorem dX8_blame_50 : decode cX8_blame 50 = .ok (.iconst 2, 1) := by decide +kernel
theorem dX8_blame_51 : decode cX8_blame 51 = .ok (.idiv, 1) := by decide +kernel
theorem dX8_blame_52 : decode cX8_blame 52 = .ok (.istore_n 3, 1) := by decide +kernel
theorem dX8_blame_53 : decode cX8_blame 53 = .ok (.iload_n 1, 1) := by decide +kernel
theorem dX8_blame_54 : decode cX8_blame 54 = .ok (.ifCond .ne 7, 3) := by decide +kernel
theorem dX8_blame_57 : decode cX8_blame 57 = .ok (.iload_n 3, 1) := by decide +kernel
theorem dX8_blame_58 : decode cX8_blame 58 = .ok (.goto 9, 3) := by decide +kernel
theorem dX8_blame_61 : decode cX8_blame 61 = .ok (.aload_n 0, 1) := by decide +kernel
theorem dX8_blame_62 : decode cX8_blame 62 = .ok (.getfield 211, 3) := by decide +kernel
theorem dX8_blame_65 : decode cX8_blame 65 = .ok (.iload_n 3, 1) := by decide +kernel
theorem dX8_blame_66 : decode cX8_blame 66 = .ok (.isub, 1) := by decide +kernel
theorem dX8_blame_67 : decode cX8_blame 67 = .ok (.ireturn, 1) := by decide +kernel
theorem dX8_apart_0 : decode cX8_apart 0 = .ok (.iload_n 0, 1) := by decide +kernel
theorem dX8_apart_1 : decode cX8_apart 1 = .ok (.iload_n 1, 1) := by decide +kernel
theorem dX8_apart_2 : decode cX8_apart 2 = .ok (.if_icmp .ge 9, 3) := by decide +kernel
theorem dX8_apart_5 : decode cX8_apart 5 = .ok (.iload_n 1, 1) := by decide +kernel
theorem dX8_apart_6 : decode cX8_apart 6 = .ok (.iload_n 0, 1) := by decide +kernel
theorem dX8_apart_7 : decode cX8_apart 7 = .ok (.isub, 1) := by decide +kernel
theorem dX8_apart_8 : decode cX8_apart 8 = .ok (.goto 6, 3) := by decide +kernel
theorem dX8_apart_11 : decode cX8_apart 11 = .ok (.iload_n 0, 1) := by decide +kernel
theorem dX8_apart_12 : decode cX8_apart 12 = .ok (.iload_n 1, 1) := by decide +kernel
theorem dX8_apart_13 : decode cX8_apart 13 = .ok (.isub, 1) := by decide +kernel
theorem dX8_apart_14 : decode cX8_apart 14 = .ok (.ireturn, 1) := by decide +kernel
theorem dX8_beside_0 : decode cX8_beside 0 = .ok (.aload_n 0, 1) := by decide +kernel
theorem dX8_beside_1 : decode cX8_beside 1 = .ok (.iconst 0, 1) := by decide +kernel
theorem dX8_beside_2 : decode cX8_beside 2 = .ok (.putfield 77, 3) := by decide +kernel
theorem dX8_beside_5 : decode cX8_beside 5 = .ok (.iload_n 1, 1) := by decide +kernel
theorem dX8_beside_6 : decode cX8_beside 6 = .ok (.i2l, 1) := by decide +kernel
theorem dX8_beside_7 : decode cX8_beside 7 = .ok (.lconst 0, 1) := by decide +kernel
theorem dX8_beside_8 : decode cX8_beside 8 = .ok (.lconst 1, 1) := by decide +kernel
theorem dX8_beside_9 : decode cX8_beside 9 = .ok (.invokestatic 97, 3) := by decide +kernel
theorem dX8_beside_12 : decode cX8_beside 12 = .ok (.ifCond .ne 6, 3) := by decide +kernel
theorem dX8_beside_15 : decode cX8_beside 15 = .ok (.bipush (-2), 2) := by decide +kernel
theorem dX8_beside_17 : decode cX8_beside 17 = .ok (.ireturn, 1) := by decide +kernel
theorem dX8_beside_18 : decode cX8_beside 18 = .ok (.iconst 0, 1) := by decide +kernel
theorem dX8_beside_19 : decode cX8_beside 19 = .ok (.istore_n 2, 1) := by decide +kernel
theorem dX8_beside_20 : decode cX8_beside 20 = .ok (.iload_n 2, 1) := by decide +kernel
theorem dX8_beside_21 : decode cX8_beside 21 = .ok (.bipush 64, 2) := by decide +kernel
theorem dX8_beside_23 : decode cX8_beside 23 = .ok (.if_icmp .ge 111, 3) := by decide +kernel
theorem dX8_beside_26 : decode cX8_beside 26 = .ok (.iload_n 2, 1) := by decide +kernel
theorem dX8_beside_27 : decode cX8_beside 27 = .ok (.bipush 8, 2) := by decide +kernel
theorem dX8_beside_29 : decode cX8_beside 29 = .ok (.idiv, 1) := by decide +kernel
theorem dX8_beside_30 : decode cX8_beside 30 = .ok (.aload_n 0, 1) := by decide +kernel
theorem dX8_beside_31 : decode cX8_beside 31 = .ok (.getfield 22, 3) := by decide +kernel
theorem dX8_beside_34 : decode cX8_beside 34 = .ok (.bipush 8, 2) := by decide +kernel
theorem dX8_beside_36 : decode cX8_beside 36 = .ok (.idiv, 1) := by decide +kernel
theorem dX8_beside_37 : decode cX8_beside 37 = .ok (.invokestatic 277, 3) := by decide +kernel
theorem dX8_beside_40 : decode cX8_beside 40 = .ok (.iconst 2, 1) := by decide +kernel
theorem dX8_beside_41 : decode cX8_beside 41 = .ok (.aload_n 0, 1) := by decide +kernel
theorem dX8_beside_42 : decode cX8_beside 42 = .ok (.getfield 26, 3) := by decide +kernel
theorem dX8_beside_45 : decode cX8_beside 45 = .ok (.imul, 1) := by decide +kernel
theorem dX8_beside_46 : decode cX8_beside 46 = .ok (.if_icmp .gt 26, 3) := by decide +kernel
theorem dX8_beside_49 : decode cX8_beside 49 = .ok (.iload_n 2, 1) := by decide +kernel
theorem dX8_beside_50 : decode cX8_beside 50 = .ok (.bipush 8, 2) := by decide +kernel
theorem dX8_beside_52 : decode cX8_beside 52 = .ok (.irem, 1) := by decide +kernel
theorem dX8_beside_53 : decode cX8_beside 53 = .ok (.aload_n 0, 1) := by decide +kernel
theorem dX8_beside_54 : decode cX8_beside 54 = .ok (.getfield 22, 3) := by decide +kernel
theorem dX8_beside_57 : decode cX8_beside 57 = .ok (.bipush 8, 2) := by decide +kernel
theorem dX8_beside_59 : decode cX8_beside 59 = .ok (.irem, 1) := by decide +kernel
theorem dX8_beside_60 : decode cX8_beside 60 = .ok (.invokestatic 277, 3) := by decide +kernel
theorem dX8_beside_63 : decode cX8_beside 63 = .ok (.iconst 2, 1) := by decide +kernel
theorem dX8_beside_64 : decode cX8_beside 64 = .ok (.aload_n 0, 1) := by decide +kernel
theorem dX8_beside_65 : decode cX8_beside 65 = .ok (.getfield 26, 3) := by decide +kernel
theorem dX8_beside_68 : decode cX8_beside 68 = .ok (.imul, 1) := by decide +kernel
theorem dX8_beside_69 : decode cX8_beside 69 = .ok (.if_icmp .le 7, 3) := by decide +kernel
theorem dX8_beside_72 : decode cX8_beside 72 = .ok (.iconst 1, 1) := by decide +kernel
theorem dX8_beside_73 : decode cX8_beside 73 = .ok (.goto 4, 3) := by decide +kernel
theorem dX8_beside_76 : decode cX8_beside 76 = .ok (.iconst 0, 1) := by decide +kernel
theorem dX8_beside_77 : decode cX8_beside 77 = .ok (.istore_n 3, 1) := by decide +kernel
theorem dX8_beside_78 : decode cX8_beside 78 = .ok (.iload_n 3, 1) := by decide +kernel
theorem dX8_beside_79 : decode cX8_beside 79 = .ok (.ifCond .eq 11, 3) := by decide +kernel
theorem dX8_beside_82 : decode cX8_beside 82 = .ok (.aload_n 0, 1) := by decide +kernel
theorem dX8_beside_83 : decode cX8_beside 83 = .ok (.iload_n 2, 1) := by decide +kernel
theorem dX8_beside_84 : decode cX8_beside 84 = .ok (.invokevirtual 262, 3) := by decide +kernel
theorem dX8_beside_87 : decode cX8_beside 87 = .ok (.goto 4, 3) := by decide +kernel
theorem dX8_beside_90 : decode cX8_beside 90 = .ok (.iconst 0, 1) := by decide +kernel
theorem dX8_beside_91 : decode cX8_beside 91 = .ok (.istore 4, 2) := by decide +kernel
theorem dX8_beside_93 : decode cX8_beside 93 = .ok (.iload 4, 2) := by decide +kernel
theorem dX8_beside_95 : decode cX8_beside 95 = .ok (.ifCond .eq 33, 3) := by decide +kernel
theorem dX8_beside_98 : decode cX8_beside 98 = .ok (.iconst 0, 1) := by decide +kernel
theorem dX8_beside_99 : decode cX8_beside 99 = .ok (.istore 5, 2) := by decide +kernel
theorem dX8_beside_101 : decode cX8_beside 101 = .ok (.iload 4, 2) := by decide +kernel
theorem dX8_beside_103 : decode cX8_beside 103 = .ok (.iload 5, 2) := by decide +kernel
theorem dX8_beside_105 : decode cX8_beside 105 = .ok (.ishr, 1) := by decide +kernel
theorem dX8_beside_106 : decode cX8_beside 106 = .ok (.iconst 1, 1) := by decide +kernel
theorem dX8_beside_107 : decode cX8_beside 107 = .ok (.iand, 1) := by decide +kernel
theorem dX8_beside_108 : decode cX8_beside 108 = .ok (.ifCond .ne 9, 3) := by decide +kernel
theorem dX8_beside_111 : decode cX8_beside 111 = .ok (.iinc 5 1, 3) := by decide +kernel
theorem dX8_beside_114 : decode cX8_beside 114 = .ok (.goto (-13), 3) := by decide +kernel
theorem dX8_beside_117 : decode cX8_beside 117 = .ok (.iload_n 1, 1) := by decide +kernel
theorem dX8_beside_118 : decode cX8_beside 118 = .ok (.ifCond .ne 7, 3) := by decide +kernel
theorem dX8_beside_121 : decode cX8_beside 121 = .ok (.iload_n 2, 1) := by decide +kernel
theorem dX8_beside_122 : decode cX8_beside 122 = .ok (.goto 5, 3) := by decide +kernel
theorem dX8_beside_125 : decode cX8_beside 125 = .ok (.iload 5, 2) := by decide +kernel
theorem dX8_beside_127 : decode cX8_beside 127 = .ok (.ireturn, 1) := by decide +kernel
theorem dX8_beside_128 : decode cX8_beside 128 = .ok (.iinc 2 1, 3) := by decide +kernel
theorem dX8_beside_131 : decode cX8_beside 131 = .ok (.goto (-111), 3) := by decide +kernel
theorem dX8_beside_134 : decode cX8_beside 134 = .ok (.iconst (-1), 1) := by decide +kernel
theorem dX8_beside_135 : decode cX8_beside 135 = .ok (.ireturn, 1) := by decide +kernel
theorem dX8_sit_0 : decode cX8_sit 0 = .ok (.aload_n 0, 1) := by decide +kernel
theorem dX8_sit_1 : decode cX8_sit 1 = .ok (.iconst 0, 1) := by decide +kernel
theorem dX8_sit_2 : decode cX8_sit 2 = .ok (.putfield 77, 3) := by decide +kernel
theorem dX8_sit_5 : decode cX8_sit 5 = .ok (.aload_n 0, 1) := by decide +kernel
theorem dX8_sit_6 : decode cX8_sit 6 = .ok (.getfield 204, 3) := by decide +kernel
theorem dX8_sit_9 : decode cX8_sit 9 = .ok (.istore_n 1, 1) := by decide +kernel
theorem dX8_sit_10 : decode cX8_sit 10 = .ok (.iconst (-1), 1) := by decide +kernel
theorem dX8_sit_11 : decode cX8_sit 11 = .ok (.istore_n 2, 1) := by decide +kernel
theorem dX8_sit_12 : decode cX8_sit 12 = .ok (.iload_n 1, 1) := by decide +kernel
theorem dX8_sit_13 : decode cX8_sit 13 = .ok (.istore_n 3, 1) := by decide +kernel
theorem dX8_sit_14 : decode cX8_sit 14 = .ok (.iload_n 3, 1) := by decide +kernel
theorem dX8_sit_15 : decode cX8_sit 15 = .ok (.bipush 10, 2) := by decide +kernel
theorem dX8_sit_17 : decode cX8_sit 17 = .ok (.if_icmp .ge 37, 3) := by decide +kernel
theorem dX8_sit_20 : decode cX8_sit 20 = .ok (.iload_n 2, 1) := by decide +kernel
theorem dX8_sit_21 : decode cX8_sit 21 = .ok (.ifCond .ge 33, 3) := by decide +kernel
theorem dX8_sit_24 : decode cX8_sit 24 = .ok (.aload_n 0, 1) := by decide +kernel
theorem dX8_sit_25 : decode cX8_sit 25 = .ok (.iload_n 3, 1) := by decide +kernel
theorem dX8_sit_26 : decode cX8_sit 26 = .ok (.putfield 204, 3) := by decide +kernel
theorem dX8_sit_29 : decode cX8_sit 29 = .ok (.aload_n 0, 1) := by decide +kernel
theorem dX8_sit_30 : decode cX8_sit 30 = .ok (.invokevirtual 248, 3) := by decide +kernel
theorem dX8_sit_33 : decode cX8_sit 33 = .ok (.aload_n 0, 1) := by decide +kernel
theorem dX8_sit_34 : decode cX8_sit 34 = .ok (.getfield 229, 3) := by decide +kernel
theorem dX8_sit_37 : decode cX8_sit 37 = .ok (.ifCond .ne 9, 3) := by decide +kernel
theorem dX8_sit_40 : decode cX8_sit 40 = .ok (.iload_n 3, 1) := by decide +kernel
theorem dX8_sit_41 : decode cX8_sit 41 = .ok (.iload_n 1, 1) := by decide +kernel
theorem dX8_sit_42 : decode cX8_sit 42 = .ok (.isub, 1) := by decide +kernel
theorem dX8_sit_43 : decode cX8_sit 43 = .ok (.goto 4, 3) := by decide +kernel
theorem dX8_sit_46 : decode cX8_sit 46 = .ok (.iconst (-1), 1) := by decide +kernel
theorem dX8_sit_47 : decode cX8_sit 47 = .ok (.istore_n 2, 1) := by decide +kernel
theorem dX8_sit_48 : decode cX8_sit 48 = .ok (.iinc 3 1, 3) := by decide +kernel
theorem dX8_sit_51 : decode cX8_sit 51 = .ok (.goto (-37), 3) := by decide +kernel
theorem dX8_sit_54 : decode cX8_sit 54 = .ok (.aload_n 0, 1) := by decide +kernel
theorem dX8_sit_55 : decode cX8_sit 55 = .ok (.iload_n 1, 1) := by decide +kernel
theorem dX8_sit_56 : decode cX8_sit 56 = .ok (.putfield 204, 3) := by decide +kernel
theorem dX8_sit_59 : decode cX8_sit 59 = .ok (.iload_n 2, 1) := by decide +kernel
theorem dX8_sit_60 : decode cX8_sit 60 = .ok (.ireturn, 1) := by decide +kernel
theorem dX8_firstOtherwise_0 : decode cX8_firstOtherwise 0 = .ok (.iconst 0, 1) := by decide +kernel
theorem dX8_firstOtherwise_1 : decode cX8_firstOtherwise 1 = .ok (.istore_n 3, 1) := by decide +kernel
theorem dX8_firstOtherwise_2 : decode cX8_firstOtherwise 2 = .ok (.iload_n 3, 1) := by decide +kernel
theorem dX8_firstOtherwise_3 : decode cX8_firstOtherwise 3 = .ok (.aload_n 0, 1) := by decide +kernel
theorem dX8_firstOtherwise_4 : decode cX8_firstOtherwise 4 = .ok (.getfield 68, 3) := by decide +kernel
theorem dX8_firstOtherwise_7 : decode cX8_firstOtherwise 7 = .ok (.iload_n 1, 1) := by decide +kernel
theorem dX8_firstOtherwise_8 : decode cX8_firstOtherwise 8 = .ok (.iaload, 1) := by decide +kernel
theorem dX8_firstOtherwise_9 : decode cX8_firstOtherwise 9 = .ok (.if_icmp .ge 36, 3) := by decide +kernel
theorem dX8_firstOtherwise_12 : decode cX8_firstOtherwise 12 = .ok (.aload_n 0, 1) := by decide +kernel
theorem dX8_firstOtherwise_13 : decode cX8_firstOtherwise 13 = .ok (.getfield 71, 3) := by decide +kernel
theorem dX8_firstOtherwise_16 : decode cX8_firstOtherwise 16 = .ok (.bipush 40, 2) := by decide +kernel
theorem dX8_firstOtherwise_18 : decode cX8_firstOtherwise 18 = .ok (.iload_n 1, 1) := by decide +kernel
theorem dX8_firstOtherwise_19 : decode cX8_firstOtherwise 19 = .ok (.imul, 1) := by decide +kernel
theorem dX8_firstOtherwise_20 : decode cX8_firstOtherwise 20 = .ok (.iload_n 3, 1) := by decide +kernel
theorem dX8_firstOtherwise_21 : decode cX8_firstOtherwise 21 = .ok (.iadd, 1) := by decide +kernel
theorem dX8_firstOtherwise_22 : decode cX8_firstOtherwise 22 = .ok (.iaload, 1) := by decide +kernel
theorem dX8_firstOtherwise_23 : decode cX8_firstOtherwise 23 = .ok (.aload_n 0, 1) := by decide +kernel
theorem dX8_firstOtherwise_24 : decode cX8_firstOtherwise 24 = .ok (.iload_n 2, 1) := by decide +kernel
theorem dX8_firstOtherwise_25 : decode cX8_firstOtherwise 25 = .ok (.aload_n 0, 1) := by decide +kernel
theorem dX8_firstOtherwise_26 : decode cX8_firstOtherwise 26 = .ok (.getfield 238, 3) := by decide +kernel
theorem dX8_firstOtherwise_29 : decode cX8_firstOtherwise 29 = .ok (.iload_n 3, 1) := by decide +kernel
theorem dX8_firstOtherwise_30 : decode cX8_firstOtherwise 30 = .ok (.iadd, 1) := by decide +kernel
theorem dX8_firstOtherwise_31 : decode cX8_firstOtherwise 31 = .ok (.invokevirtual 265, 3) := by decide +kernel
theorem dX8_firstOtherwise_34 : decode cX8_firstOtherwise 34 = .ok (.if_icmp .eq 5, 3) := by decide +kernel
theorem dX8_firstOtherwise_37 : decode cX8_firstOtherwise 37 = .ok (.iload_n 3, 1) := by decide +kernel
theorem dX8_firstOtherwise_38 : decode cX8_firstOtherwise 38 = .ok (.ireturn, 1) := by decide +kernel
theorem dX8_firstOtherwise_39 : decode cX8_firstOtherwise 39 = .ok (.iinc 3 1, 3) := by decide +kernel
theorem dX8_firstOtherwise_42 : decode cX8_firstOtherwise 42 = .ok (.goto (-40), 3) := by decide +kernel
theorem dX8_firstOtherwise_45 : decode cX8_firstOtherwise 45 = .ok (.iconst (-1), 1) := by decide +kernel
theorem dX8_firstOtherwise_46 : decode cX8_firstOtherwise 46 = .ok (.ireturn, 1) := by decide +kernel
theorem dX8_judge_0 : decode cX8_judge 0 = .ok (.aload_n 0, 1) := by decide +kernel
theorem dX8_judge_1 : decode cX8_judge 1 = .ok (.iconst 0, 1) := by decide +kernel
theorem dX8_judge_2 : decode cX8_judge 2 = .ok (.putfield 77, 3) := by decide +kernel
theorem dX8_judge_5 : decode cX8_judge 5 = .ok (.iload_n 1, 1) := by decide +kernel
theorem dX8_judge_6 : decode cX8_judge 6 = .ok (.i2l, 1) := by decide +kernel
theorem dX8_judge_7 : decode cX8_judge 7 = .ok (.lconst 0, 1) := by decide +kernel
theorem dX8_judge_8 : decode cX8_judge 8 = .ok (.ldc2_w 280, 3) := by decide +kernel
theorem dX8_judge_11 : decode cX8_judge 11 = .ok (.invokestatic 97, 3) := by decide +kernel
theorem dX8_judge_14 : decode cX8_judge 14 = .ok (.ifCond .eq 12, 3) := by decide +kernel
theorem dX8_judge_17 : decode cX8_judge 17 = .ok (.aload_n 0, 1) := by decide +kernel
theorem dX8_judge_18 : decode cX8_judge 18 = .ok (.getfield 65, 3) := by decide +kernel
theorem dX8_judge_21 : decode cX8_judge 21 = .ok (.iload_n 1, 1) := by decide +kernel
theorem dX8_judge_22 : decode cX8_judge 22 = .ok (.iaload, 1) := by decide +kernel
theorem dX8_judge_23 : decode cX8_judge 23 = .ok (.ifCond .ge 23, 3) := by decide +kernel
theorem dX8_judge_26 : decode cX8_judge 26 = .ok (.iload_n 1, 1) := by decide +kernel
theorem dX8_judge_27 : decode cX8_judge 27 = .ok (.i2l, 1) := by decide +kernel
theorem dX8_judge_28 : decode cX8_judge 28 = .ok (.lconst 0, 1) := by decide +kernel
theorem dX8_judge_29 : decode cX8_judge 29 = .ok (.ldc2_w 280, 3) := by decide +kernel
theorem dX8_judge_32 : decode cX8_judge 32 = .ok (.invokestatic 97, 3) := by decide +kernel
theorem dX8_judge_35 : decode cX8_judge 35 = .ok (.ifCond .eq 8, 3) := by decide +kernel
theorem dX8_judge_38 : decode cX8_judge 38 = .ok (.bipush (-11), 2) := by decide +kernel
theorem dX8_judge_40 : decode cX8_judge 40 = .ok (.goto 5, 3) := by decide +kernel
theorem dX8_judge_43 : decode cX8_judge 43 = .ok (.bipush (-2), 2) := by decide +kernel
theorem dX8_judge_45 : decode cX8_judge 45 = .ok (.ireturn, 1) := by decide +kernel
theorem dX8_judge_46 : decode cX8_judge 46 = .ok (.aload_n 0, 1) := by decide +kernel
theorem dX8_judge_47 : decode cX8_judge 47 = .ok (.iload_n 1, 1) := by decide +kernel
theorem dX8_judge_48 : decode cX8_judge 48 = .ok (.aload_n 0, 1) := by decide +kernel
theorem dX8_judge_49 : decode cX8_judge 49 = .ok (.getfield 22, 3) := by decide +kernel
theorem dX8_judge_52 : decode cX8_judge 52 = .ok (.invokevirtual 282, 3) := by decide +kernel
theorem dX8_judge_55 : decode cX8_judge 55 = .ok (.ireturn, 1) := by decide +kernel
theorem dX8_which_0 : decode cX8_which 0 = .ok (.aload_n 0, 1) := by decide +kernel
theorem dX8_which_1 : decode cX8_which 1 = .ok (.iconst 0, 1) := by decide +kernel
theorem dX8_which_2 : decode cX8_which 2 = .ok (.putfield 77, 3) := by decide +kernel
theorem dX8_which_5 : decode cX8_which 5 = .ok (.iload_n 1, 1) := by decide +kernel
theorem dX8_which_6 : decode cX8_which 6 = .ok (.i2l, 1) := by decide +kernel
theorem dX8_which_7 : decode cX8_which 7 = .ok (.lconst 0, 1) := by decide +kernel
theorem dX8_which_8 : decode cX8_which 8 = .ok (.ldc2_w 280, 3) := by decide +kernel
theorem dX8_which_11 : decode cX8_which 11 = .ok (.invokestatic 97, 3) := by decide +kernel
theorem dX8_which_14 : decode cX8_which 14 = .ok (.ifCond .eq 12, 3) := by decide +kernel
theorem dX8_which_17 : decode cX8_which 17 = .ok (.aload_n 0, 1) := by decide +kernel
theorem dX8_which_18 : decode cX8_which 18 = .ok (.getfield 65, 3) := by decide +kernel
theorem dX8_which_21 : decode cX8_which 21 = .ok (.iload_n 1, 1) := by decide +kernel
theorem dX8_which_22 : decode cX8_which 22 = .ok (.iaload, 1) := by decide +kernel
theorem dX8_which_23 : decode cX8_which 23 = .ok (.ifCond .ge 7, 3) := by decide +kernel
theorem dX8_which_26 : decode cX8_which 26 = .ok (.ldc2_w 285, 3) := by decide +kernel
theorem dX8_which_29 : decode cX8_which 29 = .ok (.lreturn, 1) := by decide +kernel
theorem dX8_which_30 : decode cX8_which 30 = .ok (.lconst 0, 1) := by decide +kernel
theorem dX8_which_31 : decode cX8_which 31 = .ok (.lstore_n 2, 1) := by decide +kernel
theorem dX8_which_32 : decode cX8_which 32 = .ok (.iconst 0, 1) := by decide +kernel
theorem dX8_which_33 : decode cX8_which 33 = .ok (.istore 4, 2) := by decide +kernel
theorem dX8_which_35 : decode cX8_which 35 = .ok (.iload 4, 2) := by decide +kernel
theorem dX8_which_37 : decode cX8_which 37 = .ok (.bipush 64, 2) := by decide +kernel
theorem dX8_which_39 : decode cX8_which 39 = .ok (.if_icmp .ge 30, 3) := by decide +kernel
theorem dX8_which_42 : decode cX8_which 42 = .ok (.aload_n 0, 1) := by decide +kernel
theorem dX8_which_43 : decode cX8_which 43 = .ok (.iload_n 1, 1) := by decide +kernel
theorem dX8_which_44 : decode cX8_which 44 = .ok (.iload 4, 2) := by decide +kernel
theorem dX8_which_46 : decode cX8_which 46 = .ok (.invokevirtual 282, 3) := by decide +kernel
theorem dX8_which_49 : decode cX8_which 49 = .ok (.ifCond .ge 12, 3) := by decide +kernel
theorem dX8_which_52 : decode cX8_which 52 = .ok (.lload_n 2, 1) := by decide +kernel
theorem dX8_which_53 : decode cX8_which 53 = .ok (.lconst 1, 1) := by decide +kernel
theorem dX8_which_54 : decode cX8_which 54 = .ok (.iload 4, 2) := by decide +kernel
theorem dX8_which_56 : decode cX8_which 56 = .ok (.lshl, 1) := by decide +kernel
theorem dX8_which_57 : decode cX8_which 57 = .ok (.lor, 1) := by decide +kernel
theorem dX8_which_58 : decode cX8_which 58 = .ok (.goto 4, 3) := by decide +kernel
theorem dX8_which_61 : decode cX8_which 61 = .ok (.lload_n 2, 1) := by decide +kernel
theorem dX8_which_62 : decode cX8_which 62 = .ok (.lstore_n 2, 1) := by decide +kernel
theorem dX8_which_63 : decode cX8_which 63 = .ok (.iinc 4 1, 3) := by decide +kernel
theorem dX8_which_66 : decode cX8_which 66 = .ok (.goto (-31), 3) := by decide +kernel
theorem dX8_which_69 : decode cX8_which 69 = .ok (.lload_n 2, 1) := by decide +kernel
theorem dX8_which_70 : decode cX8_which 70 = .ok (.lreturn, 1) := by decide +kernel
theorem dX8_rockBy_0 : decode cX8_rockBy 0 = .ok (.iload_n 1, 1) := by decide +kernel
theorem dX8_rockBy_1 : decode cX8_rockBy 1 = .ok (.ldc_w 287, 3) := by decide +kernel
theorem dX8_rockBy_4 : decode cX8_rockBy 4 = .ok (.imul, 1) := by decide +kernel
theorem dX8_rockBy_5 : decode cX8_rockBy 5 = .ok (.sipush 12345, 3) := by decide +kernel
theorem dX8_rockBy_8 : decode cX8_rockBy 8 = .ok (.iadd, 1) := by decide +kernel
theorem dX8_rockBy_9 : decode cX8_rockBy 9 = .ok (.istore_n 2, 1) := by decide +kernel
theorem dX8_rockBy_10 : decode cX8_rockBy 10 = .ok (.iload_n 2, 1) := by decide +kernel
theorem dX8_rockBy_11 : decode cX8_rockBy 11 = .ok (.bipush 8, 2) := by decide +kernel
theorem dX8_rockBy_13 : decode cX8_rockBy 13 = .ok (.iushr, 1) := by decide +kernel
theorem dX8_rockBy_14 : decode cX8_rockBy 14 = .ok (.bipush 64, 2) := by decide +kernel
theorem dX8_rockBy_16 : decode cX8_rockBy 16 = .ok (.irem, 1) := by decide +kernel
theorem dX8_rockBy_17 : decode cX8_rockBy 17 = .ok (.istore_n 3, 1) := by decide +kernel
theorem dX8_rockBy_18 : decode cX8_rockBy 18 = .ok (.iload_n 2, 1) := by decide +kernel
theorem dX8_rockBy_19 : decode cX8_rockBy 19 = .ok (.ldc_w 287, 3) := by decide +kernel
theorem dX8_rockBy_22 : decode cX8_rockBy 22 = .ok (.imul, 1) := by decide +kernel
theorem dX8_rockBy_23 : decode cX8_rockBy 23 = .ok (.sipush 12345, 3) := by decide +kernel
theorem dX8_rockBy_26 : decode cX8_rockBy 26 = .ok (.iadd, 1) := by decide +kernel
theorem dX8_rockBy_27 : decode cX8_rockBy 27 = .ok (.istore_n 2, 1) := by decide +kernel
theorem dX8_rockBy_28 : decode cX8_rockBy 28 = .ok (.aload_n 0, 1) := by decide +kernel
theorem dX8_rockBy_29 : decode cX8_rockBy 29 = .ok (.iload_n 3, 1) := by decide +kernel
theorem dX8_rockBy_30 : decode cX8_rockBy 30 = .ok (.iload_n 2, 1) := by decide +kernel
theorem dX8_rockBy_31 : decode cX8_rockBy 31 = .ok (.bipush 10, 2) := by decide +kernel
theorem dX8_rockBy_33 : decode cX8_rockBy 33 = .ok (.iushr, 1) := by decide +kernel
theorem dX8_rockBy_34 : decode cX8_rockBy 34 = .ok (.bipush 8, 2) := by decide +kernel
theorem dX8_rockBy_36 : decode cX8_rockBy 36 = .ok (.irem, 1) := by decide +kernel
theorem dX8_rockBy_37 : decode cX8_rockBy 37 = .ok (.invokevirtual 241, 3) := by decide +kernel
theorem dX8_rockBy_40 : decode cX8_rockBy 40 = .ok (.aload_n 0, 1) := by decide +kernel
theorem dX8_rockBy_41 : decode cX8_rockBy 41 = .ok (.getfield 229, 3) := by decide +kernel
theorem dX8_rockBy_44 : decode cX8_rockBy 44 = .ok (.ireturn, 1) := by decide +kernel
theorem dX8_drawn_0 : decode cX8_drawn 0 = .ok (.aload_n 0, 1) := by decide +kernel
theorem dX8_drawn_1 : decode cX8_drawn 1 = .ok (.iconst 0, 1) := by decide +kernel
theorem dX8_drawn_2 : decode cX8_drawn 2 = .ok (.putfield 77, 3) := by decide +kernel
theorem dX8_drawn_5 : decode cX8_drawn 5 = .ok (.aload_n 0, 1) := by decide +kernel
theorem dX8_drawn_6 : decode cX8_drawn 6 = .ok (.iload_n 1, 1) := by decide +kernel
theorem dX8_drawn_7 : decode cX8_drawn 7 = .ok (.invokevirtual 288, 3) := by decide +kernel
theorem dX8_drawn_10 : decode cX8_drawn 10 = .ok (.ireturn, 1) := by decide +kernel
theorem dX8_odds_0 : decode cX8_odds 0 = .ok (.aload_n 0, 1) := by decide +kernel
theorem dX8_odds_1 : decode cX8_odds 1 = .ok (.iconst 0, 1) := by decide +kernel
theorem dX8_odds_2 : decode cX8_odds 2 = .ok (.putfield 77, 3) := by decide +kernel
theorem dX8_odds_5 : decode cX8_odds 5 = .ok (.iload_n 2, 1) := by decide +kernel
theorem dX8_odds_6 : decode cX8_odds 6 = .ok (.i2l, 1) := by decide +kernel
theorem dX8_odds_7 : decode cX8_odds 7 = .ok (.lconst 1, 1) := by decide +kernel
theorem dX8_odds_8 : decode cX8_odds 8 = .ok (.ldc2_w 291, 3) := by decide +kernel
theorem dX8_odds_11 : decode cX8_odds 11 = .ok (.invokestatic 97, 3) := by decide +kernel
theorem dX8_odds_14 : decode cX8_odds 14 = .ok (.ifCond .eq 13, 3) := by decide +kernel
theorem dX8_odds_17 : decode cX8_odds 17 = .ok (.iload_n 3, 1) := by decide +kernel
theorem dX8_odds_18 : decode cX8_odds 18 = .ok (.i2l, 1) := by decide +kernel
theorem dX8_odds_19 : decode cX8_odds 19 = .ok (.lconst 0, 1) := by decide +kernel
theorem dX8_odds_20 : decode cX8_odds 20 = .ok (.lconst 1, 1) := by decide +kernel
theorem dX8_odds_21 : decode cX8_odds 21 = .ok (.invokestatic 97, 3) := by decide +kernel
theorem dX8_odds_24 : decode cX8_odds 24 = .ok (.ifCond .ne 7, 3) := by decide +kernel
theorem dX8_odds_27 : decode cX8_odds 27 = .ok (.ldc2_w 285, 3) := by decide +kernel
theorem dX8_odds_30 : decode cX8_odds 30 = .ok (.lreturn, 1) := by decide +kernel
theorem dX8_odds_31 : decode cX8_odds 31 = .ok (.iconst 0, 1) := by decide +kernel
theorem dX8_odds_32 : decode cX8_odds 32 = .ok (.istore 4, 2) := by decide +kernel
theorem dX8_odds_34 : decode cX8_odds 34 = .ok (.iconst 0, 1) := by decide +kernel
theorem dX8_odds_35 : decode cX8_odds 35 = .ok (.istore 5, 2) := by decide +kernel
theorem dX8_odds_37 : decode cX8_odds 37 = .ok (.iload 5, 2) := by decide +kernel
theorem dX8_odds_39 : decode cX8_odds 39 = .ok (.iload_n 2, 1) := by decide +kernel
theorem dX8_odds_40 : decode cX8_odds 40 = .ok (.if_icmp .ge 30, 3) := by decide +kernel
theorem dX8_odds_43 : decode cX8_odds 43 = .ok (.iload 4, 2) := by decide +kernel
theorem dX8_odds_45 : decode cX8_odds 45 = .ok (.aload_n 0, 1) := by decide +kernel
theorem dX8_odds_46 : decode cX8_odds 46 = .ok (.iload_n 1, 1) := by decide +kernel
theorem dX8_odds_47 : decode cX8_odds 47 = .ok (.iload 5, 2) := by decide +kernel
theorem dX8_odds_49 : decode cX8_odds 49 = .ok (.iadd, 1) := by decide +kernel
theorem dX8_odds_50 : decode cX8_odds 50 = .ok (.invokevirtual 288, 3) := by decide +kernel
theorem dX8_odds_53 : decode cX8_odds 53 = .ok (.ifCond .ne 7, 3) := by decide +kernel
theorem dX8_odds_56 : decode cX8_odds 56 = .ok (.iconst 1, 1) := by decide +kernel
theorem dX8_odds_57 : decode cX8_odds 57 = .ok (.goto 4, 3) := by decide +kernel
theorem dX8_odds_60 : decode cX8_odds 60 = .ok (.iconst 0, 1) := by decide +kernel
theorem dX8_odds_61 : decode cX8_odds 61 = .ok (.iadd, 1) := by decide +kernel
theorem dX8_odds_62 : decode cX8_odds 62 = .ok (.istore 4, 2) := by decide +kernel
theorem dX8_odds_64 : decode cX8_odds 64 = .ok (.iinc 5 1, 3) := by decide +kernel
theorem dX8_odds_67 : decode cX8_odds 67 = .ok (.goto (-30), 3) := by decide +kernel
theorem dX8_odds_70 : decode cX8_odds 70 = .ok (.iload 4, 2) := by decide +kernel
theorem dX8_odds_72 : decode cX8_odds 72 = .ok (.istore 5, 2) := by decide +kernel
theorem dX8_odds_74 : decode cX8_odds 74 = .ok (.iload_n 2, 1) := by decide +kernel
theorem dX8_odds_75 : decode cX8_odds 75 = .ok (.istore 6, 2) := by decide +kernel
theorem dX8_odds_77 : decode cX8_odds 77 = .ok (.iload 6, 2) := by decide +kernel
theorem dX8_odds_79 : decode cX8_odds 79 = .ok (.ifCond .eq 21, 3) := by decide +kernel
theorem dX8_odds_82 : decode cX8_odds 82 = .ok (.iload 5, 2) := by decide +kernel
theorem dX8_odds_84 : decode cX8_odds 84 = .ok (.iload 6, 2) := by decide +kernel
theorem dX8_odds_86 : decode cX8_odds 86 = .ok (.irem, 1) := by decide +kernel
theorem dX8_odds_87 : decode cX8_odds 87 = .ok (.istore 7, 2) := by decide +kernel
theorem dX8_odds_89 : decode cX8_odds 89 = .ok (.iload 6, 2) := by decide +kernel
theorem dX8_odds_91 : decode cX8_odds 91 = .ok (.istore 5, 2) := by decide +kernel
theorem dX8_odds_93 : decode cX8_odds 93 = .ok (.iload 7, 2) := by decide +kernel
theorem dX8_odds_95 : decode cX8_odds 95 = .ok (.istore 6, 2) := by decide +kernel
theorem dX8_odds_97 : decode cX8_odds 97 = .ok (.goto (-20), 3) := by decide +kernel
theorem dX8_odds_100 : decode cX8_odds 100 = .ok (.iload_n 3, 1) := by decide +kernel
theorem dX8_odds_101 : decode cX8_odds 101 = .ok (.ifCond .ne 12, 3) := by decide +kernel
theorem dX8_odds_104 : decode cX8_odds 104 = .ok (.iload 4, 2) := by decide +kernel
theorem dX8_odds_106 : decode cX8_odds 106 = .ok (.iload 5, 2) := by decide +kernel
theorem dX8_odds_108 : decode cX8_odds 108 = .ok (.idiv, 1) := by decide +kernel
theorem dX8_odds_109 : decode cX8_odds 109 = .ok (.i2l, 1) := by decide +kernel
theorem dX8_odds_110 : decode cX8_odds 110 = .ok (.goto 8, 3) := by decide +kernel
theorem dX8_odds_113 : decode cX8_odds 113 = .ok (.iload_n 2, 1) := by decide +kernel
theorem dX8_odds_114 : decode cX8_odds 114 = .ok (.iload 5, 2) := by decide +kernel
theorem dX8_odds_116 : decode cX8_odds 116 = .ok (.idiv, 1) := by decide +kernel
theorem dX8_odds_117 : decode cX8_odds 117 = .ok (.i2l, 1) := by decide +kernel
theorem dX8_odds_118 : decode cX8_odds 118 = .ok (.lreturn, 1) := by decide +kernel
theorem dX8_floor_0 : decode cX8_floor 0 = .ok (.aload_n 0, 1) := by decide +kernel
theorem dX8_floor_1 : decode cX8_floor 1 = .ok (.iconst 0, 1) := by decide +kernel
theorem dX8_floor_2 : decode cX8_floor 2 = .ok (.putfield 77, 3) := by decide +kernel
theorem dX8_floor_5 : decode cX8_floor 5 = .ok (.iload_n 1, 1) := by decide +kernel
theorem dX8_floor_6 : decode cX8_floor 6 = .ok (.i2l, 1) := by decide +kernel
theorem dX8_floor_7 : decode cX8_floor 7 = .ok (.lconst 0, 1) := by decide +kernel
theorem dX8_floor_8 : decode cX8_floor 8 = .ok (.ldc2_w 254, 3) := by decide +kernel
theorem dX8_floor_11 : decode cX8_floor 11 = .ok (.invokestatic 97, 3) := by decide +kernel
theorem dX8_floor_14 : decode cX8_floor 14 = .ok (.ifCond .eq 15, 3) := by decide +kernel
theorem dX8_floor_17 : decode cX8_floor 17 = .ok (.iload_n 2, 1) := by decide +kernel
theorem dX8_floor_18 : decode cX8_floor 18 = .ok (.i2l, 1) := by decide +kernel
theorem dX8_floor_19 : decode cX8_floor 19 = .ok (.lconst 0, 1) := by decide +kernel
theorem dX8_floor_20 : decode cX8_floor 20 = .ok (.ldc2_w 293, 3) := by decide +kernel
theorem dX8_floor_23 : decode cX8_floor 23 = .ok (.invokestatic 97, 3) := by decide +kernel
theorem dX8_floor_26 : decode cX8_floor 26 = .ok (.ifCond .ne 6, 3) := by decide +kernel
theorem dX8_floor_29 : decode cX8_floor 29 = .ok (.bipush (-2), 2) := by decide +kernel
theorem dX8_floor_31 : decode cX8_floor 31 = .ok (.ireturn, 1) := by decide +kernel
theorem dX8_floor_32 : decode cX8_floor 32 = .ok (.aload_n 0, 1) := by decide +kernel
theorem dX8_floor_33 : decode cX8_floor 33 = .ok (.getfield 7, 3) := by decide +kernel
theorem dX8_floor_36 : decode cX8_floor 36 = .ok (.iload_n 1, 1) := by decide +kernel
theorem dX8_floor_37 : decode cX8_floor 37 = .ok (.iaload, 1) := by decide +kernel
theorem dX8_floor_38 : decode cX8_floor 38 = .ok (.istore_n 3, 1) := by decide +kernel
theorem dX8_floor_39 : decode cX8_floor 39 = .ok (.aload_n 0, 1) := by decide +kernel
theorem dX8_floor_40 : decode cX8_floor 40 = .ok (.getfield 7, 3) := by decide +kernel
theorem dX8_floor_43 : decode cX8_floor 43 = .ok (.iload_n 1, 1) := by decide +kernel
theorem dX8_floor_44 : decode cX8_floor 44 = .ok (.iload_n 2, 1) := by decide +kernel
theorem dX8_floor_45 : decode cX8_floor 45 = .ok (.iastore, 1) := by decide +kernel
theorem dX8_floor_46 : decode cX8_floor 46 = .ok (.iload_n 3, 1) := by decide +kernel
theorem dX8_floor_47 : decode cX8_floor 47 = .ok (.ireturn, 1) := by decide +kernel
theorem dX8_wave_0 : decode cX8_wave 0 = .ok (.aload_n 0, 1) := by decide +kernel
theorem dX8_wave_1 : decode cX8_wave 1 = .ok (.iconst 0, 1) := by decide +kernel
theorem dX8_wave_2 : decode cX8_wave 2 = .ok (.putfield 77, 3) := by decide +kernel
theorem dX8_wave_5 : decode cX8_wave 5 = .ok (.iload_n 1, 1) := by decide +kernel
theorem dX8_wave_6 : decode cX8_wave 6 = .ok (.i2l, 1) := by decide +kernel
theorem dX8_wave_7 : decode cX8_wave 7 = .ok (.lconst 0, 1) := by decide +kernel
theorem dX8_wave_8 : decode cX8_wave 8 = .ok (.ldc2_w 293, 3) := by decide +kernel
theorem dX8_wave_11 : decode cX8_wave 11 = .ok (.invokestatic 97, 3) := by decide +kernel
theorem dX8_wave_14 : decode cX8_wave 14 = .ok (.ifCond .eq 27, 3) := by decide +kernel
theorem dX8_wave_17 : decode cX8_wave 17 = .ok (.iload_n 2, 1) := by decide +kernel
theorem dX8_wave_18 : decode cX8_wave 18 = .ok (.i2l, 1) := by decide +kernel
theorem dX8_wave_19 : decode cX8_wave 19 = .ok (.lconst 0, 1) := by decide +kernel
theorem dX8_wave_20 : decode cX8_wave 20 = .ok (.ldc2_w 293, 3) := by decide +kernel
theorem dX8_wave_23 : decode cX8_wave 23 = .ok (.invokestatic 97, 3) := by decide +kernel
theorem dX8_wave_26 : decode cX8_wave 26 = .ok (.ifCond .eq 15, 3) := by decide +kernel
theorem dX8_wave_29 : decode cX8_wave 29 = .ok (.iload_n 3, 1) := by decide +kernel
theorem dX8_wave_30 : decode cX8_wave 30 = .ok (.i2l, 1) := by decide +kernel
theorem dX8_wave_31 : decode cX8_wave 31 = .ok (.lconst 0, 1) := by decide +kernel
theorem dX8_wave_32 : decode cX8_wave 32 = .ok (.ldc2_w 293, 3) := by decide +kernel
theorem dX8_wave_35 : decode cX8_wave 35 = .ok (.invokestatic 97, 3) := by decide +kernel
theorem dX8_wave_38 : decode cX8_wave 38 = .ok (.ifCond .ne 6, 3) := by decide +kernel
theorem dX8_wave_41 : decode cX8_wave 41 = .ok (.bipush (-2), 2) := by decide +kernel
theorem dX8_wave_43 : decode cX8_wave 43 = .ok (.ireturn, 1) := by decide +kernel
theorem dX8_wave_44 : decode cX8_wave 44 = .ok (.iconst 0, 1) := by decide +kernel
theorem dX8_wave_45 : decode cX8_wave 45 = .ok (.istore 4, 2) := by decide +kernel
theorem dX8_wave_47 : decode cX8_wave 47 = .ok (.iconst 0, 1) := by decide +kernel
theorem dX8_wave_48 : decode cX8_wave 48 = .ok (.istore 5, 2) := by decide +kernel
theorem dX8_wave_50 : decode cX8_wave 50 = .ok (.iload 5, 2) := by decide +kernel
theorem dX8_wave_52 : decode cX8_wave 52 = .ok (.bipush 64, 2) := by decide +kernel
theorem dX8_wave_54 : decode cX8_wave 54 = .ok (.if_icmp .ge 60, 3) := by decide +kernel
theorem dX8_wave_57 : decode cX8_wave 57 = .ok (.aload_n 0, 1) := by decide +kernel
theorem dX8_wave_58 : decode cX8_wave 58 = .ok (.getfield 7, 3) := by decide +kernel
theorem dX8_wave_61 : decode cX8_wave 61 = .ok (.iload 5, 2) := by decide +kernel
theorem dX8_wave_63 : decode cX8_wave 63 = .ok (.iload 5, 2) := by decide +kernel
theorem dX8_wave_65 : decode cX8_wave 65 = .ok (.bipush 8, 2) := by decide +kernel
theorem dX8_wave_67 : decode cX8_wave 67 = .ok (.idiv, 1) := by decide +kernel
theorem dX8_wave_68 : decode cX8_wave 68 = .ok (.iload_n 1, 1) := by decide +kernel
theorem dX8_wave_69 : decode cX8_wave 69 = .ok (.imul, 1) := by decide +kernel
theorem dX8_wave_70 : decode cX8_wave 70 = .ok (.iload 5, 2) := by decide +kernel
theorem dX8_wave_72 : decode cX8_wave 72 = .ok (.bipush 8, 2) := by decide +kernel
theorem dX8_wave_74 : decode cX8_wave 74 = .ok (.irem, 1) := by decide +kernel
theorem dX8_wave_75 : decode cX8_wave 75 = .ok (.iload_n 2, 1) := by decide +kernel
theorem dX8_wave_76 : decode cX8_wave 76 = .ok (.imul, 1) := by decide +kernel
theorem dX8_wave_77 : decode cX8_wave 77 = .ok (.iadd, 1) := by decide +kernel
theorem dX8_wave_78 : decode cX8_wave 78 = .ok (.iload 5, 2) := by decide +kernel
theorem dX8_wave_80 : decode cX8_wave 80 = .ok (.bipush 8, 2) := by decide +kernel
theorem dX8_wave_82 : decode cX8_wave 82 = .ok (.idiv, 1) := by decide +kernel
theorem dX8_wave_83 : decode cX8_wave 83 = .ok (.iload 5, 2) := by decide +kernel
theorem dX8_wave_85 : decode cX8_wave 85 = .ok (.bipush 8, 2) := by decide +kernel
theorem dX8_wave_87 : decode cX8_wave 87 = .ok (.irem, 1) := by decide +kernel
theorem dX8_wave_88 : decode cX8_wave 88 = .ok (.imul, 1) := by decide +kernel
theorem dX8_wave_89 : decode cX8_wave 89 = .ok (.iload_n 3, 1) := by decide +kernel
theorem dX8_wave_90 : decode cX8_wave 90 = .ok (.imul, 1) := by decide +kernel
theorem dX8_wave_91 : decode cX8_wave 91 = .ok (.iadd, 1) := by decide +kernel
theorem dX8_wave_92 : decode cX8_wave 92 = .ok (.bipush 100, 2) := by decide +kernel
theorem dX8_wave_94 : decode cX8_wave 94 = .ok (.irem, 1) := by decide +kernel
theorem dX8_wave_95 : decode cX8_wave 95 = .ok (.iastore, 1) := by decide +kernel
theorem dX8_wave_96 : decode cX8_wave 96 = .ok (.iload 4, 2) := by decide +kernel
theorem dX8_wave_98 : decode cX8_wave 98 = .ok (.aload_n 0, 1) := by decide +kernel
theorem dX8_wave_99 : decode cX8_wave 99 = .ok (.getfield 7, 3) := by decide +kernel
theorem dX8_wave_102 : decode cX8_wave 102 = .ok (.iload 5, 2) := by decide +kernel
theorem dX8_wave_104 : decode cX8_wave 104 = .ok (.iaload, 1) := by decide +kernel
theorem dX8_wave_105 : decode cX8_wave 105 = .ok (.iadd, 1) := by decide +kernel
theorem dX8_wave_106 : decode cX8_wave 106 = .ok (.istore 4, 2) := by decide +kernel
theorem dX8_wave_108 : decode cX8_wave 108 = .ok (.iinc 5 1, 3) := by decide +kernel
theorem dX8_wave_111 : decode cX8_wave 111 = .ok (.goto (-61), 3) := by decide +kernel
theorem dX8_wave_114 : decode cX8_wave 114 = .ok (.iload 4, 2) := by decide +kernel
theorem dX8_wave_116 : decode cX8_wave 116 = .ok (.ireturn, 1) := by decide +kernel
theorem dX8_leg_0 : decode cX8_leg 0 = .ok (.aload_n 0, 1) := by decide +kernel
theorem dX8_leg_1 : decode cX8_leg 1 = .ok (.iconst 0, 1) := by decide +kernel
theorem dX8_leg_2 : decode cX8_leg 2 = .ok (.putfield 77, 3) := by decide +kernel
theorem dX8_leg_5 : decode cX8_leg 5 = .ok (.iload_n 1, 1) := by decide +kernel
theorem dX8_leg_6 : decode cX8_leg 6 = .ok (.i2l, 1) := by decide +kernel
theorem dX8_leg_7 : decode cX8_leg 7 = .ok (.lconst 0, 1) := by decide +kernel
theorem dX8_leg_8 : decode cX8_leg 8 = .ok (.ldc2_w 280, 3) := by decide +kernel
theorem dX8_leg_11 : decode cX8_leg 11 = .ok (.invokestatic 97, 3) := by decide +kernel
theorem dX8_leg_14 : decode cX8_leg 14 = .ok (.ifCond .eq 27, 3) := by decide +kernel
theorem dX8_leg_17 : decode cX8_leg 17 = .ok (.iload_n 2, 1) := by decide +kernel
theorem dX8_leg_18 : decode cX8_leg 18 = .ok (.i2l, 1) := by decide +kernel
theorem dX8_leg_19 : decode cX8_leg 19 = .ok (.lconst 0, 1) := by decide +kernel
theorem dX8_leg_20 : decode cX8_leg 20 = .ok (.ldc2_w 245, 3) := by decide +kernel
theorem dX8_leg_23 : decode cX8_leg 23 = .ok (.invokestatic 97, 3) := by decide +kernel
theorem dX8_leg_26 : decode cX8_leg 26 = .ok (.ifCond .eq 15, 3) := by decide +kernel
theorem dX8_leg_29 : decode cX8_leg 29 = .ok (.iload_n 3, 1) := by decide +kernel
theorem dX8_leg_30 : decode cX8_leg 30 = .ok (.i2l, 1) := by decide +kernel
theorem dX8_leg_31 : decode cX8_leg 31 = .ok (.lconst 0, 1) := by decide +kernel
theorem dX8_leg_32 : decode cX8_leg 32 = .ok (.ldc2_w 272, 3) := by decide +kernel
theorem dX8_leg_35 : decode cX8_leg 35 = .ok (.invokestatic 97, 3) := by decide +kernel
theorem dX8_leg_38 : decode cX8_leg 38 = .ok (.ifCond .ne 6, 3) := by decide +kernel
theorem dX8_leg_41 : decode cX8_leg 41 = .ok (.bipush (-2), 2) := by decide +kernel
theorem dX8_leg_43 : decode cX8_leg 43 = .ok (.ireturn, 1) := by decide +kernel
theorem dX8_leg_44 : decode cX8_leg 44 = .ok (.aload_n 0, 1) := by decide +kernel
theorem dX8_leg_45 : decode cX8_leg 45 = .ok (.getfield 13, 3) := by decide +kernel
theorem dX8_leg_48 : decode cX8_leg 48 = .ok (.iload_n 1, 1) := by decide +kernel
theorem dX8_leg_49 : decode cX8_leg 49 = .ok (.iaload, 1) := by decide +kernel
theorem dX8_leg_50 : decode cX8_leg 50 = .ok (.istore 4, 2) := by decide +kernel
theorem dX8_leg_52 : decode cX8_leg 52 = .ok (.aload_n 0, 1) := by decide +kernel
theorem dX8_leg_53 : decode cX8_leg 53 = .ok (.getfield 13, 3) := by decide +kernel
theorem dX8_leg_56 : decode cX8_leg 56 = .ok (.iload_n 1, 1) := by decide +kernel
theorem dX8_leg_57 : decode cX8_leg 57 = .ok (.iload_n 2, 1) := by decide +kernel
theorem dX8_leg_58 : decode cX8_leg 58 = .ok (.iastore, 1) := by decide +kernel
theorem dX8_leg_59 : decode cX8_leg 59 = .ok (.aload_n 0, 1) := by decide +kernel
theorem dX8_leg_60 : decode cX8_leg 60 = .ok (.getfield 19, 3) := by decide +kernel
theorem dX8_leg_63 : decode cX8_leg 63 = .ok (.iload_n 1, 1) := by decide +kernel
theorem dX8_leg_64 : decode cX8_leg 64 = .ok (.iload_n 3, 1) := by decide +kernel
theorem dX8_leg_65 : decode cX8_leg 65 = .ok (.iastore, 1) := by decide +kernel
theorem dX8_leg_66 : decode cX8_leg 66 = .ok (.iload 4, 2) := by decide +kernel
theorem dX8_leg_68 : decode cX8_leg 68 = .ok (.ireturn, 1) := by decide +kernel
theorem dX8_became_0 : decode cX8_became 0 = .ok (.iload_n 1, 1) := by decide +kernel
theorem dX8_became_1 : decode cX8_became 1 = .ok (.ifCond .ne 12, 3) := by decide +kernel
theorem dX8_became_4 : decode cX8_became 4 = .ok (.aload_n 0, 1) := by decide +kernel
theorem dX8_became_5 : decode cX8_became 5 = .ok (.getfield 16, 3) := by decide +kernel
theorem dX8_became_8 : decode cX8_became 8 = .ok (.iload_n 2, 1) := by decide +kernel
theorem dX8_became_9 : decode cX8_became 9 = .ok (.iaload, 1) := by decide +kernel
theorem dX8_became_10 : decode cX8_became 10 = .ok (.goto 57, 3) := by decide +kernel
theorem dX8_became_13 : decode cX8_became 13 = .ok (.iload_n 1, 1) := by decide +kernel
theorem dX8_became_14 : decode cX8_became 14 = .ok (.iconst 1, 1) := by decide +kernel
theorem dX8_became_15 : decode cX8_became 15 = .ok (.if_icmp .ne 12, 3) := by decide +kernel
theorem dX8_became_18 : decode cX8_became 18 = .ok (.aload_n 0, 1) := by decide +kernel
theorem dX8_became_19 : decode cX8_became 19 = .ok (.getfield 19, 3) := by decide +kernel
theorem dX8_became_22 : decode cX8_became 22 = .ok (.iload_n 2, 1) := by decide +kernel
theorem dX8_became_23 : decode cX8_became 23 = .ok (.iaload, 1) := by decide +kernel
theorem dX8_became_24 : decode cX8_became 24 = .ok (.goto 43, 3) := by decide +kernel
theorem dX8_became_27 : decode cX8_became 27 = .ok (.iload_n 1, 1) := by decide +kernel
theorem dX8_became_28 : decode cX8_became 28 = .ok (.iconst 2, 1) := by decide +kernel
theorem dX8_became_29 : decode cX8_became 29 = .ok (.if_icmp .ne 10, 3) := by decide +kernel
theorem dX8_became_32 : decode cX8_became 32 = .ok (.aload_n 0, 1) := by decide +kernel
theorem dX8_became_33 : decode cX8_became 33 = .ok (.getfield 22, 3) := by decide +kernel
theorem dX8_became_36 : decode cX8_became 36 = .ok (.goto 31, 3) := by decide +kernel
theorem dX8_became_39 : decode cX8_became 39 = .ok (.iload_n 1, 1) := by decide +kernel
theorem dX8_became_40 : decode cX8_became 40 = .ok (.iconst 3, 1) := by decide +kernel
theorem dX8_became_41 : decode cX8_became 41 = .ok (.if_icmp .ne 10, 3) := by decide +kernel
theorem dX8_became_44 : decode cX8_became 44 = .ok (.aload_n 0, 1) := by decide +kernel
theorem dX8_became_45 : decode cX8_became 45 = .ok (.getfield 26, 3) := by decide +kernel
theorem dX8_became_48 : decode cX8_became 48 = .ok (.goto 19, 3) := by decide +kernel
theorem dX8_became_51 : decode cX8_became 51 = .ok (.iload_n 1, 1) := by decide +kernel
theorem dX8_became_52 : decode cX8_became 52 = .ok (.iconst 4, 1) := by decide +kernel
theorem dX8_became_53 : decode cX8_became 53 = .ok (.if_icmp .ne 10, 3) := by decide +kernel
theorem dX8_became_56 : decode cX8_became 56 = .ok (.aload_n 0, 1) := by decide +kernel
theorem dX8_became_57 : decode cX8_became 57 = .ok (.getfield 238, 3) := by decide +kernel
theorem dX8_became_60 : decode cX8_became 60 = .ok (.goto 7, 3) := by decide +kernel
theorem dX8_became_63 : decode cX8_became 63 = .ok (.aload_n 0, 1) := by decide +kernel
theorem dX8_became_64 : decode cX8_became 64 = .ok (.getfield 204, 3) := by decide +kernel
theorem dX8_became_67 : decode cX8_became 67 = .ok (.istore 4, 2) := by decide +kernel
theorem dX8_became_69 : decode cX8_became 69 = .ok (.iload_n 1, 1) := by decide +kernel
theorem dX8_became_70 : decode cX8_became 70 = .ok (.ifCond .ne 10, 3) := by decide +kernel
theorem dX8_became_73 : decode cX8_became 73 = .ok (.aload_n 0, 1) := by decide +kernel
theorem dX8_became_74 : decode cX8_became 74 = .ok (.getfield 16, 3) := by decide +kernel
theorem dX8_became_77 : decode cX8_became 77 = .ok (.iload_n 2, 1) := by decide +kernel
theorem dX8_became_78 : decode cX8_became 78 = .ok (.iload_n 3, 1) := by decide +kernel
theorem dX8_became_79 : decode cX8_became 79 = .ok (.iastore, 1) := by decide +kernel
theorem dX8_became_80 : decode cX8_became 80 = .ok (.iload_n 1, 1) := by decide +kernel
theorem dX8_became_81 : decode cX8_became 81 = .ok (.iconst 1, 1) := by decide +kernel
theorem dX8_became_82 : decode cX8_became 82 = .ok (.if_icmp .ne 10, 3) := by decide +kernel
theorem dX8_became_85 : decode cX8_became 85 = .ok (.aload_n 0, 1) := by decide +kernel
theorem dX8_became_86 : decode cX8_became 86 = .ok (.getfield 19, 3) := by decide +kernel
theorem dX8_became_89 : decode cX8_became 89 = .ok (.iload_n 2, 1) := by decide +kernel
theorem dX8_became_90 : decode cX8_became 90 = .ok (.iload_n 3, 1) := by decide +kernel
theorem dX8_became_91 : decode cX8_became 91 = .ok (.iastore, 1) := by decide +kernel
theorem dX8_became_92 : decode cX8_became 92 = .ok (.aload_n 0, 1) := by decide +kernel
theorem dX8_became_93 : decode cX8_became 93 = .ok (.iload_n 1, 1) := by decide +kernel
theorem dX8_became_94 : decode cX8_became 94 = .ok (.iconst 2, 1) := by decide +kernel
theorem dX8_became_95 : decode cX8_became 95 = .ok (.if_icmp .ne 7, 3) := by decide +kernel
theorem dX8_became_98 : decode cX8_became 98 = .ok (.iload_n 3, 1) := by decide +kernel
theorem dX8_became_99 : decode cX8_became 99 = .ok (.goto 7, 3) := by decide +kernel
theorem dX8_became_102 : decode cX8_became 102 = .ok (.aload_n 0, 1) := by decide +kernel
theorem dX8_became_103 : decode cX8_became 103 = .ok (.getfield 22, 3) := by decide +kernel
theorem dX8_became_106 : decode cX8_became 106 = .ok (.putfield 22, 3) := by decide +kernel
theorem dX8_became_109 : decode cX8_became 109 = .ok (.aload_n 0, 1) := by decide +kernel
theorem dX8_became_110 : decode cX8_became 110 = .ok (.iload_n 1, 1) := by decide +kernel
theorem dX8_became_111 : decode cX8_became 111 = .ok (.iconst 3, 1) := by decide +kernel
theorem dX8_became_112 : decode cX8_became 112 = .ok (.if_icmp .ne 7, 3) := by decide +kernel
theorem dX8_became_115 : decode cX8_became 115 = .ok (.iload_n 3, 1) := by decide +kernel
theorem dX8_became_116 : decode cX8_became 116 = .ok (.goto 7, 3) := by decide +kernel
theorem dX8_became_119 : decode cX8_became 119 = .ok (.aload_n 0, 1) := by decide +kernel
theorem dX8_became_120 : decode cX8_became 120 = .ok (.getfield 26, 3) := by decide +kernel
theorem dX8_became_123 : decode cX8_became 123 = .ok (.putfield 26, 3) := by decide +kernel
theorem dX8_became_126 : decode cX8_became 126 = .ok (.aload_n 0, 1) := by decide +kernel
theorem dX8_became_127 : decode cX8_became 127 = .ok (.iload_n 1, 1) := by decide +kernel
theorem dX8_became_128 : decode cX8_became 128 = .ok (.iconst 4, 1) := by decide +kernel
theorem dX8_became_129 : decode cX8_became 129 = .ok (.if_icmp .ne 7, 3) := by decide +kernel
theorem dX8_became_132 : decode cX8_became 132 = .ok (.iload_n 3, 1) := by decide +kernel
theorem dX8_became_133 : decode cX8_became 133 = .ok (.goto 7, 3) := by decide +kernel
theorem dX8_became_136 : decode cX8_became 136 = .ok (.aload_n 0, 1) := by decide +kernel
theorem dX8_became_137 : decode cX8_became 137 = .ok (.getfield 238, 3) := by decide +kernel
theorem dX8_became_140 : decode cX8_became 140 = .ok (.putfield 238, 3) := by decide +kernel
theorem dX8_became_143 : decode cX8_became 143 = .ok (.aload_n 0, 1) := by decide +kernel
theorem dX8_became_144 : decode cX8_became 144 = .ok (.iload_n 1, 1) := by decide +kernel
theorem dX8_became_145 : decode cX8_became 145 = .ok (.iconst 5, 1) := by decide +kernel
theorem dX8_became_146 : decode cX8_became 146 = .ok (.if_icmp .ne 7, 3) := by decide +kernel
theorem dX8_became_149 : decode cX8_became 149 = .ok (.iload_n 3, 1) := by decide +kernel
theorem dX8_became_150 : decode cX8_became 150 = .ok (.goto 7, 3) := by decide +kernel
theorem dX8_became_153 : decode cX8_became 153 = .ok (.aload_n 0, 1) := by decide +kernel
theorem dX8_became_154 : decode cX8_became 154 = .ok (.getfield 204, 3) := by decide +kernel
theorem dX8_became_157 : decode cX8_became 157 = .ok (.putfield 204, 3) := by decide +kernel
theorem dX8_became_160 : decode cX8_became 160 = .ok (.iload 4, 2) := by decide +kernel
theorem dX8_became_162 : decode cX8_became 162 = .ok (.ireturn, 1) := by decide +kernel
theorem dX8_set_0 : decode cX8_set 0 = .ok (.aload_n 0, 1) := by decide +kernel
theorem dX8_set_1 : decode cX8_set 1 = .ok (.iconst 0, 1) := by decide +kernel
theorem dX8_set_2 : decode cX8_set 2 = .ok (.putfield 77, 3) := by decide +kernel
theorem dX8_set_5 : decode cX8_set 5 = .ok (.iload_n 1, 1) := by decide +kernel
theorem dX8_set_6 : decode cX8_set 6 = .ok (.ifCond .ne 8, 3) := by decide +kernel
theorem dX8_set_9 : decode cX8_set 9 = .ok (.bipush 99, 2) := by decide +kernel
theorem dX8_set_11 : decode cX8_set 11 = .ok (.goto 39, 3) := by decide +kernel
theorem dX8_set_14 : decode cX8_set 14 = .ok (.iload_n 1, 1) := by decide +kernel
theorem dX8_set_15 : decode cX8_set 15 = .ok (.iconst 1, 1) := by decide +kernel
theorem dX8_set_16 : decode cX8_set 16 = .ok (.if_icmp .eq 8, 3) := by decide +kernel
theorem dX8_set_19 : decode cX8_set 19 = .ok (.iload_n 1, 1) := by decide +kernel
theorem dX8_set_20 : decode cX8_set 20 = .ok (.iconst 5, 1) := by decide +kernel
theorem dX8_set_21 : decode cX8_set 21 = .ok (.if_icmp .ne 8, 3) := by decide +kernel
theorem dX8_set_24 : decode cX8_set 24 = .ok (.bipush 9, 2) := by decide +kernel
theorem dX8_set_26 : decode cX8_set 26 = .ok (.goto 24, 3) := by decide +kernel
theorem dX8_set_29 : decode cX8_set 29 = .ok (.iload_n 1, 1) := by decide +kernel
theorem dX8_set_30 : decode cX8_set 30 = .ok (.iconst 2, 1) := by decide +kernel
theorem dX8_set_31 : decode cX8_set 31 = .ok (.if_icmp .ne 8, 3) := by decide +kernel
theorem dX8_set_34 : decode cX8_set 34 = .ok (.bipush 63, 2) := by decide +kernel
theorem dX8_set_36 : decode cX8_set 36 = .ok (.goto 14, 3) := by decide +kernel
theorem dX8_set_39 : decode cX8_set 39 = .ok (.iload_n 1, 1) := by decide +kernel
theorem dX8_set_40 : decode cX8_set 40 = .ok (.iconst 3, 1) := by decide +kernel
theorem dX8_set_41 : decode cX8_set 41 = .ok (.if_icmp .ne 7, 3) := by decide +kernel
theorem dX8_set_44 : decode cX8_set 44 = .ok (.iconst 3, 1) := by decide +kernel
theorem dX8_set_45 : decode cX8_set 45 = .ok (.goto 5, 3) := by decide +kernel
theorem dX8_set_48 : decode cX8_set 48 = .ok (.bipush 7, 2) := by decide +kernel
theorem dX8_set_50 : decode cX8_set 50 = .ok (.istore 4, 2) := by decide +kernel
theorem dX8_set_52 : decode cX8_set 52 = .ok (.iload_n 1, 1) := by decide +kernel
theorem dX8_set_53 : decode cX8_set 53 = .ok (.i2l, 1) := by decide +kernel
theorem dX8_set_54 : decode cX8_set 54 = .ok (.lconst 0, 1) := by decide +kernel
theorem dX8_set_55 : decode cX8_set 55 = .ok (.ldc2_w 245, 3) := by decide +kernel
theorem dX8_set_58 : decode cX8_set 58 = .ok (.invokestatic 97, 3) := by decide +kernel
theorem dX8_set_61 : decode cX8_set 61 = .ok (.ifCond .eq 45, 3) := by decide +kernel
theorem dX8_set_64 : decode cX8_set 64 = .ok (.iload_n 3, 1) := by decide +kernel
theorem dX8_set_65 : decode cX8_set 65 = .ok (.i2l, 1) := by decide +kernel
theorem dX8_set_66 : decode cX8_set 66 = .ok (.iload_n 1, 1) := by decide +kernel
theorem dX8_set_67 : decode cX8_set 67 = .ok (.iconst 3, 1) := by decide +kernel
theorem dX8_set_68 : decode cX8_set 68 = .ok (.if_icmp .ne 7, 3) := by decide +kernel
theorem dX8_set_71 : decode cX8_set 71 = .ok (.lconst 1, 1) := by decide +kernel
theorem dX8_set_72 : decode cX8_set 72 = .ok (.goto 4, 3) := by decide +kernel
theorem dX8_set_75 : decode cX8_set 75 = .ok (.lconst 0, 1) := by decide +kernel
theorem dX8_set_76 : decode cX8_set 76 = .ok (.iload 4, 2) := by decide +kernel
theorem dX8_set_78 : decode cX8_set 78 = .ok (.i2l, 1) := by decide +kernel
theorem dX8_set_79 : decode cX8_set 79 = .ok (.invokestatic 97, 3) := by decide +kernel
theorem dX8_set_82 : decode cX8_set 82 = .ok (.ifCond .eq 24, 3) := by decide +kernel
theorem dX8_set_85 : decode cX8_set 85 = .ok (.iload_n 1, 1) := by decide +kernel
theorem dX8_set_86 : decode cX8_set 86 = .ok (.iconst 1, 1) := by decide +kernel
theorem dX8_set_87 : decode cX8_set 87 = .ok (.if_icmp .gt 15, 3) := by decide +kernel
theorem dX8_set_90 : decode cX8_set 90 = .ok (.iload_n 2, 1) := by decide +kernel
theorem dX8_set_91 : decode cX8_set 91 = .ok (.i2l, 1) := by decide +kernel
theorem dX8_set_92 : decode cX8_set 92 = .ok (.lconst 0, 1) := by decide +kernel
theorem dX8_set_93 : decode cX8_set 93 = .ok (.ldc2_w 280, 3) := by decide +kernel
theorem dX8_set_96 : decode cX8_set 96 = .ok (.invokestatic 97, 3) := by decide +kernel
theorem dX8_set_99 : decode cX8_set 99 = .ok (.ifCond .eq 7, 3) := by decide +kernel
theorem dX8_set_102 : decode cX8_set 102 = .ok (.iconst 1, 1) := by decide +kernel
theorem dX8_set_103 : decode cX8_set 103 = .ok (.goto 4, 3) := by decide +kernel
theorem dX8_set_106 : decode cX8_set 106 = .ok (.iconst 0, 1) := by decide +kernel
theorem dX8_set_107 : decode cX8_set 107 = .ok (.istore 5, 2) := by decide +kernel
theorem dX8_set_109 : decode cX8_set 109 = .ok (.iload 5, 2) := by decide +kernel
theorem dX8_set_111 : decode cX8_set 111 = .ok (.ifCond .eq 13, 3) := by decide +kernel
theorem dX8_set_114 : decode cX8_set 114 = .ok (.aload_n 0, 1) := by decide +kernel
theorem dX8_set_115 : decode cX8_set 115 = .ok (.iload_n 1, 1) := by decide +kernel
theorem dX8_set_116 : decode cX8_set 116 = .ok (.iload_n 2, 1) := by decide +kernel
theorem dX8_set_117 : decode cX8_set 117 = .ok (.iload_n 3, 1) := by decide +kernel
theorem dX8_set_118 : decode cX8_set 118 = .ok (.invokevirtual 295, 3) := by decide +kernel
theorem dX8_set_121 : decode cX8_set 121 = .ok (.goto 5, 3) := by decide +kernel
theorem dX8_set_124 : decode cX8_set 124 = .ok (.bipush (-2), 2) := by decide +kernel
theorem dX8_set_126 : decode cX8_set 126 = .ok (.ireturn, 1) := by decide +kernel
theorem dX8_told_0 : decode cX8_told 0 = .ok (.aload_n 0, 1) := by decide +kernel
theorem dX8_told_1 : decode cX8_told 1 = .ok (.iconst 0, 1) := by decide +kernel
theorem dX8_told_2 : decode cX8_told 2 = .ok (.putfield 77, 3) := by decide +kernel
theorem dX8_told_5 : decode cX8_told 5 = .ok (.iload_n 2, 1) := by decide +kernel
theorem dX8_told_6 : decode cX8_told 6 = .ok (.i2l, 1) := by decide +kernel
theorem dX8_told_7 : decode cX8_told 7 = .ok (.lconst 0, 1) := by decide +kernel
theorem dX8_told_8 : decode cX8_told 8 = .ok (.ldc2_w 298, 3) := by decide +kernel
theorem dX8_told_11 : decode cX8_told 11 = .ok (.invokestatic 97, 3) := by decide +kernel
theorem dX8_told_14 : decode cX8_told 14 = .ok (.ifCond .eq 27, 3) := by decide +kernel
theorem dX8_told_17 : decode cX8_told 17 = .ok (.iload_n 1, 1) := by decide +kernel
theorem dX8_told_18 : decode cX8_told 18 = .ok (.i2l, 1) := by decide +kernel
theorem dX8_told_19 : decode cX8_told 19 = .ok (.lconst 0, 1) := by decide +kernel
theorem dX8_told_20 : decode cX8_told 20 = .ok (.iload_n 2, 1) := by decide +kernel
theorem dX8_told_21 : decode cX8_told 21 = .ok (.bipush 6, 2) := by decide +kernel
theorem dX8_told_23 : decode cX8_told 23 = .ok (.if_icmp .ne 9, 3) := by decide +kernel
theorem dX8_told_26 : decode cX8_told 26 = .ok (.ldc2_w 254, 3) := by decide +kernel
theorem dX8_told_29 : decode cX8_told 29 = .ok (.goto 6, 3) := by decide +kernel
theorem dX8_told_32 : decode cX8_told 32 = .ok (.ldc2_w 280, 3) := by decide +kernel
theorem dX8_told_35 : decode cX8_told 35 = .ok (.invokestatic 97, 3) := by decide +kernel
theorem dX8_told_38 : decode cX8_told 38 = .ok (.ifCond .ne 6, 3) := by decide +kernel
theorem dX8_told_41 : decode cX8_told 41 = .ok (.bipush (-2), 2) := by decide +kernel
theorem dX8_told_43 : decode cX8_told 43 = .ok (.ireturn, 1) := by decide +kernel
theorem dX8_told_44 : decode cX8_told 44 = .ok (.iload_n 2, 1) := by decide +kernel
theorem dX8_told_45 : decode cX8_told 45 = .ok (.tableswitch 113 0 5 #[39, 46, 53, 60, 70, 84], 39) := by decide +kernel
theorem dX8_told_84 : decode cX8_told 84 = .ok (.aload_n 0, 1) := by decide +kernel
theorem dX8_told_85 : decode cX8_told 85 = .ok (.getfield 13, 3) := by decide +kernel
theorem dX8_told_88 : decode cX8_told 88 = .ok (.iload_n 1, 1) := by decide +kernel
theorem dX8_told_89 : decode cX8_told 89 = .ok (.iaload, 1) := by decide +kernel
theorem dX8_told_90 : decode cX8_told 90 = .ok (.ireturn, 1) := by decide +kernel
theorem dX8_told_91 : decode cX8_told 91 = .ok (.aload_n 0, 1) := by decide +kernel
theorem dX8_told_92 : decode cX8_told 92 = .ok (.getfield 16, 3) := by decide +kernel
theorem dX8_told_95 : decode cX8_told 95 = .ok (.iload_n 1, 1) := by decide +kernel
theorem dX8_told_96 : decode cX8_told 96 = .ok (.iaload, 1) := by decide +kernel
theorem dX8_told_97 : decode cX8_told 97 = .ok (.ireturn, 1) := by decide +kernel
theorem dX8_told_98 : decode cX8_told 98 = .ok (.aload_n 0, 1) := by decide +kernel
theorem dX8_told_99 : decode cX8_told 99 = .ok (.getfield 19, 3) := by decide +kernel
theorem dX8_told_102 : decode cX8_told 102 = .ok (.iload_n 1, 1) := by decide +kernel
theorem dX8_told_103 : decode cX8_told 103 = .ok (.iaload, 1) := by decide +kernel
theorem dX8_told_104 : decode cX8_told 104 = .ok (.ireturn, 1) := by decide +kernel
theorem dX8_told_105 : decode cX8_told 105 = .ok (.aload_n 0, 1) := by decide +kernel
theorem dX8_told_106 : decode cX8_told 106 = .ok (.iload_n 1, 1) := by decide +kernel
theorem dX8_told_107 : decode cX8_told 107 = .ok (.aload_n 0, 1) := by decide +kernel
theorem dX8_told_108 : decode cX8_told 108 = .ok (.getfield 204, 3) := by decide +kernel
theorem dX8_told_111 : decode cX8_told 111 = .ok (.invokevirtual 207, 3) := by decide +kernel
theorem dX8_told_114 : decode cX8_told 114 = .ok (.ireturn, 1) := by decide +kernel
theorem dX8_told_115 : decode cX8_told 115 = .ok (.aload_n 0, 1) := by decide +kernel
theorem dX8_told_116 : decode cX8_told 116 = .ok (.iload_n 1, 1) := by decide +kernel
theorem dX8_told_117 : decode cX8_told 117 = .ok (.aload_n 0, 1) := by decide +kernel
theorem dX8_told_118 : decode cX8_told 118 = .ok (.getfield 22, 3) := by decide +kernel
theorem dX8_told_121 : decode cX8_told 121 = .ok (.aload_n 0, 1) := by decide +kernel
theorem dX8_told_122 : decode cX8_told 122 = .ok (.getfield 238, 3) := by decide +kernel
theorem dX8_told_125 : decode cX8_told 125 = .ok (.invokevirtual 201, 3) := by decide +kernel
theorem dX8_told_128 : decode cX8_told 128 = .ok (.ireturn, 1) := by decide +kernel
theorem dX8_told_129 : decode cX8_told 129 = .ok (.aload_n 0, 1) := by decide +kernel
theorem dX8_told_130 : decode cX8_told 130 = .ok (.getfield 7, 3) := by decide +kernel
theorem dX8_told_133 : decode cX8_told 133 = .ok (.aload_n 0, 1) := by decide +kernel
theorem dX8_told_134 : decode cX8_told 134 = .ok (.iload_n 1, 1) := by decide +kernel
theorem dX8_told_135 : decode cX8_told 135 = .ok (.aload_n 0, 1) := by decide +kernel
theorem dX8_told_136 : decode cX8_told 136 = .ok (.getfield 22, 3) := by decide +kernel
theorem dX8_told_139 : decode cX8_told 139 = .ok (.aload_n 0, 1) := by decide +kernel
theorem dX8_told_140 : decode cX8_told 140 = .ok (.getfield 238, 3) := by decide +kernel
theorem dX8_told_143 : decode cX8_told 143 = .ok (.invokevirtual 201, 3) := by decide +kernel
theorem dX8_told_146 : decode cX8_told 146 = .ok (.iaload, 1) := by decide +kernel
theorem dX8_told_147 : decode cX8_told 147 = .ok (.aload_n 0, 1) := by decide +kernel
theorem dX8_told_148 : decode cX8_told 148 = .ok (.iload_n 1, 1) := by decide +kernel
theorem dX8_told_149 : decode cX8_told 149 = .ok (.aload_n 0, 1) := by decide +kernel
theorem dX8_told_150 : decode cX8_told 150 = .ok (.getfield 204, 3) := by decide +kernel
theorem dX8_told_153 : decode cX8_told 153 = .ok (.invokevirtual 207, 3) := by decide +kernel
theorem dX8_told_156 : decode cX8_told 156 = .ok (.iadd, 1) := by decide +kernel
theorem dX8_told_157 : decode cX8_told 157 = .ok (.ireturn, 1) := by decide +kernel
theorem dX8_told_158 : decode cX8_told 158 = .ok (.aload_n 0, 1) := by decide +kernel
theorem dX8_told_159 : decode cX8_told 159 = .ok (.getfield 7, 3) := by decide +kernel
theorem dX8_told_162 : decode cX8_told 162 = .ok (.iload_n 1, 1) := by decide +kernel
theorem dX8_told_163 : decode cX8_told 163 = .ok (.iaload, 1) := by decide +kernel
theorem dX8_told_164 : decode cX8_told 164 = .ok (.ireturn, 1) := by decide +kernel
theorem dX8_carry_0 : decode cX8_carry 0 = .ok (.aload_n 0, 1) := by decide +kernel
theorem dX8_carry_1 : decode cX8_carry 1 = .ok (.getfield 300, 3) := by decide +kernel
theorem dX8_carry_4 : decode cX8_carry 4 = .ok (.ifCond .eq 13, 3) := by decide +kernel
theorem dX8_carry_7 : decode cX8_carry 7 = .ok (.aload_n 0, 1) := by decide +kernel
theorem dX8_carry_8 : decode cX8_carry 8 = .ok (.getfield 62, 3) := by decide +kernel
theorem dX8_carry_11 : decode cX8_carry 11 = .ok (.aload_n 0, 1) := by decide +kernel
theorem dX8_carry_12 : decode cX8_carry 12 = .ok (.getfield 303, 3) := by decide +kernel
theorem dX8_carry_15 : decode cX8_carry 15 = .ok (.iload_n 1, 1) := by decide +kernel
theorem dX8_carry_16 : decode cX8_carry 16 = .ok (.iastore, 1) := by decide +kernel
theorem dX8_carry_17 : decode cX8_carry 17 = .ok (.aload_n 0, 1) := by decide +kernel
theorem dX8_carry_18 : decode cX8_carry 18 = .ok (.dup, 1) := by decide +kernel
theorem dX8_carry_19 : decode cX8_carry 19 = .ok (.getfield 303, 3) := by decide +kernel
theorem dX8_carry_22 : decode cX8_carry 22 = .ok (.iconst 1, 1) := by decide +kernel
theorem dX8_carry_23 : decode cX8_carry 23 = .ok (.iadd, 1) := by decide +kernel
theorem dX8_carry_24 : decode cX8_carry 24 = .ok (.putfield 303, 3) := by decide +kernel
theorem dX8_carry_27 : decode cX8_carry 27 = .ok (.aload_n 0, 1) := by decide +kernel
theorem dX8_carry_28 : decode cX8_carry 28 = .ok (.getfield 62, 3) := by decide +kernel
theorem dX8_carry_31 : decode cX8_carry 31 = .ok (.aload_n 0, 1) := by decide +kernel
theorem dX8_carry_32 : decode cX8_carry 32 = .ok (.getfield 303, 3) := by decide +kernel
theorem dX8_carry_35 : decode cX8_carry 35 = .ok (.iconst 1, 1) := by decide +kernel
theorem dX8_carry_36 : decode cX8_carry 36 = .ok (.isub, 1) := by decide +kernel
theorem dX8_carry_37 : decode cX8_carry 37 = .ok (.iaload, 1) := by decide +kernel
theorem dX8_carry_38 : decode cX8_carry 38 = .ok (.ireturn, 1) := by decide +kernel
theorem dX8_carryAll_0 : decode cX8_carryAll 0 = .ok (.aload_n 0, 1) := by decide +kernel
theorem dX8_carryAll_1 : decode cX8_carryAll 1 = .ok (.iconst 0, 1) := by decide +kernel
theorem dX8_carryAll_2 : decode cX8_carryAll 2 = .ok (.putfield 303, 3) := by decide +kernel
theorem dX8_carryAll_5 : decode cX8_carryAll 5 = .ok (.aload_n 0, 1) := by decide +kernel
theorem dX8_carryAll_6 : decode cX8_carryAll 6 = .ok (.aload_n 0, 1) := by decide +kernel
theorem dX8_carryAll_7 : decode cX8_carryAll 7 = .ok (.aload_n 0, 1) := by decide +kernel
theorem dX8_carryAll_8 : decode cX8_carryAll 8 = .ok (.getfield 22, 3) := by decide +kernel
theorem dX8_carryAll_11 : decode cX8_carryAll 11 = .ok (.invokevirtual 306, 3) := by decide +kernel
theorem dX8_carryAll_14 : decode cX8_carryAll 14 = .ok (.putfield 22, 3) := by decide +kernel
theorem dX8_carryAll_17 : decode cX8_carryAll 17 = .ok (.aload_n 0, 1) := by decide +kernel
theorem dX8_carryAll_18 : decode cX8_carryAll 18 = .ok (.aload_n 0, 1) := by decide +kernel
theorem dX8_carryAll_19 : decode cX8_carryAll 19 = .ok (.aload_n 0, 1) := by decide +kernel
theorem dX8_carryAll_20 : decode cX8_carryAll 20 = .ok (.getfield 26, 3) := by decide +kernel
theorem dX8_carryAll_23 : decode cX8_carryAll 23 = .ok (.invokevirtual 306, 3) := by decide +kernel
theorem dX8_carryAll_26 : decode cX8_carryAll 26 = .ok (.putfield 26, 3) := by decide +kernel
theorem dX8_carryAll_29 : decode cX8_carryAll 29 = .ok (.aload_n 0, 1) := by decide +kernel
theorem dX8_carryAll_30 : decode cX8_carryAll 30 = .ok (.aload_n 0, 1) := by decide +kernel
theorem dX8_carryAll_31 : decode cX8_carryAll 31 = .ok (.aload_n 0, 1) := by decide +kernel
theorem dX8_carryAll_32 : decode cX8_carryAll 32 = .ok (.getfield 238, 3) := by decide +kernel
theorem dX8_carryAll_35 : decode cX8_carryAll 35 = .ok (.invokevirtual 306, 3) := by decide +kernel
theorem dX8_carryAll_38 : decode cX8_carryAll 38 = .ok (.putfield 238, 3) := by decide +kernel
theorem dX8_carryAll_41 : decode cX8_carryAll 41 = .ok (.aload_n 0, 1) := by decide +kernel
theorem dX8_carryAll_42 : decode cX8_carryAll 42 = .ok (.aload_n 0, 1) := by decide +kernel
theorem dX8_carryAll_43 : decode cX8_carryAll 43 = .ok (.aload_n 0, 1) := by decide +kernel
theorem dX8_carryAll_44 : decode cX8_carryAll 44 = .ok (.getfield 204, 3) := by decide +kernel
theorem dX8_carryAll_47 : decode cX8_carryAll 47 = .ok (.invokevirtual 306, 3) := by decide +kernel
theorem dX8_carryAll_50 : decode cX8_carryAll 50 = .ok (.putfield 204, 3) := by decide +kernel
theorem dX8_carryAll_53 : decode cX8_carryAll 53 = .ok (.aload_n 0, 1) := by decide +kernel
theorem dX8_carryAll_54 : decode cX8_carryAll 54 = .ok (.aload_n 0, 1) := by decide +kernel
theorem dX8_carryAll_55 : decode cX8_carryAll 55 = .ok (.aload_n 0, 1) := by decide +kernel
theorem dX8_carryAll_56 : decode cX8_carryAll 56 = .ok (.getfield 189, 3) := by decide +kernel
theorem dX8_carryAll_59 : decode cX8_carryAll 59 = .ok (.invokevirtual 306, 3) := by decide +kernel
theorem dX8_carryAll_62 : decode cX8_carryAll 62 = .ok (.putfield 189, 3) := by decide +kernel
theorem dX8_carryAll_65 : decode cX8_carryAll 65 = .ok (.iconst 0, 1) := by decide +kernel
theorem dX8_carryAll_66 : decode cX8_carryAll 66 = .ok (.istore_n 1, 1) := by decide +kernel
theorem dX8_carryAll_67 : decode cX8_carryAll 67 = .ok (.iload_n 1, 1) := by decide +kernel
theorem dX8_carryAll_68 : decode cX8_carryAll 68 = .ok (.iconst 4, 1) := by decide +kernel
theorem dX8_carryAll_69 : decode cX8_carryAll 69 = .ok (.if_icmp .ge 41, 3) := by decide +kernel
theorem dX8_carryAll_72 : decode cX8_carryAll 72 = .ok (.aload_n 0, 1) := by decide +kernel
theorem dX8_carryAll_73 : decode cX8_carryAll 73 = .ok (.getfield 16, 3) := by decide +kernel
theorem dX8_carryAll_76 : decode cX8_carryAll 76 = .ok (.iload_n 1, 1) := by decide +kernel
theorem dX8_carryAll_77 : decode cX8_carryAll 77 = .ok (.aload_n 0, 1) := by decide +kernel
theorem dX8_carryAll_78 : decode cX8_carryAll 78 = .ok (.aload_n 0, 1) := by decide +kernel
theorem dX8_carryAll_79 : decode cX8_carryAll 79 = .ok (.getfield 16, 3) := by decide +kernel
theorem dX8_carryAll_82 : decode cX8_carryAll 82 = .ok (.iload_n 1, 1) := by decide +kernel
theorem dX8_carryAll_83 : decode cX8_carryAll 83 = .ok (.iaload, 1) := by decide +kernel
theorem dX8_carryAll_84 : decode cX8_carryAll 84 = .ok (.invokevirtual 306, 3) := by decide +kernel
theorem dX8_carryAll_87 : decode cX8_carryAll 87 = .ok (.iastore, 1) := by decide +kernel
theorem dX8_carryAll_88 : decode cX8_carryAll 88 = .ok (.aload_n 0, 1) := by decide +kernel
theorem dX8_carryAll_89 : decode cX8_carryAll 89 = .ok (.getfield 19, 3) := by decide +kernel
theorem dX8_carryAll_92 : decode cX8_carryAll 92 = .ok (.iload_n 1, 1) := by decide +kernel
theorem dX8_carryAll_93 : decode cX8_carryAll 93 = .ok (.aload_n 0, 1) := by decide +kernel
theorem dX8_carryAll_94 : decode cX8_carryAll 94 = .ok (.aload_n 0, 1) := by decide +kernel
theorem dX8_carryAll_95 : decode cX8_carryAll 95 = .ok (.getfield 19, 3) := by decide +kernel
theorem dX8_carryAll_98 : decode cX8_carryAll 98 = .ok (.iload_n 1, 1) := by decide +kernel
theorem dX8_carryAll_99 : decode cX8_carryAll 99 = .ok (.iaload, 1) := by decide +kernel
theorem dX8_carryAll_100 : decode cX8_carryAll 100 = .ok (.invokevirtual 306, 3) := by decide +kernel
theorem dX8_carryAll_103 : decode cX8_carryAll 103 = .ok (.iastore, 1) := by decide +kernel
theorem dX8_carryAll_104 : decode cX8_carryAll 104 = .ok (.iinc 1 1, 3) := by decide +kernel
theorem dX8_carryAll_107 : decode cX8_carryAll 107 = .ok (.goto (-40), 3) := by decide +kernel
theorem dX8_carryAll_110 : decode cX8_carryAll 110 = .ok (.iconst 0, 1) := by decide +kernel
theorem dX8_carryAll_111 : decode cX8_carryAll 111 = .ok (.istore_n 1, 1) := by decide +kernel
theorem dX8_carryAll_112 : decode cX8_carryAll 112 = .ok (.iload_n 1, 1) := by decide +kernel
theorem dX8_carryAll_113 : decode cX8_carryAll 113 = .ok (.bipush 64, 2) := by decide +kernel
theorem dX8_carryAll_115 : decode cX8_carryAll 115 = .ok (.if_icmp .ge 25, 3) := by decide +kernel
theorem dX8_carryAll_118 : decode cX8_carryAll 118 = .ok (.aload_n 0, 1) := by decide +kernel
theorem dX8_carryAll_119 : decode cX8_carryAll 119 = .ok (.getfield 7, 3) := by decide +kernel
theorem dX8_carryAll_122 : decode cX8_carryAll 122 = .ok (.iload_n 1, 1) := by decide +kernel
theorem dX8_carryAll_123 : decode cX8_carryAll 123 = .ok (.aload_n 0, 1) := by decide +kernel
theorem dX8_carryAll_124 : decode cX8_carryAll 124 = .ok (.aload_n 0, 1) := by decide +kernel
theorem dX8_carryAll_125 : decode cX8_carryAll 125 = .ok (.getfield 7, 3) := by decide +kernel
theorem dX8_carryAll_128 : decode cX8_carryAll 128 = .ok (.iload_n 1, 1) := by decide +kernel
theorem dX8_carryAll_129 : decode cX8_carryAll 129 = .ok (.iaload, 1) := by decide +kernel
theorem dX8_carryAll_130 : decode cX8_carryAll 130 = .ok (.invokevirtual 306, 3) := by decide +kernel
theorem dX8_carryAll_133 : decode cX8_carryAll 133 = .ok (.iastore, 1) := by decide +kernel
theorem dX8_carryAll_134 : decode cX8_carryAll 134 = .ok (.iinc 1 1, 3) := by decide +kernel
theorem dX8_carryAll_137 : decode cX8_carryAll 137 = .ok (.goto (-25), 3) := by decide +kernel
theorem dX8_carryAll_140 : decode cX8_carryAll 140 = .ok (.return_, 1) := by decide +kernel
theorem dX8_image_0 : decode cX8_image 0 = .ok (.aload_n 0, 1) := by decide +kernel
theorem dX8_image_1 : decode cX8_image 1 = .ok (.iconst 0, 1) := by decide +kernel
theorem dX8_image_2 : decode cX8_image 2 = .ok (.putfield 77, 3) := by decide +kernel
theorem dX8_image_5 : decode cX8_image 5 = .ok (.aload_n 0, 1) := by decide +kernel
theorem dX8_image_6 : decode cX8_image 6 = .ok (.iconst 1, 1) := by decide +kernel
theorem dX8_image_7 : decode cX8_image 7 = .ok (.putfield 309, 3) := by decide +kernel
theorem dX8_image_10 : decode cX8_image 10 = .ok (.aload_n 0, 1) := by decide +kernel
theorem dX8_image_11 : decode cX8_image 11 = .ok (.iconst 1, 1) := by decide +kernel
theorem dX8_image_12 : decode cX8_image 12 = .ok (.putfield 300, 3) := by decide +kernel
theorem dX8_image_15 : decode cX8_image 15 = .ok (.aload_n 0, 1) := by decide +kernel
theorem dX8_image_16 : decode cX8_image 16 = .ok (.invokevirtual 312, 3) := by decide +kernel
theorem dX8_image_19 : decode cX8_image 19 = .ok (.aload_n 0, 1) := by decide +kernel
theorem dX8_image_20 : decode cX8_image 20 = .ok (.getfield 238, 3) := by decide +kernel
theorem dX8_image_23 : decode cX8_image 23 = .ok (.ireturn, 1) := by decide +kernel
theorem dX8_back_0 : decode cX8_back 0 = .ok (.aload_n 0, 1) := by decide +kernel
theorem dX8_back_1 : decode cX8_back 1 = .ok (.iconst 0, 1) := by decide +kernel
theorem dX8_back_2 : decode cX8_back 2 = .ok (.putfield 77, 3) := by decide +kernel
theorem dX8_back_5 : decode cX8_back 5 = .ok (.aload_n 0, 1) := by decide +kernel
theorem dX8_back_6 : decode cX8_back 6 = .ok (.getfield 309, 3) := by decide +kernel
theorem dX8_back_9 : decode cX8_back 9 = .ok (.ifCond .ne 6, 3) := by decide +kernel
theorem dX8_back_12 : decode cX8_back 12 = .ok (.bipush (-3), 2) := by decide +kernel
theorem dX8_back_14 : decode cX8_back 14 = .ok (.ireturn, 1) := by decide +kernel
theorem dX8_back_15 : decode cX8_back 15 = .ok (.aload_n 0, 1) := by decide +kernel
theorem dX8_back_16 : decode cX8_back 16 = .ok (.iconst 0, 1) := by decide +kernel
theorem dX8_back_17 : decode cX8_back 17 = .ok (.putfield 300, 3) := by decide +kernel
theorem dX8_back_20 : decode cX8_back 20 = .ok (.aload_n 0, 1) := by decide +kernel
theorem dX8_back_21 : decode cX8_back 21 = .ok (.invokevirtual 312, 3) := by decide +kernel
theorem dX8_back_24 : decode cX8_back 24 = .ok (.aload_n 0, 1) := by decide +kernel
theorem dX8_back_25 : decode cX8_back 25 = .ok (.getfield 238, 3) := by decide +kernel
theorem dX8_back_28 : decode cX8_back 28 = .ok (.ireturn, 1) := by decide +kernel
theorem dX8_count_0 : decode cX8_count 0 = .ok (.aload_n 0, 1) := by decide +kernel
theorem dX8_count_1 : decode cX8_count 1 = .ok (.iconst 0, 1) := by decide +kernel
theorem dX8_count_2 : decode cX8_count 2 = .ok (.putfield 77, 3) := by decide +kernel
theorem dX8_count_5 : decode cX8_count 5 = .ok (.iload_n 1, 1) := by decide +kernel
theorem dX8_count_6 : decode cX8_count 6 = .ok (.tableswitch 77 0 6 #[42, 47, 52, 57, 62, 67, 72], 42) := by decide +kernel
theorem dX8_count_48 : decode cX8_count 48 = .ok (.aload_n 0, 1) := by decide +kernel
theorem dX8_count_49 : decode cX8_count 49 = .ok (.getfield 22, 3) := by decide +kernel
theorem dX8_count_52 : decode cX8_count 52 = .ok (.ireturn, 1) := by decide +kernel
theorem dX8_count_53 : decode cX8_count 53 = .ok (.aload_n 0, 1) := by decide +kernel
theorem dX8_count_54 : decode cX8_count 54 = .ok (.getfield 26, 3) := by decide +kernel
theorem dX8_count_57 : decode cX8_count 57 = .ok (.ireturn, 1) := by decide +kernel
theorem dX8_count_58 : decode cX8_count 58 = .ok (.aload_n 0, 1) := by decide +kernel
theorem dX8_count_59 : decode cX8_count 59 = .ok (.getfield 238, 3) := by decide +kernel
theorem dX8_count_62 : decode cX8_count 62 = .ok (.ireturn, 1) := by decide +kernel
theorem dX8_count_63 : decode cX8_count 63 = .ok (.aload_n 0, 1) := by decide +kernel
theorem dX8_count_64 : decode cX8_count 64 = .ok (.getfield 204, 3) := by decide +kernel
theorem dX8_count_67 : decode cX8_count 67 = .ok (.ireturn, 1) := by decide +kernel
theorem dX8_count_68 : decode cX8_count 68 = .ok (.aload_n 0, 1) := by decide +kernel
theorem dX8_count_69 : decode cX8_count 69 = .ok (.getfield 87, 3) := by decide +kernel
theorem dX8_count_72 : decode cX8_count 72 = .ok (.ireturn, 1) := by decide +kernel
theorem dX8_count_73 : decode cX8_count 73 = .ok (.aload_n 0, 1) := by decide +kernel
theorem dX8_count_74 : decode cX8_count 74 = .ok (.getfield 80, 3) := by decide +kernel
theorem dX8_count_77 : decode cX8_count 77 = .ok (.ireturn, 1) := by decide +kernel
theorem dX8_count_78 : decode cX8_count 78 = .ok (.aload_n 0, 1) := by decide +kernel
theorem dX8_count_79 : decode cX8_count 79 = .ok (.getfield 189, 3) := by decide +kernel
theorem dX8_count_82 : decode cX8_count 82 = .ok (.ireturn, 1) := by decide +kernel
theorem dX8_count_83 : decode cX8_count 83 = .ok (.bipush (-2), 2) := by decide +kernel
theorem dX8_count_85 : decode cX8_count 85 = .ok (.ireturn, 1) := by decide +kernel
theorem dX8_sheet_0 : decode cX8_sheet 0 = .ok (.aload_n 0, 1) := by decide +kernel
theorem dX8_sheet_1 : decode cX8_sheet 1 = .ok (.iconst 0, 1) := by decide +kernel
theorem dX8_sheet_2 : decode cX8_sheet 2 = .ok (.putfield 77, 3) := by decide +kernel
theorem dX8_sheet_5 : decode cX8_sheet 5 = .ok (.iload_n 1, 1) := by decide +kernel
theorem dX8_sheet_6 : decode cX8_sheet 6 = .ok (.i2l, 1) := by decide +kernel
theorem dX8_sheet_7 : decode cX8_sheet 7 = .ok (.lconst 0, 1) := by decide +kernel
theorem dX8_sheet_8 : decode cX8_sheet 8 = .ok (.ldc2_w 280, 3) := by decide +kernel
theorem dX8_sheet_11 : decode cX8_sheet 11 = .ok (.invokestatic 97, 3) := by decide +kernel
theorem dX8_sheet_14 : decode cX8_sheet 14 = .ok (.ifCond .eq 27, 3) := by decide +kernel
theorem dX8_sheet_17 : decode cX8_sheet 17 = .ok (.iload_n 2, 1) := by decide +kernel
theorem dX8_sheet_18 : decode cX8_sheet 18 = .ok (.i2l, 1) := by decide +kernel
theorem dX8_sheet_19 : decode cX8_sheet 19 = .ok (.ldc2_w 315, 3) := by decide +kernel
theorem dX8_sheet_22 : decode cX8_sheet 22 = .ok (.ldc2_w 268, 3) := by decide +kernel
theorem dX8_sheet_25 : decode cX8_sheet 25 = .ok (.invokestatic 97, 3) := by decide +kernel
theorem dX8_sheet_28 : decode cX8_sheet 28 = .ok (.ifCond .eq 13, 3) := by decide +kernel
theorem dX8_sheet_31 : decode cX8_sheet 31 = .ok (.iload_n 2, 1) := by decide +kernel
theorem dX8_sheet_32 : decode cX8_sheet 32 = .ok (.ifCond .lt 12, 3) := by decide +kernel
theorem dX8_sheet_35 : decode cX8_sheet 35 = .ok (.iload_n 3, 1) := by decide +kernel
theorem dX8_sheet_36 : decode cX8_sheet 36 = .ok (.bipush 40, 2) := by decide +kernel
theorem dX8_sheet_38 : decode cX8_sheet 38 = .ok (.if_icmp .le 6, 3) := by decide +kernel
theorem dX8_sheet_41 : decode cX8_sheet 41 = .ok (.bipush (-2), 2) := by decide +kernel
theorem dX8_sheet_43 : decode cX8_sheet 43 = .ok (.ireturn, 1) := by decide +kernel
theorem dX8_sheet_44 : decode cX8_sheet 44 = .ok (.iload_n 2, 1) := by decide +kernel
theorem dX8_sheet_45 : decode cX8_sheet 45 = .ok (.ifCond .lt 10, 3) := by decide +kernel
theorem dX8_sheet_48 : decode cX8_sheet 48 = .ok (.iload_n 3, 1) := by decide +kernel
theorem dX8_sheet_49 : decode cX8_sheet 49 = .ok (.ifCond .ge 6, 3) := by decide +kernel
theorem dX8_sheet_52 : decode cX8_sheet 52 = .ok (.bipush (-14), 2) := by decide +kernel
theorem dX8_sheet_54 : decode cX8_sheet 54 = .ok (.ireturn, 1) := by decide +kernel
theorem dX8_sheet_55 : decode cX8_sheet 55 = .ok (.aload_n 0, 1) := by decide +kernel
theorem dX8_sheet_56 : decode cX8_sheet 56 = .ok (.getfield 65, 3) := by decide +kernel
theorem dX8_sheet_59 : decode cX8_sheet 59 = .ok (.iload_n 1, 1) := by decide +kernel
theorem dX8_sheet_60 : decode cX8_sheet 60 = .ok (.iload_n 2, 1) := by decide +kernel
theorem dX8_sheet_61 : decode cX8_sheet 61 = .ok (.iastore, 1) := by decide +kernel
theorem dX8_sheet_62 : decode cX8_sheet 62 = .ok (.aload_n 0, 1) := by decide +kernel
theorem dX8_sheet_63 : decode cX8_sheet 63 = .ok (.getfield 68, 3) := by decide +kernel
theorem dX8_sheet_66 : decode cX8_sheet 66 = .ok (.iload_n 1, 1) := by decide +kernel
theorem dX8_sheet_67 : decode cX8_sheet 67 = .ok (.iload_n 2, 1) := by decide +kernel
theorem dX8_sheet_68 : decode cX8_sheet 68 = .ok (.ifCond .ge 7, 3) := by decide +kernel
theorem dX8_sheet_71 : decode cX8_sheet 71 = .ok (.iconst 0, 1) := by decide +kernel
theorem dX8_sheet_72 : decode cX8_sheet 72 = .ok (.goto 4, 3) := by decide +kernel
theorem dX8_sheet_75 : decode cX8_sheet 75 = .ok (.iload_n 3, 1) := by decide +kernel
theorem dX8_sheet_76 : decode cX8_sheet 76 = .ok (.iastore, 1) := by decide +kernel
theorem dX8_sheet_77 : decode cX8_sheet 77 = .ok (.iconst 0, 1) := by decide +kernel
theorem dX8_sheet_78 : decode cX8_sheet 78 = .ok (.istore 4, 2) := by decide +kernel
theorem dX8_sheet_80 : decode cX8_sheet 80 = .ok (.iload 4, 2) := by decide +kernel
theorem dX8_sheet_82 : decode cX8_sheet 82 = .ok (.bipush 40, 2) := by decide +kernel
theorem dX8_sheet_84 : decode cX8_sheet 84 = .ok (.if_icmp .ge 22, 3) := by decide +kernel
theorem dX8_sheet_87 : decode cX8_sheet 87 = .ok (.aload_n 0, 1) := by decide +kernel
theorem dX8_sheet_88 : decode cX8_sheet 88 = .ok (.getfield 71, 3) := by decide +kernel
theorem dX8_sheet_91 : decode cX8_sheet 91 = .ok (.bipush 40, 2) := by decide +kernel
theorem dX8_sheet_93 : decode cX8_sheet 93 = .ok (.iload_n 1, 1) := by decide +kernel
theorem dX8_sheet_94 : decode cX8_sheet 94 = .ok (.imul, 1) := by decide +kernel
theorem dX8_sheet_95 : decode cX8_sheet 95 = .ok (.iload 4, 2) := by decide +kernel
theorem dX8_sheet_97 : decode cX8_sheet 97 = .ok (.iadd, 1) := by decide +kernel
theorem dX8_sheet_98 : decode cX8_sheet 98 = .ok (.iconst 0, 1) := by decide +kernel
theorem dX8_sheet_99 : decode cX8_sheet 99 = .ok (.iastore, 1) := by decide +kernel
theorem dX8_sheet_100 : decode cX8_sheet 100 = .ok (.iinc 4 1, 3) := by decide +kernel
theorem dX8_sheet_103 : decode cX8_sheet 103 = .ok (.goto (-23), 3) := by decide +kernel
theorem dX8_sheet_106 : decode cX8_sheet 106 = .ok (.iconst 1, 1) := by decide +kernel
theorem dX8_sheet_107 : decode cX8_sheet 107 = .ok (.ireturn, 1) := by decide +kernel
theorem dX8_cell_0 : decode cX8_cell 0 = .ok (.aload_n 0, 1) := by decide +kernel
theorem dX8_cell_1 : decode cX8_cell 1 = .ok (.iconst 0, 1) := by decide +kernel
theorem dX8_cell_2 : decode cX8_cell 2 = .ok (.putfield 77, 3) := by decide +kernel
theorem dX8_cell_5 : decode cX8_cell 5 = .ok (.iload_n 1, 1) := by decide +kernel
theorem dX8_cell_6 : decode cX8_cell 6 = .ok (.i2l, 1) := by decide +kernel
theorem dX8_cell_7 : decode cX8_cell 7 = .ok (.lconst 0, 1) := by decide +kernel
theorem dX8_cell_8 : decode cX8_cell 8 = .ok (.ldc2_w 280, 3) := by decide +kernel
theorem dX8_cell_11 : decode cX8_cell 11 = .ok (.invokestatic 97, 3) := by decide +kernel
theorem dX8_cell_14 : decode cX8_cell 14 = .ok (.ifCond .ne 6, 3) := by decide +kernel
theorem dX8_cell_17 : decode cX8_cell 17 = .ok (.bipush (-2), 2) := by decide +kernel
theorem dX8_cell_19 : decode cX8_cell 19 = .ok (.ireturn, 1) := by decide +kernel
theorem dX8_cell_20 : decode cX8_cell 20 = .ok (.aload_n 0, 1) := by decide +kernel
theorem dX8_cell_21 : decode cX8_cell 21 = .ok (.getfield 65, 3) := by decide +kernel
theorem dX8_cell_24 : decode cX8_cell 24 = .ok (.iload_n 1, 1) := by decide +kernel
theorem dX8_cell_25 : decode cX8_cell 25 = .ok (.iaload, 1) := by decide +kernel
theorem dX8_cell_26 : decode cX8_cell 26 = .ok (.ifCond .ge 6, 3) := by decide +kernel
theorem dX8_cell_29 : decode cX8_cell 29 = .ok (.bipush (-11), 2) := by decide +kernel
theorem dX8_cell_31 : decode cX8_cell 31 = .ok (.ireturn, 1) := by decide +kernel
theorem dX8_cell_32 : decode cX8_cell 32 = .ok (.iload_n 2, 1) := by decide +kernel
theorem dX8_cell_33 : decode cX8_cell 33 = .ok (.i2l, 1) := by decide +kernel
theorem dX8_cell_34 : decode cX8_cell 34 = .ok (.lconst 0, 1) := by decide +kernel
theorem dX8_cell_35 : decode cX8_cell 35 = .ok (.aload_n 0, 1) := by decide +kernel
theorem dX8_cell_36 : decode cX8_cell 36 = .ok (.getfield 68, 3) := by decide +kernel
theorem dX8_cell_39 : decode cX8_cell 39 = .ok (.iload_n 1, 1) := by decide +kernel
theorem dX8_cell_40 : decode cX8_cell 40 = .ok (.iaload, 1) := by decide +kernel
theorem dX8_cell_41 : decode cX8_cell 41 = .ok (.iconst 1, 1) := by decide +kernel
theorem dX8_cell_42 : decode cX8_cell 42 = .ok (.isub, 1) := by decide +kernel
theorem dX8_cell_43 : decode cX8_cell 43 = .ok (.i2l, 1) := by decide +kernel
theorem dX8_cell_44 : decode cX8_cell 44 = .ok (.invokestatic 97, 3) := by decide +kernel
theorem dX8_cell_47 : decode cX8_cell 47 = .ok (.ifCond .ne 6, 3) := by decide +kernel
theorem dX8_cell_50 : decode cX8_cell 50 = .ok (.bipush (-12), 2) := by decide +kernel
theorem dX8_cell_52 : decode cX8_cell 52 = .ok (.ireturn, 1) := by decide +kernel
theorem dX8_cell_53 : decode cX8_cell 53 = .ok (.aload_n 0, 1) := by decide +kernel
theorem dX8_cell_54 : decode cX8_cell 54 = .ok (.getfield 71, 3) := by decide +kernel
theorem dX8_cell_57 : decode cX8_cell 57 = .ok (.bipush 40, 2) := by decide +kernel
theorem dX8_cell_59 : decode cX8_cell 59 = .ok (.iload_n 1, 1) := by decide +kernel
theorem dX8_cell_60 : decode cX8_cell 60 = .ok (.imul, 1) := by decide +kernel
theorem dX8_cell_61 : decode cX8_cell 61 = .ok (.iload_n 2, 1) := by decide +kernel
theorem dX8_cell_62 : decode cX8_cell 62 = .ok (.iadd, 1) := by decide +kernel
theorem dX8_cell_63 : decode cX8_cell 63 = .ok (.aload_n 0, 1) := by decide +kernel
theorem dX8_cell_64 : decode cX8_cell 64 = .ok (.getfield 65, 3) := by decide +kernel
theorem dX8_cell_67 : decode cX8_cell 67 = .ok (.iload_n 1, 1) := by decide +kernel
theorem dX8_cell_68 : decode cX8_cell 68 = .ok (.iaload, 1) := by decide +kernel
theorem dX8_cell_69 : decode cX8_cell 69 = .ok (.ifCond .ne 8, 3) := by decide +kernel
theorem dX8_cell_72 : decode cX8_cell 72 = .ok (.iload_n 3, 1) := by decide +kernel
theorem dX8_cell_73 : decode cX8_cell 73 = .ok (.i2b, 1) := by decide +kernel
theorem dX8_cell_74 : decode cX8_cell 74 = .ok (.goto 19, 3) := by decide +kernel
theorem dX8_cell_77 : decode cX8_cell 77 = .ok (.aload_n 0, 1) := by decide +kernel
theorem dX8_cell_78 : decode cX8_cell 78 = .ok (.getfield 65, 3) := by decide +kernel
theorem dX8_cell_81 : decode cX8_cell 81 = .ok (.iload_n 1, 1) := by decide +kernel
theorem dX8_cell_82 : decode cX8_cell 82 = .ok (.iaload, 1) := by decide +kernel
theorem dX8_cell_83 : decode cX8_cell 83 = .ok (.iconst 1, 1) := by decide +kernel
theorem dX8_cell_84 : decode cX8_cell 84 = .ok (.if_icmp .ne 8, 3) := by decide +kernel
theorem dX8_cell_87 : decode cX8_cell 87 = .ok (.iload_n 3, 1) := by decide +kernel
theorem dX8_cell_88 : decode cX8_cell 88 = .ok (.i2s, 1) := by decide +kernel
theorem dX8_cell_89 : decode cX8_cell 89 = .ok (.goto 4, 3) := by decide +kernel
theorem dX8_cell_92 : decode cX8_cell 92 = .ok (.iload_n 3, 1) := by decide +kernel
theorem dX8_cell_93 : decode cX8_cell 93 = .ok (.iastore, 1) := by decide +kernel
theorem dX8_cell_94 : decode cX8_cell 94 = .ok (.iconst 1, 1) := by decide +kernel
theorem dX8_cell_95 : decode cX8_cell 95 = .ok (.ireturn, 1) := by decide +kernel
theorem dX8_copy_0 : decode cX8_copy 0 = .ok (.aload_n 0, 1) := by decide +kernel
theorem dX8_copy_1 : decode cX8_copy 1 = .ok (.iconst 0, 1) := by decide +kernel
theorem dX8_copy_2 : decode cX8_copy 2 = .ok (.putfield 77, 3) := by decide +kernel
theorem dX8_copy_5 : decode cX8_copy 5 = .ok (.iload_n 1, 1) := by decide +kernel
theorem dX8_copy_6 : decode cX8_copy 6 = .ok (.i2l, 1) := by decide +kernel
theorem dX8_copy_7 : decode cX8_copy 7 = .ok (.lconst 0, 1) := by decide +kernel
theorem dX8_copy_8 : decode cX8_copy 8 = .ok (.ldc2_w 280, 3) := by decide +kernel
theorem dX8_copy_11 : decode cX8_copy 11 = .ok (.invokestatic 97, 3) := by decide +kernel
theorem dX8_copy_14 : decode cX8_copy 14 = .ok (.ifCond .eq 15, 3) := by decide +kernel
theorem dX8_copy_17 : decode cX8_copy 17 = .ok (.iload_n 3, 1) := by decide +kernel
theorem dX8_copy_18 : decode cX8_copy 18 = .ok (.i2l, 1) := by decide +kernel
theorem dX8_copy_19 : decode cX8_copy 19 = .ok (.lconst 0, 1) := by decide +kernel
theorem dX8_copy_20 : decode cX8_copy 20 = .ok (.ldc2_w 280, 3) := by decide +kernel
theorem dX8_copy_23 : decode cX8_copy 23 = .ok (.invokestatic 97, 3) := by decide +kernel
theorem dX8_copy_26 : decode cX8_copy 26 = .ok (.ifCond .ne 6, 3) := by decide +kernel
theorem dX8_copy_29 : decode cX8_copy 29 = .ok (.bipush (-2), 2) := by decide +kernel
theorem dX8_copy_31 : decode cX8_copy 31 = .ok (.ireturn, 1) := by decide +kernel
theorem dX8_copy_32 : decode cX8_copy 32 = .ok (.aload_n 0, 1) := by decide +kernel
theorem dX8_copy_33 : decode cX8_copy 33 = .ok (.getfield 65, 3) := by decide +kernel
theorem dX8_copy_36 : decode cX8_copy 36 = .ok (.iload_n 1, 1) := by decide +kernel
theorem dX8_copy_37 : decode cX8_copy 37 = .ok (.iaload, 1) := by decide +kernel
theorem dX8_copy_38 : decode cX8_copy 38 = .ok (.ifCond .lt 12, 3) := by decide +kernel
theorem dX8_copy_41 : decode cX8_copy 41 = .ok (.aload_n 0, 1) := by decide +kernel
theorem dX8_copy_42 : decode cX8_copy 42 = .ok (.getfield 65, 3) := by decide +kernel
theorem dX8_copy_45 : decode cX8_copy 45 = .ok (.iload_n 3, 1) := by decide +kernel
theorem dX8_copy_46 : decode cX8_copy 46 = .ok (.iaload, 1) := by decide +kernel
theorem dX8_copy_47 : decode cX8_copy 47 = .ok (.ifCond .ge 6, 3) := by decide +kernel
theorem dX8_copy_50 : decode cX8_copy 50 = .ok (.bipush (-11), 2) := by decide +kernel
theorem dX8_copy_52 : decode cX8_copy 52 = .ok (.ireturn, 1) := by decide +kernel
theorem dX8_copy_53 : decode cX8_copy 53 = .ok (.aload_n 0, 1) := by decide +kernel
theorem dX8_copy_54 : decode cX8_copy 54 = .ok (.getfield 65, 3) := by decide +kernel
theorem dX8_copy_57 : decode cX8_copy 57 = .ok (.iload_n 1, 1) := by decide +kernel
theorem dX8_copy_58 : decode cX8_copy 58 = .ok (.iaload, 1) := by decide +kernel
theorem dX8_copy_59 : decode cX8_copy 59 = .ok (.aload_n 0, 1) := by decide +kernel
theorem dX8_copy_60 : decode cX8_copy 60 = .ok (.getfield 65, 3) := by decide +kernel
theorem dX8_copy_63 : decode cX8_copy 63 = .ok (.iload_n 3, 1) := by decide +kernel
theorem dX8_copy_64 : decode cX8_copy 64 = .ok (.iaload, 1) := by decide +kernel
theorem dX8_copy_65 : decode cX8_copy 65 = .ok (.if_icmp .eq 6, 3) := by decide +kernel
theorem dX8_copy_68 : decode cX8_copy 68 = .ok (.bipush (-13), 2) := by decide +kernel
theorem dX8_copy_70 : decode cX8_copy 70 = .ok (.ireturn, 1) := by decide +kernel
theorem dX8_copy_71 : decode cX8_copy 71 = .ok (.iload 5, 2) := by decide +kernel
theorem dX8_copy_73 : decode cX8_copy 73 = .ok (.ifCond .lt 39, 3) := by decide +kernel
theorem dX8_copy_76 : decode cX8_copy 76 = .ok (.iload_n 2, 1) := by decide +kernel
theorem dX8_copy_77 : decode cX8_copy 77 = .ok (.ifCond .lt 35, 3) := by decide +kernel
theorem dX8_copy_80 : decode cX8_copy 80 = .ok (.iload 4, 2) := by decide +kernel
theorem dX8_copy_82 : decode cX8_copy 82 = .ok (.ifCond .lt 30, 3) := by decide +kernel
theorem dX8_copy_85 : decode cX8_copy 85 = .ok (.iload_n 2, 1) := by decide +kernel
theorem dX8_copy_86 : decode cX8_copy 86 = .ok (.aload_n 0, 1) := by decide +kernel
theorem dX8_copy_87 : decode cX8_copy 87 = .ok (.getfield 68, 3) := by decide +kernel
theorem dX8_copy_90 : decode cX8_copy 90 = .ok (.iload_n 1, 1) := by decide +kernel
theorem dX8_copy_91 : decode cX8_copy 91 = .ok (.iaload, 1) := by decide +kernel
theorem dX8_copy_92 : decode cX8_copy 92 = .ok (.iload 5, 2) := by decide +kernel
theorem dX8_copy_94 : decode cX8_copy 94 = .ok (.isub, 1) := by decide +kernel
theorem dX8_copy_95 : decode cX8_copy 95 = .ok (.if_icmp .gt 17, 3) := by decide +kernel
theorem dX8_copy_98 : decode cX8_copy 98 = .ok (.iload 4, 2) := by decide +kernel
theorem dX8_copy_100 : decode cX8_copy 100 = .ok (.aload_n 0, 1) := by decide +kernel
theorem dX8_copy_101 : decode cX8_copy 101 = .ok (.getfield 68, 3) := by decide +kernel
theorem dX8_copy_104 : decode cX8_copy 104 = .ok (.iload_n 3, 1) := by decide +kernel
theorem dX8_copy_105 : decode cX8_copy 105 = .ok (.iaload, 1) := by decide +kernel
theorem dX8_copy_106 : decode cX8_copy 106 = .ok (.iload 5, 2) := by decide +kernel
theorem dX8_copy_108 : decode cX8_copy 108 = .ok (.isub, 1) := by decide +kernel
theorem dX8_copy_109 : decode cX8_copy 109 = .ok (.if_icmp .le 6, 3) := by decide +kernel
theorem dX8_copy_112 : decode cX8_copy 112 = .ok (.bipush (-12), 2) := by decide +kernel
theorem dX8_copy_114 : decode cX8_copy 114 = .ok (.ireturn, 1) := by decide +kernel
theorem dX8_copy_115 : decode cX8_copy 115 = .ok (.iconst 0, 1) := by decide +kernel
theorem dX8_copy_116 : decode cX8_copy 116 = .ok (.istore 6, 2) := by decide +kernel
theorem dX8_copy_118 : decode cX8_copy 118 = .ok (.iload 6, 2) := by decide +kernel
theorem dX8_copy_120 : decode cX8_copy 120 = .ok (.iload 5, 2) := by decide +kernel
theorem dX8_copy_122 : decode cX8_copy 122 = .ok (.if_icmp .ge 30, 3) := by decide +kernel
theorem dX8_copy_125 : decode cX8_copy 125 = .ok (.aload_n 0, 1) := by decide +kernel
theorem dX8_copy_126 : decode cX8_copy 126 = .ok (.getfield 74, 3) := by decide +kernel
theorem dX8_copy_129 : decode cX8_copy 129 = .ok (.iload 6, 2) := by decide +kernel
theorem dX8_copy_131 : decode cX8_copy 131 = .ok (.aload_n 0, 1) := by decide +kernel
theorem dX8_copy_132 : decode cX8_copy 132 = .ok (.getfield 71, 3) := by decide +kernel
theorem dX8_copy_135 : decode cX8_copy 135 = .ok (.bipush 40, 2) := by decide +kernel
theorem dX8_copy_137 : decode cX8_copy 137 = .ok (.iload_n 1, 1) := by decide +kernel
theorem dX8_copy_138 : decode cX8_copy 138 = .ok (.imul, 1) := by decide +kernel
theorem dX8_copy_139 : decode cX8_copy 139 = .ok (.iload_n 2, 1) := by decide +kernel
theorem dX8_copy_140 : decode cX8_copy 140 = .ok (.iadd, 1) := by decide +kernel
theorem dX8_copy_141 : decode cX8_copy 141 = .ok (.iload 6, 2) := by decide +kernel
theorem dX8_copy_143 : decode cX8_copy 143 = .ok (.iadd, 1) := by decide +kernel
theorem dX8_copy_144 : decode cX8_copy 144 = .ok (.iaload, 1) := by decide +kernel
theorem dX8_copy_145 : decode cX8_copy 145 = .ok (.iastore, 1) := by decide +kernel
theorem dX8_copy_146 : decode cX8_copy 146 = .ok (.iinc 6 1, 3) := by decide +kernel
theorem dX8_copy_149 : decode cX8_copy 149 = .ok (.goto (-31), 3) := by decide +kernel
theorem dX8_copy_152 : decode cX8_copy 152 = .ok (.iconst 0, 1) := by decide +kernel
theorem dX8_copy_153 : decode cX8_copy 153 = .ok (.istore 6, 2) := by decide +kernel
theorem dX8_copy_155 : decode cX8_copy 155 = .ok (.iload 6, 2) := by decide +kernel
theorem dX8_copy_157 : decode cX8_copy 157 = .ok (.iload 5, 2) := by decide +kernel
theorem dX8_copy_159 : decode cX8_copy 159 = .ok (.if_icmp .ge 31, 3) := by decide +kernel
theorem dX8_copy_162 : decode cX8_copy 162 = .ok (.aload_n 0, 1) := by decide +kernel
theorem dX8_copy_163 : decode cX8_copy 163 = .ok (.getfield 71, 3) := by decide +kernel
theorem dX8_copy_166 : decode cX8_copy 166 = .ok (.bipush 40, 2) := by decide +kernel
theorem dX8_copy_168 : decode cX8_copy 168 = .ok (.iload_n 3, 1) := by decide +kernel
theorem dX8_copy_169 : decode cX8_copy 169 = .ok (.imul, 1) := by decide +kernel
theorem dX8_copy_170 : decode cX8_copy 170 = .ok (.iload 4, 2) := by decide +kernel
theorem dX8_copy_172 : decode cX8_copy 172 = .ok (.iadd, 1) := by decide +kernel
theorem dX8_copy_173 : decode cX8_copy 173 = .ok (.iload 6, 2) := by decide +kernel
theorem dX8_copy_175 : decode cX8_copy 175 = .ok (.iadd, 1) := by decide +kernel
theorem dX8_copy_176 : decode cX8_copy 176 = .ok (.aload_n 0, 1) := by decide +kernel
theorem dX8_copy_177 : decode cX8_copy 177 = .ok (.getfield 74, 3) := by decide +kernel
theorem dX8_copy_180 : decode cX8_copy 180 = .ok (.iload 6, 2) := by decide +kernel
theorem dX8_copy_182 : decode cX8_copy 182 = .ok (.iaload, 1) := by decide +kernel
theorem dX8_copy_183 : decode cX8_copy 183 = .ok (.iastore, 1) := by decide +kernel
theorem dX8_copy_184 : decode cX8_copy 184 = .ok (.iinc 6 1, 3) := by decide +kernel
theorem dX8_copy_187 : decode cX8_copy 187 = .ok (.goto (-32), 3) := by decide +kernel
theorem dX8_copy_190 : decode cX8_copy 190 = .ok (.iload 5, 2) := by decide +kernel
theorem dX8_copy_192 : decode cX8_copy 192 = .ok (.ireturn, 1) := by decide +kernel
theorem dX8_floors_0 : decode cX8_floors 0 = .ok (.aload_n 0, 1) := by decide +kernel
theorem dX8_floors_1 : decode cX8_floors 1 = .ok (.iconst 0, 1) := by decide +kernel
theorem dX8_floors_2 : decode cX8_floors 2 = .ok (.putfield 77, 3) := by decide +kernel
theorem dX8_floors_5 : decode cX8_floors 5 = .ok (.iload_n 1, 1) := by decide +kernel
theorem dX8_floors_6 : decode cX8_floors 6 = .ok (.i2l, 1) := by decide +kernel
theorem dX8_floors_7 : decode cX8_floors 7 = .ok (.lconst 0, 1) := by decide +kernel
theorem dX8_floors_8 : decode cX8_floors 8 = .ok (.ldc2_w 280, 3) := by decide +kernel
theorem dX8_floors_11 : decode cX8_floors 11 = .ok (.invokestatic 97, 3) := by decide +kernel
theorem dX8_floors_14 : decode cX8_floors 14 = .ok (.ifCond .eq 28, 3) := by decide +kernel
theorem dX8_floors_17 : decode cX8_floors 17 = .ok (.iload_n 2, 1) := by decide +kernel
theorem dX8_floors_18 : decode cX8_floors 18 = .ok (.i2l, 1) := by decide +kernel
theorem dX8_floors_19 : decode cX8_floors 19 = .ok (.lconst 0, 1) := by decide +kernel
theorem dX8_floors_20 : decode cX8_floors 20 = .ok (.ldc2_w 268, 3) := by decide +kernel
theorem dX8_floors_23 : decode cX8_floors 23 = .ok (.invokestatic 97, 3) := by decide +kernel
theorem dX8_floors_26 : decode cX8_floors 26 = .ok (.ifCond .eq 16, 3) := by decide +kernel
theorem dX8_floors_29 : decode cX8_floors 29 = .ok (.iload 4, 2) := by decide +kernel
theorem dX8_floors_31 : decode cX8_floors 31 = .ok (.i2l, 1) := by decide +kernel
theorem dX8_floors_32 : decode cX8_floors 32 = .ok (.lconst 0, 1) := by decide +kernel
theorem dX8_floors_33 : decode cX8_floors 33 = .ok (.ldc2_w 317, 3) := by decide +kernel
theorem dX8_floors_36 : decode cX8_floors 36 = .ok (.invokestatic 97, 3) := by decide +kernel
theorem dX8_floors_39 : decode cX8_floors 39 = .ok (.ifCond .ne 6, 3) := by decide +kernel
theorem dX8_floors_42 : decode cX8_floors 42 = .ok (.bipush (-2), 2) := by decide +kernel
theorem dX8_floors_44 : decode cX8_floors 44 = .ok (.ireturn, 1) := by decide +kernel
theorem dX8_floors_45 : decode cX8_floors 45 = .ok (.aload_n 0, 1) := by decide +kernel
theorem dX8_floors_46 : decode cX8_floors 46 = .ok (.getfield 65, 3) := by decide +kernel
theorem dX8_floors_49 : decode cX8_floors 49 = .ok (.iload_n 1, 1) := by decide +kernel
theorem dX8_floors_50 : decode cX8_floors 50 = .ok (.iaload, 1) := by decide +kernel
theorem dX8_floors_51 : decode cX8_floors 51 = .ok (.ifCond .lt 16, 3) := by decide +kernel
theorem dX8_floors_54 : decode cX8_floors 54 = .ok (.aload_n 0, 1) := by decide +kernel
theorem dX8_floors_55 : decode cX8_floors 55 = .ok (.getfield 65, 3) := by decide +kernel
theorem dX8_floors_58 : decode cX8_floors 58 = .ok (.iload_n 1, 1) := by decide +kernel
theorem dX8_floors_59 : decode cX8_floors 59 = .ok (.iaload, 1) := by decide +kernel
theorem dX8_floors_60 : decode cX8_floors 60 = .ok (.iload_n 2, 1) := by decide +kernel
theorem dX8_floors_61 : decode cX8_floors 61 = .ok (.if_icmp .eq 6, 3) := by decide +kernel
theorem dX8_floors_64 : decode cX8_floors 64 = .ok (.bipush (-13), 2) := by decide +kernel
theorem dX8_floors_66 : decode cX8_floors 66 = .ok (.ireturn, 1) := by decide +kernel
theorem dX8_floors_67 : decode cX8_floors 67 = .ok (.aload_n 0, 1) := by decide +kernel
theorem dX8_floors_68 : decode cX8_floors 68 = .ok (.getfield 65, 3) := by decide +kernel
theorem dX8_floors_71 : decode cX8_floors 71 = .ok (.iload_n 1, 1) := by decide +kernel
theorem dX8_floors_72 : decode cX8_floors 72 = .ok (.iaload, 1) := by decide +kernel
theorem dX8_floors_73 : decode cX8_floors 73 = .ok (.ifCond .ge 6, 3) := by decide +kernel
theorem dX8_floors_76 : decode cX8_floors 76 = .ok (.bipush (-11), 2) := by decide +kernel
theorem dX8_floors_78 : decode cX8_floors 78 = .ok (.ireturn, 1) := by decide +kernel
theorem dX8_floors_79 : decode cX8_floors 79 = .ok (.iconst 0, 1) := by decide +kernel
theorem dX8_floors_80 : decode cX8_floors 80 = .ok (.istore 5, 2) := by decide +kernel
theorem dX8_floors_82 : decode cX8_floors 82 = .ok (.iconst 0, 1) := by decide +kernel
theorem dX8_floors_83 : decode cX8_floors 83 = .ok (.istore 6, 2) := by decide +kernel
theorem dX8_floors_85 : decode cX8_floors 85 = .ok (.iload 6, 2) := by decide +kernel
theorem dX8_floors_87 : decode cX8_floors 87 = .ok (.iload 4, 2) := by decide +kernel
theorem dX8_floors_89 : decode cX8_floors 89 = .ok (.if_icmp .ge 112, 3) := by decide +kernel
theorem dX8_floors_92 : decode cX8_floors 92 = .ok (.ldc2_w 268, 3) := by decide +kernel
theorem dX8_floors_95 : decode cX8_floors 95 = .ok (.iload 6, 2) := by decide +kernel
theorem dX8_floors_97 : decode cX8_floors 97 = .ok (.i2l, 1) := by decide +kernel
theorem dX8_floors_98 : decode cX8_floors 98 = .ok (.lmul, 1) := by decide +kernel
theorem dX8_floors_99 : decode cX8_floors 99 = .ok (.iload_n 3, 1) := by decide +kernel
theorem dX8_floors_100 : decode cX8_floors 100 = .ok (.i2l, 1) := by decide +kernel
theorem dX8_floors_101 : decode cX8_floors 101 = .ok (.ladd, 1) := by decide +kernel
theorem dX8_floors_102 : decode cX8_floors 102 = .ok (.lstore 7, 2) := by decide +kernel
theorem dX8_floors_104 : decode cX8_floors 104 = .ok (.lload 7, 2) := by decide +kernel
theorem dX8_floors_106 : decode cX8_floors 106 = .ok (.lconst 0, 1) := by decide +kernel
theorem dX8_floors_107 : decode cX8_floors 107 = .ok (.aload_n 0, 1) := by decide +kernel
theorem dX8_floors_108 : decode cX8_floors 108 = .ok (.getfield 68, 3) := by decide +kernel
theorem dX8_floors_111 : decode cX8_floors 111 = .ok (.iload_n 1, 1) := by decide +kernel
theorem dX8_floors_112 : decode cX8_floors 112 = .ok (.iaload, 1) := by decide +kernel
theorem dX8_floors_113 : decode cX8_floors 113 = .ok (.iconst 2, 1) := by decide +kernel
theorem dX8_floors_114 : decode cX8_floors 114 = .ok (.isub, 1) := by decide +kernel
theorem dX8_floors_115 : decode cX8_floors 115 = .ok (.i2l, 1) := by decide +kernel
theorem dX8_floors_116 : decode cX8_floors 116 = .ok (.invokestatic 97, 3) := by decide +kernel
theorem dX8_floors_119 : decode cX8_floors 119 = .ok (.ifCond .ne 6, 3) := by decide +kernel
theorem dX8_floors_122 : decode cX8_floors 122 = .ok (.bipush (-12), 2) := by decide +kernel
theorem dX8_floors_124 : decode cX8_floors 124 = .ok (.ireturn, 1) := by decide +kernel
theorem dX8_floors_125 : decode cX8_floors 125 = .ok (.aload_n 0, 1) := by decide +kernel
theorem dX8_floors_126 : decode cX8_floors 126 = .ok (.getfield 71, 3) := by decide +kernel
theorem dX8_floors_129 : decode cX8_floors 129 = .ok (.bipush 40, 2) := by decide +kernel
theorem dX8_floors_131 : decode cX8_floors 131 = .ok (.iload_n 1, 1) := by decide +kernel
theorem dX8_floors_132 : decode cX8_floors 132 = .ok (.imul, 1) := by decide +kernel
theorem dX8_floors_133 : decode cX8_floors 133 = .ok (.lload 7, 2) := by decide +kernel
theorem dX8_floors_135 : decode cX8_floors 135 = .ok (.l2i, 1) := by decide +kernel
theorem dX8_floors_136 : decode cX8_floors 136 = .ok (.iadd, 1) := by decide +kernel
theorem dX8_floors_137 : decode cX8_floors 137 = .ok (.iaload, 1) := by decide +kernel
theorem dX8_floors_138 : decode cX8_floors 138 = .ok (.istore 9, 2) := by decide +kernel
theorem dX8_floors_140 : decode cX8_floors 140 = .ok (.aload_n 0, 1) := by decide +kernel
theorem dX8_floors_141 : decode cX8_floors 141 = .ok (.getfield 71, 3) := by decide +kernel
theorem dX8_floors_144 : decode cX8_floors 144 = .ok (.bipush 40, 2) := by decide +kernel
theorem dX8_floors_146 : decode cX8_floors 146 = .ok (.iload_n 1, 1) := by decide +kernel
theorem dX8_floors_147 : decode cX8_floors 147 = .ok (.imul, 1) := by decide +kernel
theorem dX8_floors_148 : decode cX8_floors 148 = .ok (.lload 7, 2) := by decide +kernel
theorem dX8_floors_150 : decode cX8_floors 150 = .ok (.l2i, 1) := by decide +kernel
theorem dX8_floors_151 : decode cX8_floors 151 = .ok (.iadd, 1) := by decide +kernel
theorem dX8_floors_152 : decode cX8_floors 152 = .ok (.iconst 1, 1) := by decide +kernel
theorem dX8_floors_153 : decode cX8_floors 153 = .ok (.iadd, 1) := by decide +kernel
theorem dX8_floors_154 : decode cX8_floors 154 = .ok (.iaload, 1) := by decide +kernel
theorem dX8_floors_155 : decode cX8_floors 155 = .ok (.istore 10, 2) := by decide +kernel
theorem dX8_floors_157 : decode cX8_floors 157 = .ok (.iload 9, 2) := by decide +kernel
theorem dX8_floors_159 : decode cX8_floors 159 = .ok (.i2l, 1) := by decide +kernel
theorem dX8_floors_160 : decode cX8_floors 160 = .ok (.lconst 0, 1) := by decide +kernel
theorem dX8_floors_161 : decode cX8_floors 161 = .ok (.ldc2_w 254, 3) := by decide +kernel
theorem dX8_floors_164 : decode cX8_floors 164 = .ok (.invokestatic 97, 3) := by decide +kernel
theorem dX8_floors_167 : decode cX8_floors 167 = .ok (.ifCond .eq 28, 3) := by decide +kernel
theorem dX8_floors_170 : decode cX8_floors 170 = .ok (.iload 10, 2) := by decide +kernel
theorem dX8_floors_172 : decode cX8_floors 172 = .ok (.i2l, 1) := by decide +kernel
theorem dX8_floors_173 : decode cX8_floors 173 = .ok (.lconst 0, 1) := by decide +kernel
theorem dX8_floors_174 : decode cX8_floors 174 = .ok (.ldc2_w 293, 3) := by decide +kernel
theorem dX8_floors_177 : decode cX8_floors 177 = .ok (.invokestatic 97, 3) := by decide +kernel
theorem dX8_floors_180 : decode cX8_floors 180 = .ok (.ifCond .eq 15, 3) := by decide +kernel
theorem dX8_floors_183 : decode cX8_floors 183 = .ok (.aload_n 0, 1) := by decide +kernel
theorem dX8_floors_184 : decode cX8_floors 184 = .ok (.getfield 7, 3) := by decide +kernel
theorem dX8_floors_187 : decode cX8_floors 187 = .ok (.iload 9, 2) := by decide +kernel
theorem dX8_floors_189 : decode cX8_floors 189 = .ok (.iload 10, 2) := by decide +kernel
theorem dX8_floors_191 : decode cX8_floors 191 = .ok (.iastore, 1) := by decide +kernel
theorem dX8_floors_192 : decode cX8_floors 192 = .ok (.iinc 5 1, 3) := by decide +kernel
theorem dX8_floors_195 : decode cX8_floors 195 = .ok (.iinc 6 1, 3) := by decide +kernel
theorem dX8_floors_198 : decode cX8_floors 198 = .ok (.goto (-113), 3) := by decide +kernel
theorem dX8_floors_201 : decode cX8_floors 201 = .ok (.iload 5, 2) := by decide +kernel
theorem dX8_floors_203 : decode cX8_floors 203 = .ok (.ireturn, 1) := by decide +kernel
theorem dX8_taken_0 : decode cX8_taken 0 = .ok (.aload_n 0, 1) := by decide +kernel
theorem dX8_taken_1 : decode cX8_taken 1 = .ok (.iconst 0, 1) := by decide +kernel
theorem dX8_taken_2 : decode cX8_taken 2 = .ok (.putfield 77, 3) := by decide +kernel
theorem dX8_taken_5 : decode cX8_taken 5 = .ok (.iload_n 2, 1) := by decide +kernel
theorem dX8_taken_6 : decode cX8_taken 6 = .ok (.i2l, 1) := by decide +kernel
theorem dX8_taken_7 : decode cX8_taken 7 = .ok (.lconst 0, 1) := by decide +kernel
theorem dX8_taken_8 : decode cX8_taken 8 = .ok (.ldc2_w 245, 3) := by decide +kernel
theorem dX8_taken_11 : decode cX8_taken 11 = .ok (.invokestatic 97, 3) := by decide +kernel
theorem dX8_taken_14 : decode cX8_taken 14 = .ok (.ifCond .ne 6, 3) := by decide +kernel
theorem dX8_taken_17 : decode cX8_taken 17 = .ok (.bipush (-2), 2) := by decide +kernel
theorem dX8_taken_19 : decode cX8_taken 19 = .ok (.ireturn, 1) := by decide +kernel
theorem dX8_taken_20 : decode cX8_taken 20 = .ok (.iload_n 1, 1) := by decide +kernel
theorem dX8_taken_21 : decode cX8_taken 21 = .ok (.i2l, 1) := by decide +kernel
theorem dX8_taken_22 : decode cX8_taken 22 = .ok (.lconst 0, 1) := by decide +kernel
theorem dX8_taken_23 : decode cX8_taken 23 = .ok (.ldc2_w 280, 3) := by decide +kernel
theorem dX8_taken_26 : decode cX8_taken 26 = .ok (.invokestatic 97, 3) := by decide +kernel
theorem dX8_taken_29 : decode cX8_taken 29 = .ok (.ifCond .ne 6, 3) := by decide +kernel
theorem dX8_taken_32 : decode cX8_taken 32 = .ok (.bipush (-11), 2) := by decide +kernel
theorem dX8_taken_34 : decode cX8_taken 34 = .ok (.ireturn, 1) := by decide +kernel
theorem dX8_taken_35 : decode cX8_taken 35 = .ok (.aload_n 0, 1) := by decide +kernel
theorem dX8_taken_36 : decode cX8_taken 36 = .ok (.getfield 13, 3) := by decide +kernel
theorem dX8_taken_39 : decode cX8_taken 39 = .ok (.iload_n 1, 1) := by decide +kernel
theorem dX8_taken_40 : decode cX8_taken 40 = .ok (.iaload, 1) := by decide +kernel
theorem dX8_taken_41 : decode cX8_taken 41 = .ok (.istore_n 3, 1) := by decide +kernel
theorem dX8_taken_42 : decode cX8_taken 42 = .ok (.iload_n 2, 1) := by decide +kernel
theorem dX8_taken_43 : decode cX8_taken 43 = .ok (.ifCond .eq 28, 3) := by decide +kernel
theorem dX8_taken_46 : decode cX8_taken 46 = .ok (.iload_n 3, 1) := by decide +kernel
theorem dX8_taken_47 : decode cX8_taken 47 = .ok (.iload_n 2, 1) := by decide +kernel
theorem dX8_taken_48 : decode cX8_taken 48 = .ok (.if_icmp .eq 23, 3) := by decide +kernel
theorem dX8_taken_51 : decode cX8_taken 51 = .ok (.iload_n 3, 1) := by decide +kernel
theorem dX8_taken_52 : decode cX8_taken 52 = .ok (.iconst 3, 1) := by decide +kernel
theorem dX8_taken_53 : decode cX8_taken 53 = .ok (.if_icmp .ne 8, 3) := by decide +kernel
theorem dX8_taken_56 : decode cX8_taken 56 = .ok (.iload_n 2, 1) := by decide +kernel
theorem dX8_taken_57 : decode cX8_taken 57 = .ok (.iconst 1, 1) := by decide +kernel
theorem dX8_taken_58 : decode cX8_taken 58 = .ok (.if_icmp .eq 13, 3) := by decide +kernel
theorem dX8_taken_61 : decode cX8_taken 61 = .ok (.iload_n 3, 1) := by decide +kernel
theorem dX8_taken_62 : decode cX8_taken 62 = .ok (.iconst 4, 1) := by decide +kernel
theorem dX8_taken_63 : decode cX8_taken 63 = .ok (.if_icmp .ne 12, 3) := by decide +kernel
theorem dX8_taken_66 : decode cX8_taken 66 = .ok (.iload_n 2, 1) := by decide +kernel
theorem dX8_taken_67 : decode cX8_taken 67 = .ok (.iconst 2, 1) := by decide +kernel
theorem dX8_taken_68 : decode cX8_taken 68 = .ok (.if_icmp .ne 7, 3) := by decide +kernel
theorem dX8_taken_71 : decode cX8_taken 71 = .ok (.iconst 1, 1) := by decide +kernel
theorem dX8_taken_72 : decode cX8_taken 72 = .ok (.goto 4, 3) := by decide +kernel
theorem dX8_taken_75 : decode cX8_taken 75 = .ok (.iconst 0, 1) := by decide +kernel
theorem dX8_taken_76 : decode cX8_taken 76 = .ok (.istore 4, 2) := by decide +kernel
theorem dX8_taken_78 : decode cX8_taken 78 = .ok (.iload 4, 2) := by decide +kernel
theorem dX8_taken_80 : decode cX8_taken 80 = .ok (.ifCond .eq 12, 3) := by decide +kernel
theorem dX8_taken_83 : decode cX8_taken 83 = .ok (.aload_n 0, 1) := by decide +kernel
theorem dX8_taken_84 : decode cX8_taken 84 = .ok (.getfield 16, 3) := by decide +kernel
theorem dX8_taken_87 : decode cX8_taken 87 = .ok (.iload_n 1, 1) := by decide +kernel
theorem dX8_taken_88 : decode cX8_taken 88 = .ok (.iaload, 1) := by decide +kernel
theorem dX8_taken_89 : decode cX8_taken 89 = .ok (.goto 5, 3) := by decide +kernel
theorem dX8_taken_92 : decode cX8_taken 92 = .ok (.bipush (-13), 2) := by decide +kernel
theorem dX8_taken_94 : decode cX8_taken 94 = .ok (.ireturn, 1) := by decide +kernel
