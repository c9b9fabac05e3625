def y_M_init : MethodName := ⟨zNm 11, "<init>", "()V"⟩
abbrev b_M_init : ByteArray := prog_13_method_9_code
theorem d_M_init_0 : decode b_M_init 0 = .ok (.aload_n 0, 1) := by decide +kernel
theorem d_M_init_1 : decode b_M_init 1 = .ok (.invokespecial 18, 3) := by decide +kernel
theorem d_M_init_4 : decode b_M_init 4 = .ok (.aload_n 0, 1) := by decide +kernel
theorem d_M_init_5 : decode b_M_init 5 = .ok (.bipush 7, 2) := by decide +kernel
theorem d_M_init_7 : decode b_M_init 7 = .ok (.newarray .int, 2) := by decide +kernel
theorem d_M_init_9 : decode b_M_init 9 = .ok (.putfield 7, 3) := by decide +kernel
theorem d_M_init_12 : decode b_M_init 12 = .ok (.aload_n 0, 1) := by decide +kernel
theorem d_M_init_13 : decode b_M_init 13 = .ok (.sipush 5807, 3) := by decide +kernel
theorem d_M_init_16 : decode b_M_init 16 = .ok (.newarray .int, 2) := by decide +kernel
theorem d_M_init_18 : decode b_M_init 18 = .ok (.putfield 24, 3) := by decide +kernel
theorem d_M_init_21 : decode b_M_init 21 = .ok (.aload_n 0, 1) := by decide +kernel
theorem d_M_init_22 : decode b_M_init 22 = .ok (.sipush 11614, 3) := by decide +kernel
theorem d_M_init_25 : decode b_M_init 25 = .ok (.newarray .int, 2) := by decide +kernel
theorem d_M_init_27 : decode b_M_init 27 = .ok (.putfield 27, 3) := by decide +kernel
theorem d_M_init_30 : decode b_M_init 30 = .ok (.aload_n 0, 1) := by decide +kernel
theorem d_M_init_31 : decode b_M_init 31 = .ok (.iconst 2, 1) := by decide +kernel
theorem d_M_init_32 : decode b_M_init 32 = .ok (.newarray .boolean, 2) := by decide +kernel
theorem d_M_init_34 : decode b_M_init 34 = .ok (.putfield 30, 3) := by decide +kernel
theorem d_M_init_37 : decode b_M_init 37 = .ok (.aload_n 0, 1) := by decide +kernel
theorem d_M_init_38 : decode b_M_init 38 = .ok (.sipush 184, 3) := by decide +kernel
theorem d_M_init_41 : decode b_M_init 41 = .ok (.newarray .int, 2) := by decide +kernel
theorem d_M_init_43 : decode b_M_init 43 = .ok (.putfield 34, 3) := by decide +kernel
theorem d_M_init_46 : decode b_M_init 46 = .ok (.aload_n 0, 1) := by decide +kernel
theorem d_M_init_47 : decode b_M_init 47 = .ok (.bipush 121, 2) := by decide +kernel
theorem d_M_init_49 : decode b_M_init 49 = .ok (.newarray .byte, 2) := by decide +kernel
theorem d_M_init_51 : decode b_M_init 51 = .ok (.dup, 1) := by decide +kernel
theorem d_M_init_52 : decode b_M_init 52 = .ok (.iconst 0, 1) := by decide +kernel
theorem d_M_init_53 : decode b_M_init 53 = .ok (.bipush 116, 2) := by decide +kernel
theorem d_M_init_55 : decode b_M_init 55 = .ok (.bastore, 1) := by decide +kernel
theorem d_M_init_56 : decode b_M_init 56 = .ok (.dup, 1) := by decide +kernel
theorem d_M_init_57 : decode b_M_init 57 = .ok (.iconst 1, 1) := by decide +kernel
theorem d_M_init_58 : decode b_M_init 58 = .ok (.bipush 97, 2) := by decide +kernel
theorem d_M_init_60 : decode b_M_init 60 = .ok (.bastore, 1) := by decide +kernel
theorem d_M_init_61 : decode b_M_init 61 = .ok (.dup, 1) := by decide +kernel
theorem d_M_init_62 : decode b_M_init 62 = .ok (.iconst 2, 1) := by decide +kernel
theorem d_M_init_63 : decode b_M_init 63 = .ok (.bipush 107, 2) := by decide +kernel
theorem d_M_init_65 : decode b_M_init 65 = .ok (.bastore, 1) := by decide +kernel
theorem d_M_init_66 : decode b_M_init 66 = .ok (.dup, 1) := by decide +kernel
theorem d_M_init_67 : decode b_M_init 67 = .ok (.iconst 3, 1) := by decide +kernel
theorem d_M_init_68 : decode b_M_init 68 = .ok (.bipush 101, 2) := by decide +kernel
theorem d_M_init_70 : decode b_M_init 70 = .ok (.bastore, 1) := by decide +kernel
theorem d_M_init_71 : decode b_M_init 71 = .ok (.dup, 1) := by decide +kernel
theorem d_M_init_72 : decode b_M_init 72 = .ok (.iconst 4, 1) := by decide +kernel
theorem d_M_init_73 : decode b_M_init 73 = .ok (.bipush 115, 2) := by decide +kernel
theorem d_M_init_75 : decode b_M_init 75 = .ok (.bastore, 1) := by decide +kernel
theorem d_M_init_76 : decode b_M_init 76 = .ok (.dup, 1) := by decide +kernel
theorem d_M_init_77 : decode b_M_init 77 = .ok (.iconst 5, 1) := by decide +kernel
theorem d_M_init_78 : decode b_M_init 78 = .ok (.bipush 32, 2) := by decide +kernel
theorem d_M_init_80 : decode b_M_init 80 = .ok (.bastore, 1) := by decide +kernel
theorem d_M_init_81 : decode b_M_init 81 = .ok (.dup, 1) := by decide +kernel
theorem d_M_init_82 : decode b_M_init 82 = .ok (.bipush 6, 2) := by decide +kernel
theorem d_M_init_84 : decode b_M_init 84 = .ok (.bipush 119, 2) := by decide +kernel
theorem d_M_init_86 : decode b_M_init 86 = .ok (.bastore, 1) := by decide +kernel
theorem d_M_init_87 : decode b_M_init 87 = .ok (.dup, 1) := by decide +kernel
theorem d_M_init_88 : decode b_M_init 88 = .ok (.bipush 7, 2) := by decide +kernel
theorem d_M_init_90 : decode b_M_init 90 = .ok (.bipush 101, 2) := by decide +kernel
theorem d_M_init_92 : decode b_M_init 92 = .ok (.bastore, 1) := by decide +kernel
theorem d_M_init_93 : decode b_M_init 93 = .ok (.dup, 1) := by decide +kernel
theorem d_M_init_94 : decode b_M_init 94 = .ok (.bipush 8, 2) := by decide +kernel
theorem d_M_init_96 : decode b_M_init 96 = .ok (.bipush 105, 2) := by decide +kernel
theorem d_M_init_98 : decode b_M_init 98 = .ok (.bastore, 1) := by decide +kernel
theorem d_M_init_99 : decode b_M_init 99 = .ok (.dup, 1) := by decide +kernel
theorem d_M_init_100 : decode b_M_init 100 = .ok (.bipush 9, 2) := by decide +kernel
theorem d_M_init_102 : decode b_M_init 102 = .ok (.bipush 103, 2) := by decide +kernel
theorem d_M_init_104 : decode b_M_init 104 = .ok (.bastore, 1) := by decide +kernel
theorem d_M_init_105 : decode b_M_init 105 = .ok (.dup, 1) := by decide +kernel
theorem d_M_init_106 : decode b_M_init 106 = .ok (.bipush 10, 2) := by decide +kernel
theorem d_M_init_108 : decode b_M_init 108 = .ok (.bipush 104, 2) := by decide +kernel
theorem d_M_init_110 : decode b_M_init 110 = .ok (.bastore, 1) := by decide +kernel
theorem d_M_init_111 : decode b_M_init 111 = .ok (.dup, 1) := by decide +kernel
theorem d_M_init_112 : decode b_M_init 112 = .ok (.bipush 11, 2) := by decide +kernel
theorem d_M_init_114 : decode b_M_init 114 = .ok (.bipush 115, 2) := by decide +kernel
theorem d_M_init_116 : decode b_M_init 116 = .ok (.bastore, 1) := by decide +kernel
theorem d_M_init_117 : decode b_M_init 117 = .ok (.dup, 1) := by decide +kernel
theorem d_M_init_118 : decode b_M_init 118 = .ok (.bipush 12, 2) := by decide +kernel
theorem d_M_init_120 : decode b_M_init 120 = .ok (.bipush 32, 2) := by decide +kernel
theorem d_M_init_122 : decode b_M_init 122 = .ok (.bastore, 1) := by decide +kernel
theorem d_M_init_123 : decode b_M_init 123 = .ok (.dup, 1) := by decide +kernel
theorem d_M_init_124 : decode b_M_init 124 = .ok (.bipush 13, 2) := by decide +kernel
theorem d_M_init_126 : decode b_M_init 126 = .ok (.bipush 115, 2) := by decide +kernel
theorem d_M_init_128 : decode b_M_init 128 = .ok (.bastore, 1) := by decide +kernel
theorem d_M_init_129 : decode b_M_init 129 = .ok (.dup, 1) := by decide +kernel
theorem d_M_init_130 : decode b_M_init 130 = .ok (.bipush 14, 2) := by decide +kernel
theorem d_M_init_132 : decode b_M_init 132 = .ok (.bipush 101, 2) := by decide +kernel
theorem d_M_init_134 : decode b_M_init 134 = .ok (.bastore, 1) := by decide +kernel
theorem d_M_init_135 : decode b_M_init 135 = .ok (.dup, 1) := by decide +kernel
theorem d_M_init_136 : decode b_M_init 136 = .ok (.bipush 15, 2) := by decide +kernel
theorem d_M_init_138 : decode b_M_init 138 = .ok (.bipush 116, 2) := by decide +kernel
theorem d_M_init_140 : decode b_M_init 140 = .ok (.bastore, 1) := by decide +kernel
theorem d_M_init_141 : decode b_M_init 141 = .ok (.dup, 1) := by decide +kernel
theorem d_M_init_142 : decode b_M_init 142 = .ok (.bipush 16, 2) := by decide +kernel
theorem d_M_init_144 : decode b_M_init 144 = .ok (.bipush 116, 2) := by decide +kernel
theorem d_M_init_146 : decode b_M_init 146 = .ok (.bastore, 1) := by decide +kernel
theorem d_M_init_147 : decode b_M_init 147 = .ok (.dup, 1) := by decide +kernel
theorem d_M_init_148 : decode b_M_init 148 = .ok (.bipush 17, 2) := by decide +kernel
theorem d_M_init_150 : decode b_M_init 150 = .ok (.bipush 108, 2) := by decide +kernel
theorem d_M_init_152 : decode b_M_init 152 = .ok (.bastore, 1) := by decide +kernel
theorem d_M_init_153 : decode b_M_init 153 = .ok (.dup, 1) := by decide +kernel
theorem d_M_init_154 : decode b_M_init 154 = .ok (.bipush 18, 2) := by decide +kernel
theorem d_M_init_156 : decode b_M_init 156 = .ok (.bipush 101, 2) := by decide +kernel
theorem d_M_init_158 : decode b_M_init 158 = .ok (.bastore, 1) := by decide +kernel
theorem d_M_init_159 : decode b_M_init 159 = .ok (.dup, 1) := by decide +kernel
theorem d_M_init_160 : decode b_M_init 160 = .ok (.bipush 19, 2) := by decide +kernel
theorem d_M_init_162 : decode b_M_init 162 = .ok (.bipush 115, 2) := by decide +kernel
theorem d_M_init_164 : decode b_M_init 164 = .ok (.bastore, 1) := by decide +kernel
theorem d_M_init_165 : decode b_M_init 165 = .ok (.dup, 1) := by decide +kernel
theorem d_M_init_166 : decode b_M_init 166 = .ok (.bipush 20, 2) := by decide +kernel
theorem d_M_init_168 : decode b_M_init 168 = .ok (.bipush 32, 2) := by decide +kernel
theorem d_M_init_170 : decode b_M_init 170 = .ok (.bastore, 1) := by decide +kernel
theorem d_M_init_171 : decode b_M_init 171 = .ok (.dup, 1) := by decide +kernel
theorem d_M_init_172 : decode b_M_init 172 = .ok (.bipush 21, 2) := by decide +kernel
theorem d_M_init_174 : decode b_M_init 174 = .ok (.bipush 98, 2) := by decide +kernel
theorem d_M_init_176 : decode b_M_init 176 = .ok (.bastore, 1) := by decide +kernel
theorem d_M_init_177 : decode b_M_init 177 = .ok (.dup, 1) := by decide +kernel
theorem d_M_init_178 : decode b_M_init 178 = .ok (.bipush 22, 2) := by decide +kernel
theorem d_M_init_180 : decode b_M_init 180 = .ok (.bipush 97, 2) := by decide +kernel
theorem d_M_init_182 : decode b_M_init 182 = .ok (.bastore, 1) := by decide +kernel
theorem d_M_init_183 : decode b_M_init 183 = .ok (.dup, 1) := by decide +kernel
theorem d_M_init_184 : decode b_M_init 184 = .ok (.bipush 23, 2) := by decide +kernel
theorem d_M_init_186 : decode b_M_init 186 = .ok (.bipush 114, 2) := by decide +kernel
theorem d_M_init_188 : decode b_M_init 188 = .ok (.bastore, 1) := by decide +kernel
theorem d_M_init_189 : decode b_M_init 189 = .ok (.dup, 1) := by decide +kernel
theorem d_M_init_190 : decode b_M_init 190 = .ok (.bipush 24, 2) := by decide +kernel
theorem d_M_init_192 : decode b_M_init 192 = .ok (.bipush 115, 2) := by decide +kernel
theorem d_M_init_194 : decode b_M_init 194 = .ok (.bastore, 1) := by decide +kernel
theorem d_M_init_195 : decode b_M_init 195 = .ok (.dup, 1) := by decide +kernel
theorem d_M_init_196 : decode b_M_init 196 = .ok (.bipush 25, 2) := by decide +kernel
theorem d_M_init_198 : decode b_M_init 198 = .ok (.bipush 32, 2) := by decide +kernel
theorem d_M_init_200 : decode b_M_init 200 = .ok (.bastore, 1) := by decide +kernel
theorem d_M_init_201 : decode b_M_init 201 = .ok (.dup, 1) := by decide +kernel
theorem d_M_init_202 : decode b_M_init 202 = .ok (.bipush 26, 2) := by decide +kernel
theorem d_M_init_204 : decode b_M_init 204 = .ok (.bipush 105, 2) := by decide +kernel
theorem d_M_init_206 : decode b_M_init 206 = .ok (.bastore, 1) := by decide +kernel
theorem d_M_init_207 : decode b_M_init 207 = .ok (.dup, 1) := by decide +kernel
theorem d_M_init_208 : decode b_M_init 208 = .ok (.bipush 27, 2) := by decide +kernel
theorem d_M_init_210 : decode b_M_init 210 = .ok (.bipush 102, 2) := by decide +kernel
theorem d_M_init_212 : decode b_M_init 212 = .ok (.bastore, 1) := by decide +kernel
theorem d_M_init_213 : decode b_M_init 213 = .ok (.dup, 1) := by decide +kernel
theorem d_M_init_214 : decode b_M_init 214 = .ok (.bipush 28, 2) := by decide +kernel
theorem d_M_init_216 : decode b_M_init 216 = .ok (.bipush 32, 2) := by decide +kernel
theorem d_M_init_218 : decode b_M_init 218 = .ok (.bastore, 1) := by decide +kernel
theorem d_M_init_219 : decode b_M_init 219 = .ok (.dup, 1) := by decide +kernel
theorem d_M_init_220 : decode b_M_init 220 = .ok (.bipush 29, 2) := by decide +kernel
theorem d_M_init_222 : decode b_M_init 222 = .ok (.bipush 111, 2) := by decide +kernel
theorem d_M_init_224 : decode b_M_init 224 = .ok (.bastore, 1) := by decide +kernel
theorem d_M_init_225 : decode b_M_init 225 = .ok (.dup, 1) := by decide +kernel
theorem d_M_init_226 : decode b_M_init 226 = .ok (.bipush 30, 2) := by decide +kernel
theorem d_M_init_228 : decode b_M_init 228 = .ok (.bipush 114, 2) := by decide +kernel
theorem d_M_init_230 : decode b_M_init 230 = .ok (.bastore, 1) := by decide +kernel
theorem d_M_init_231 : decode b_M_init 231 = .ok (.dup, 1) := by decide +kernel
theorem d_M_init_232 : decode b_M_init 232 = .ok (.bipush 31, 2) := by decide +kernel
theorem d_M_init_234 : decode b_M_init 234 = .ok (.bipush 32, 2) := by decide +kernel
theorem d_M_init_236 : decode b_M_init 236 = .ok (.bastore, 1) := by decide +kernel
theorem d_M_init_237 : decode b_M_init 237 = .ok (.dup, 1) := by decide +kernel
theorem d_M_init_238 : decode b_M_init 238 = .ok (.bipush 32, 2) := by decide +kernel
theorem d_M_init_240 : decode b_M_init 240 = .ok (.bipush 97, 2) := by decide +kernel
theorem d_M_init_242 : decode b_M_init 242 = .ok (.bastore, 1) := by decide +kernel
theorem d_M_init_243 : decode b_M_init 243 = .ok (.dup, 1) := by decide +kernel
theorem d_M_init_244 : decode b_M_init 244 = .ok (.bipush 33, 2) := by decide +kernel
theorem d_M_init_246 : decode b_M_init 246 = .ok (.bipush 110, 2) := by decide +kernel
theorem d_M_init_248 : decode b_M_init 248 = .ok (.bastore, 1) := by decide +kernel
theorem d_M_init_249 : decode b_M_init 249 = .ok (.dup, 1) := by decide +kernel
theorem d_M_init_250 : decode b_M_init 250 = .ok (.bipush 34, 2) := by decide +kernel
theorem d_M_init_252 : decode b_M_init 252 = .ok (.bipush 100, 2) := by decide +kernel
theorem d_M_init_254 : decode b_M_init 254 = .ok (.bastore, 1) := by decide +kernel
theorem d_M_init_255 : decode b_M_init 255 = .ok (.dup, 1) := by decide +kernel
theorem d_M_init_256 : decode b_M_init 256 = .ok (.bipush 35, 2) := by decide +kernel
theorem d_M_init_258 : decode b_M_init 258 = .ok (.bipush 32, 2) := by decide +kernel
theorem d_M_init_260 : decode b_M_init 260 = .ok (.bastore, 1) := by decide +kernel
theorem d_M_init_261 : decode b_M_init 261 = .ok (.dup, 1) := by decide +kernel
theorem d_M_init_262 : decode b_M_init 262 = .ok (.bipush 36, 2) := by decide +kernel
theorem d_M_init_264 : decode b_M_init 264 = .ok (.bipush 110, 2) := by decide +kernel
theorem d_M_init_266 : decode b_M_init 266 = .ok (.bastore, 1) := by decide +kernel
theorem d_M_init_267 : decode b_M_init 267 = .ok (.dup, 1) := by decide +kernel
theorem d_M_init_268 : decode b_M_init 268 = .ok (.bipush 37, 2) := by decide +kernel
theorem d_M_init_270 : decode b_M_init 270 = .ok (.bipush 111, 2) := by decide +kernel
theorem d_M_init_272 : decode b_M_init 272 = .ok (.bastore, 1) := by decide +kernel
theorem d_M_init_273 : decode b_M_init 273 = .ok (.dup, 1) := by decide +kernel
theorem d_M_init_274 : decode b_M_init 274 = .ok (.bipush 38, 2) := by decide +kernel
theorem d_M_init_276 : decode b_M_init 276 = .ok (.bipush 116, 2) := by decide +kernel
theorem d_M_init_278 : decode b_M_init 278 = .ok (.bastore, 1) := by decide +kernel
theorem d_M_init_279 : decode b_M_init 279 = .ok (.dup, 1) := by decide +kernel
theorem d_M_init_280 : decode b_M_init 280 = .ok (.bipush 39, 2) := by decide +kernel
theorem d_M_init_282 : decode b_M_init 282 = .ok (.bipush 32, 2) := by decide +kernel
theorem d_M_init_284 : decode b_M_init 284 = .ok (.bastore, 1) := by decide +kernel
theorem d_M_init_285 : decode b_M_init 285 = .ok (.dup, 1) := by decide +kernel
theorem d_M_init_286 : decode b_M_init 286 = .ok (.bipush 40, 2) := by decide +kernel
theorem d_M_init_288 : decode b_M_init 288 = .ok (.bipush 102, 2) := by decide +kernel
theorem d_M_init_290 : decode b_M_init 290 = .ok (.bastore, 1) := by decide +kernel
theorem d_M_init_291 : decode b_M_init 291 = .ok (.dup, 1) := by decide +kernel
theorem d_M_init_292 : decode b_M_init 292 = .ok (.bipush 41, 2) := by decide +kernel
theorem d_M_init_294 : decode b_M_init 294 = .ok (.bipush 114, 2) := by decide +kernel
theorem d_M_init_296 : decode b_M_init 296 = .ok (.bastore, 1) := by decide +kernel
theorem d_M_init_297 : decode b_M_init 297 = .ok (.dup, 1) := by decide +kernel
theorem d_M_init_298 : decode b_M_init 298 = .ok (.bipush 42, 2) := by decide +kernel
theorem d_M_init_300 : decode b_M_init 300 = .ok (.bipush 111, 2) := by decide +kernel
theorem d_M_init_302 : decode b_M_init 302 = .ok (.bastore, 1) := by decide +kernel
theorem d_M_init_303 : decode b_M_init 303 = .ok (.dup, 1) := by decide +kernel
theorem d_M_init_304 : decode b_M_init 304 = .ok (.bipush 43, 2) := by decide +kernel
theorem d_M_init_306 : decode b_M_init 306 = .ok (.bipush 109, 2) := by decide +kernel
theorem d_M_init_308 : decode b_M_init 308 = .ok (.bastore, 1) := by decide +kernel
theorem d_M_init_309 : decode b_M_init 309 = .ok (.dup, 1) := by decide +kernel
theorem d_M_init_310 : decode b_M_init 310 = .ok (.bipush 44, 2) := by decide +kernel
theorem d_M_init_312 : decode b_M_init 312 = .ok (.bipush 32, 2) := by decide +kernel
theorem d_M_init_314 : decode b_M_init 314 = .ok (.bastore, 1) := by decide +kernel
theorem d_M_init_315 : decode b_M_init 315 = .ok (.dup, 1) := by decide +kernel
theorem d_M_init_316 : decode b_M_init 316 = .ok (.bipush 45, 2) := by decide +kernel
theorem d_M_init_318 : decode b_M_init 318 = .ok (.bipush 116, 2) := by decide +kernel
theorem d_M_init_320 : decode b_M_init 320 = .ok (.bastore, 1) := by decide +kernel
theorem d_M_init_321 : decode b_M_init 321 = .ok (.dup, 1) := by decide +kernel
theorem d_M_init_322 : decode b_M_init 322 = .ok (.bipush 46, 2) := by decide +kernel
theorem d_M_init_324 : decode b_M_init 324 = .ok (.bipush 111, 2) := by decide +kernel
theorem d_M_init_326 : decode b_M_init 326 = .ok (.bastore, 1) := by decide +kernel
theorem d_M_init_327 : decode b_M_init 327 = .ok (.dup, 1) := by decide +kernel
theorem d_M_init_328 : decode b_M_init 328 = .ok (.bipush 47, 2) := by decide +kernel
theorem d_M_init_330 : decode b_M_init 330 = .ok (.bipush 32, 2) := by decide +kernel
theorem d_M_init_332 : decode b_M_init 332 = .ok (.bastore, 1) := by decide +kernel
theorem d_M_init_333 : decode b_M_init 333 = .ok (.dup, 1) := by decide +kernel
theorem d_M_init_334 : decode b_M_init 334 = .ok (.bipush 48, 2) := by decide +kernel
theorem d_M_init_336 : decode b_M_init 336 = .ok (.bipush 102, 2) := by decide +kernel
theorem d_M_init_338 : decode b_M_init 338 = .ok (.bastore, 1) := by decide +kernel
theorem d_M_init_339 : decode b_M_init 339 = .ok (.dup, 1) := by decide +kernel
theorem d_M_init_340 : decode b_M_init 340 = .ok (.bipush 49, 2) := by decide +kernel
theorem d_M_init_342 : decode b_M_init 342 = .ok (.bipush 97, 2) := by decide +kernel
theorem d_M_init_344 : decode b_M_init 344 = .ok (.bastore, 1) := by decide +kernel
theorem d_M_init_345 : decode b_M_init 345 = .ok (.dup, 1) := by decide +kernel
theorem d_M_init_346 : decode b_M_init 346 = .ok (.bipush 50, 2) := by decide +kernel
theorem d_M_init_348 : decode b_M_init 348 = .ok (.bipush 114, 2) := by decide +kernel
theorem d_M_init_350 : decode b_M_init 350 = .ok (.bastore, 1) := by decide +kernel
theorem d_M_init_351 : decode b_M_init 351 = .ok (.dup, 1) := by decide +kernel
theorem d_M_init_352 : decode b_M_init 352 = .ok (.bipush 51, 2) := by decide +kernel
theorem d_M_init_354 : decode b_M_init 354 = .ok (.bipush 32, 2) := by decide +kernel
theorem d_M_init_356 : decode b_M_init 356 = .ok (.bastore, 1) := by decide +kernel
theorem d_M_init_357 : decode b_M_init 357 = .ok (.dup, 1) := by decide +kernel
theorem d_M_init_358 : decode b_M_init 358 = .ok (.bipush 52, 2) := by decide +kernel
theorem d_M_init_360 : decode b_M_init 360 = .ok (.bipush 102, 2) := by decide +kernel
theorem d_M_init_362 : decode b_M_init 362 = .ok (.bastore, 1) := by decide +kernel
theorem d_M_init_363 : decode b_M_init 363 = .ok (.dup, 1) := by decide +kernel
theorem d_M_init_364 : decode b_M_init 364 = .ok (.bipush 53, 2) := by decide +kernel
theorem d_M_init_366 : decode b_M_init 366 = .ok (.bipush 97, 2) := by decide +kernel
theorem d_M_init_368 : decode b_M_init 368 = .ok (.bastore, 1) := by decide +kernel
theorem d_M_init_369 : decode b_M_init 369 = .ok (.dup, 1) := by decide +kernel
theorem d_M_init_370 : decode b_M_init 370 = .ok (.bipush 54, 2) := by decide +kernel
theorem d_M_init_372 : decode b_M_init 372 = .ok (.bipush 108, 2) := by decide +kernel
theorem d_M_init_374 : decode b_M_init 374 = .ok (.bastore, 1) := by decide +kernel
theorem d_M_init_375 : decode b_M_init 375 = .ok (.dup, 1) := by decide +kernel
theorem d_M_init_376 : decode b_M_init 376 = .ok (.bipush 55, 2) := by decide +kernel
theorem d_M_init_378 : decode b_M_init 378 = .ok (.bipush 108, 2) := by decide +kernel
theorem d_M_init_380 : decode b_M_init 380 = .ok (.bastore, 1) := by decide +kernel
theorem d_M_init_381 : decode b_M_init 381 = .ok (.dup, 1) := by decide +kernel
theorem d_M_init_382 : decode b_M_init 382 = .ok (.bipush 56, 2) := by decide +kernel
theorem d_M_init_384 : decode b_M_init 384 = .ok (.bipush 32, 2) := by decide +kernel
theorem d_M_init_386 : decode b_M_init 386 = .ok (.bastore, 1) := by decide +kernel
theorem d_M_init_387 : decode b_M_init 387 = .ok (.dup, 1) := by decide +kernel
theorem d_M_init_388 : decode b_M_init 388 = .ok (.bipush 57, 2) := by decide +kernel
theorem d_M_init_390 : decode b_M_init 390 = .ok (.bipush 109, 2) := by decide +kernel
theorem d_M_init_392 : decode b_M_init 392 = .ok (.bastore, 1) := by decide +kernel
theorem d_M_init_393 : decode b_M_init 393 = .ok (.dup, 1) := by decide +kernel
theorem d_M_init_394 : decode b_M_init 394 = .ok (.bipush 58, 2) := by decide +kernel
theorem d_M_init_396 : decode b_M_init 396 = .ok (.bipush 111, 2) := by decide +kernel
theorem d_M_init_398 : decode b_M_init 398 = .ok (.bastore, 1) := by decide +kernel
theorem d_M_init_399 : decode b_M_init 399 = .ok (.dup, 1) := by decide +kernel
theorem d_M_init_400 : decode b_M_init 400 = .ok (.bipush 59, 2) := by decide +kernel
theorem d_M_init_402 : decode b_M_init 402 = .ok (.bipush 111, 2) := by decide +kernel
theorem d_M_init_404 : decode b_M_init 404 = .ok (.bastore, 1) := by decide +kernel
theorem d_M_init_405 : decode b_M_init 405 = .ok (.dup, 1) := by decide +kernel
theorem d_M_init_406 : decode b_M_init 406 = .ok (.bipush 60, 2) := by decide +kernel
theorem d_M_init_408 : decode b_M_init 408 = .ok (.bipush 100, 2) := by decide +kernel
theorem d_M_init_410 : decode b_M_init 410 = .ok (.bastore, 1) := by decide +kernel
theorem d_M_init_411 : decode b_M_init 411 = .ok (.dup, 1) := by decide +kernel
theorem d_M_init_412 : decode b_M_init 412 = .ok (.bipush 61, 2) := by decide +kernel
theorem d_M_init_414 : decode b_M_init 414 = .ok (.bipush 32, 2) := by decide +kernel
theorem d_M_init_416 : decode b_M_init 416 = .ok (.bastore, 1) := by decide +kernel
theorem d_M_init_417 : decode b_M_init 417 = .ok (.dup, 1) := by decide +kernel
theorem d_M_init_418 : decode b_M_init 418 = .ok (.bipush 62, 2) := by decide +kernel
theorem d_M_init_420 : decode b_M_init 420 = .ok (.bipush 109, 2) := by decide +kernel
theorem d_M_init_422 : decode b_M_init 422 = .ok (.bastore, 1) := by decide +kernel
theorem d_M_init_423 : decode b_M_init 423 = .ok (.dup, 1) := by decide +kernel
theorem d_M_init_424 : decode b_M_init 424 = .ok (.bipush 63, 2) := by decide +kernel
theorem d_M_init_426 : decode b_M_init 426 = .ok (.bipush 117, 2) := by decide +kernel
theorem d_M_init_428 : decode b_M_init 428 = .ok (.bastore, 1) := by decide +kernel
theorem d_M_init_429 : decode b_M_init 429 = .ok (.dup, 1) := by decide +kernel
theorem d_M_init_430 : decode b_M_init 430 = .ok (.bipush 64, 2) := by decide +kernel
theorem d_M_init_432 : decode b_M_init 432 = .ok (.bipush 100, 2) := by decide +kernel
theorem d_M_init_434 : decode b_M_init 434 = .ok (.bastore, 1) := by decide +kernel
theorem d_M_init_435 : decode b_M_init 435 = .ok (.dup, 1) := by decide +kernel
theorem d_M_init_436 : decode b_M_init 436 = .ok (.bipush 65, 2) := by decide +kernel
theorem d_M_init_438 : decode b_M_init 438 = .ok (.bipush 32, 2) := by decide +kernel
theorem d_M_init_440 : decode b_M_init 440 = .ok (.bastore, 1) := by decide +kernel
theorem d_M_init_441 : decode b_M_init 441 = .ok (.dup, 1) := by decide +kernel
theorem d_M_init_442 : decode b_M_init 442 = .ok (.bipush 66, 2) := by decide +kernel
theorem d_M_init_444 : decode b_M_init 444 = .ok (.bipush 100, 2) := by decide +kernel
theorem d_M_init_446 : decode b_M_init 446 = .ok (.bastore, 1) := by decide +kernel
theorem d_M_init_447 : decode b_M_init 447 = .ok (.dup, 1) := by decide +kernel
theorem d_M_init_448 : decode b_M_init 448 = .ok (.bipush 67, 2) := by decide +kernel
theorem d_M_init_450 : decode b_M_init 450 = .ok (.bipush 97, 2) := by decide +kernel
theorem d_M_init_452 : decode b_M_init 452 = .ok (.bastore, 1) := by decide +kernel
theorem d_M_init_453 : decode b_M_init 453 = .ok (.dup, 1) := by decide +kernel
theorem d_M_init_454 : decode b_M_init 454 = .ok (.bipush 68, 2) := by decide +kernel
theorem d_M_init_456 : decode b_M_init 456 = .ok (.bipush 121, 2) := by decide +kernel
theorem d_M_init_458 : decode b_M_init 458 = .ok (.bastore, 1) := by decide +kernel
theorem d_M_init_459 : decode b_M_init 459 = .ok (.dup, 1) := by decide +kernel
theorem d_M_init_460 : decode b_M_init 460 = .ok (.bipush 69, 2) := by decide +kernel
theorem d_M_init_462 : decode b_M_init 462 = .ok (.bipush 32, 2) := by decide +kernel
theorem d_M_init_464 : decode b_M_init 464 = .ok (.bastore, 1) := by decide +kernel
theorem d_M_init_465 : decode b_M_init 465 = .ok (.dup, 1) := by decide +kernel
theorem d_M_init_466 : decode b_M_init 466 = .ok (.bipush 70, 2) := by decide +kernel
theorem d_M_init_468 : decode b_M_init 468 = .ok (.bipush 100, 2) := by decide +kernel
theorem d_M_init_470 : decode b_M_init 470 = .ok (.bastore, 1) := by decide +kernel
theorem d_M_init_471 : decode b_M_init 471 = .ok (.dup, 1) := by decide +kernel
theorem d_M_init_472 : decode b_M_init 472 = .ok (.bipush 71, 2) := by decide +kernel
theorem d_M_init_474 : decode b_M_init 474 = .ok (.bipush 111, 2) := by decide +kernel
theorem d_M_init_476 : decode b_M_init 476 = .ok (.bastore, 1) := by decide +kernel
theorem d_M_init_477 : decode b_M_init 477 = .ok (.dup, 1) := by decide +kernel
theorem d_M_init_478 : decode b_M_init 478 = .ok (.bipush 72, 2) := by decide +kernel
theorem d_M_init_480 : decode b_M_init 480 = .ok (.bipush 110, 2) := by decide +kernel
theorem d_M_init_482 : decode b_M_init 482 = .ok (.bastore, 1) := by decide +kernel
theorem d_M_init_483 : decode b_M_init 483 = .ok (.dup, 1) := by decide +kernel
theorem d_M_init_484 : decode b_M_init 484 = .ok (.bipush 73, 2) := by decide +kernel
theorem d_M_init_486 : decode b_M_init 486 = .ok (.bipush 101, 2) := by decide +kernel
theorem d_M_init_488 : decode b_M_init 488 = .ok (.bastore, 1) := by decide +kernel
theorem d_M_init_489 : decode b_M_init 489 = .ok (.dup, 1) := by decide +kernel
theorem d_M_init_490 : decode b_M_init 490 = .ok (.bipush 74, 2) := by decide +kernel
theorem d_M_init_492 : decode b_M_init 492 = .ok (.bipush 32, 2) := by decide +kernel
theorem d_M_init_494 : decode b_M_init 494 = .ok (.bastore, 1) := by decide +kernel
theorem d_M_init_495 : decode b_M_init 495 = .ok (.dup, 1) := by decide +kernel
theorem d_M_init_496 : decode b_M_init 496 = .ok (.bipush 75, 2) := by decide +kernel
theorem d_M_init_498 : decode b_M_init 498 = .ok (.bipush 108, 2) := by decide +kernel
theorem d_M_init_500 : decode b_M_init 500 = .ok (.bastore, 1) := by decide +kernel
theorem d_M_init_501 : decode b_M_init 501 = .ok (.dup, 1) := by decide +kernel
theorem d_M_init_502 : decode b_M_init 502 = .ok (.bipush 76, 2) := by decide +kernel
theorem d_M_init_504 : decode b_M_init 504 = .ok (.bipush 97, 2) := by decide +kernel
theorem d_M_init_506 : decode b_M_init 506 = .ok (.bastore, 1) := by decide +kernel
theorem d_M_init_507 : decode b_M_init 507 = .ok (.dup, 1) := by decide +kernel
theorem d_M_init_508 : decode b_M_init 508 = .ok (.bipush 77, 2) := by decide +kernel
theorem d_M_init_510 : decode b_M_init 510 = .ok (.bipush 116, 2) := by decide +kernel
theorem d_M_init_512 : decode b_M_init 512 = .ok (.bastore, 1) := by decide +kernel
theorem d_M_init_513 : decode b_M_init 513 = .ok (.dup, 1) := by decide +kernel
theorem d_M_init_514 : decode b_M_init 514 = .ok (.bipush 78, 2) := by decide +kernel
theorem d_M_init_516 : decode b_M_init 516 = .ok (.bipush 101, 2) := by decide +kernel
theorem d_M_init_518 : decode b_M_init 518 = .ok (.bastore, 1) := by decide +kernel
theorem d_M_init_519 : decode b_M_init 519 = .ok (.dup, 1) := by decide +kernel
theorem d_M_init_520 : decode b_M_init 520 = .ok (.bipush 79, 2) := by decide +kernel
theorem d_M_init_522 : decode b_M_init 522 = .ok (.bipush 115, 2) := by decide +kernel
theorem d_M_init_524 : decode b_M_init 524 = .ok (.bastore, 1) := by decide +kernel
theorem d_M_init_525 : decode b_M_init 525 = .ok (.dup, 1) := by decide +kernel
theorem d_M_init_526 : decode b_M_init 526 = .ok (.bipush 80, 2) := by decide +kernel
theorem d_M_init_528 : decode b_M_init 528 = .ok (.bipush 116, 2) := by decide +kernel
theorem d_M_init_530 : decode b_M_init 530 = .ok (.bastore, 1) := by decide +kernel
theorem d_M_init_531 : decode b_M_init 531 = .ok (.dup, 1) := by decide +kernel
theorem d_M_init_532 : decode b_M_init 532 = .ok (.bipush 81, 2) := by decide +kernel
theorem d_M_init_534 : decode b_M_init 534 = .ok (.bipush 32, 2) := by decide +kernel
theorem d_M_init_536 : decode b_M_init 536 = .ok (.bastore, 1) := by decide +kernel
theorem d_M_init_537 : decode b_M_init 537 = .ok (.dup, 1) := by decide +kernel
theorem d_M_init_538 : decode b_M_init 538 = .ok (.bipush 82, 2) := by decide +kernel
theorem d_M_init_540 : decode b_M_init 540 = .ok (.bipush 97, 2) := by decide +kernel
theorem d_M_init_542 : decode b_M_init 542 = .ok (.bastore, 1) := by decide +kernel
theorem d_M_init_543 : decode b_M_init 543 = .ok (.dup, 1) := by decide +kernel
theorem d_M_init_544 : decode b_M_init 544 = .ok (.bipush 83, 2) := by decide +kernel
theorem d_M_init_546 : decode b_M_init 546 = .ok (.bipush 116, 2) := by decide +kernel
theorem d_M_init_548 : decode b_M_init 548 = .ok (.bastore, 1) := by decide +kernel
theorem d_M_init_549 : decode b_M_init 549 = .ok (.dup, 1) := by decide +kernel
theorem d_M_init_550 : decode b_M_init 550 = .ok (.bipush 84, 2) := by decide +kernel
theorem d_M_init_552 : decode b_M_init 552 = .ok (.bipush 32, 2) := by decide +kernel
theorem d_M_init_554 : decode b_M_init 554 = .ok (.bastore, 1) := by decide +kernel
theorem d_M_init_555 : decode b_M_init 555 = .ok (.dup, 1) := by decide +kernel
theorem d_M_init_556 : decode b_M_init 556 = .ok (.bipush 85, 2) := by decide +kernel
theorem d_M_init_558 : decode b_M_init 558 = .ok (.bipush 115, 2) := by decide +kernel
theorem d_M_init_560 : decode b_M_init 560 = .ok (.bastore, 1) := by decide +kernel
theorem d_M_init_561 : decode b_M_init 561 = .ok (.dup, 1) := by decide +kernel
theorem d_M_init_562 : decode b_M_init 562 = .ok (.bipush 86, 2) := by decide +kernel
theorem d_M_init_564 : decode b_M_init 564 = .ok (.bipush 104, 2) := by decide +kernel
theorem d_M_init_566 : decode b_M_init 566 = .ok (.bastore, 1) := by decide +kernel
theorem d_M_init_567 : decode b_M_init 567 = .ok (.dup, 1) := by decide +kernel
theorem d_M_init_568 : decode b_M_init 568 = .ok (.bipush 87, 2) := by decide +kernel
theorem d_M_init_570 : decode b_M_init 570 = .ok (.bipush 117, 2) := by decide +kernel
theorem d_M_init_572 : decode b_M_init 572 = .ok (.bastore, 1) := by decide +kernel
theorem d_M_init_573 : decode b_M_init 573 = .ok (.dup, 1) := by decide +kernel
theorem d_M_init_574 : decode b_M_init 574 = .ok (.bipush 88, 2) := by decide +kernel
theorem d_M_init_576 : decode b_M_init 576 = .ok (.bipush 116, 2) := by decide +kernel
theorem d_M_init_578 : decode b_M_init 578 = .ok (.bastore, 1) := by decide +kernel
theorem d_M_init_579 : decode b_M_init 579 = .ok (.dup, 1) := by decide +kernel
theorem d_M_init_580 : decode b_M_init 580 = .ok (.bipush 89, 2) := by decide +kernel
theorem d_M_init_582 : decode b_M_init 582 = .ok (.bipush 32, 2) := by decide +kernel
theorem d_M_init_584 : decode b_M_init 584 = .ok (.bastore, 1) := by decide +kernel
theorem d_M_init_585 : decode b_M_init 585 = .ok (.dup, 1) := by decide +kernel
theorem d_M_init_586 : decode b_M_init 586 = .ok (.bipush 90, 2) := by decide +kernel
theorem d_M_init_588 : decode b_M_init 588 = .ok (.bipush 115, 2) := by decide +kernel
theorem d_M_init_590 : decode b_M_init 590 = .ok (.bastore, 1) := by decide +kernel
theorem d_M_init_591 : decode b_M_init 591 = .ok (.dup, 1) := by decide +kernel
theorem d_M_init_592 : decode b_M_init 592 = .ok (.bipush 91, 2) := by decide +kernel
theorem d_M_init_594 : decode b_M_init 594 = .ok (.bipush 111, 2) := by decide +kernel
theorem d_M_init_596 : decode b_M_init 596 = .ok (.bastore, 1) := by decide +kernel
theorem d_M_init_597 : decode b_M_init 597 = .ok (.dup, 1) := by decide +kernel
theorem d_M_init_598 : decode b_M_init 598 = .ok (.bipush 92, 2) := by decide +kernel
theorem d_M_init_600 : decode b_M_init 600 = .ok (.bipush 111, 2) := by decide +kernel
theorem d_M_init_602 : decode b_M_init 602 = .ok (.bastore, 1) := by decide +kernel
theorem d_M_init_603 : decode b_M_init 603 = .ok (.dup, 1) := by decide +kernel
theorem d_M_init_604 : decode b_M_init 604 = .ok (.bipush 93, 2) := by decide +kernel
theorem d_M_init_606 : decode b_M_init 606 = .ok (.bipush 110, 2) := by decide +kernel
theorem d_M_init_608 : decode b_M_init 608 = .ok (.bastore, 1) := by decide +kernel
theorem d_M_init_609 : decode b_M_init 609 = .ok (.dup, 1) := by decide +kernel
theorem d_M_init_610 : decode b_M_init 610 = .ok (.bipush 94, 2) := by decide +kernel
theorem d_M_init_612 : decode b_M_init 612 = .ok (.bipush 32, 2) := by decide +kernel
theorem d_M_init_614 : decode b_M_init 614 = .ok (.bastore, 1) := by decide +kernel
theorem d_M_init_615 : decode b_M_init 615 = .ok (.dup, 1) := by decide +kernel
theorem d_M_init_616 : decode b_M_init 616 = .ok (.bipush 95, 2) := by decide +kernel
theorem d_M_init_618 : decode b_M_init 618 = .ok (.bipush 115, 2) := by decide +kernel
theorem d_M_init_620 : decode b_M_init 620 = .ok (.bastore, 1) := by decide +kernel
theorem d_M_init_621 : decode b_M_init 621 = .ok (.dup, 1) := by decide +kernel
theorem d_M_init_622 : decode b_M_init 622 = .ok (.bipush 96, 2) := by decide +kernel
theorem d_M_init_624 : decode b_M_init 624 = .ok (.bipush 119, 2) := by decide +kernel
theorem d_M_init_626 : decode b_M_init 626 = .ok (.bastore, 1) := by decide +kernel
theorem d_M_init_627 : decode b_M_init 627 = .ok (.dup, 1) := by decide +kernel
theorem d_M_init_628 : decode b_M_init 628 = .ok (.bipush 97, 2) := by decide +kernel
theorem d_M_init_630 : decode b_M_init 630 = .ok (.bipush 105, 2) := by decide +kernel
theorem d_M_init_632 : decode b_M_init 632 = .ok (.bastore, 1) := by decide +kernel
theorem d_M_init_633 : decode b_M_init 633 = .ok (.dup, 1) := by decide +kernel
theorem d_M_init_634 : decode b_M_init 634 = .ok (.bipush 98, 2) := by decide +kernel
theorem d_M_init_636 : decode b_M_init 636 = .ok (.bipush 109, 2) := by decide +kernel
theorem d_M_init_638 : decode b_M_init 638 = .ok (.bastore, 1) := by decide +kernel
theorem d_M_init_639 : decode b_M_init 639 = .ok (.dup, 1) := by decide +kernel
theorem d_M_init_640 : decode b_M_init 640 = .ok (.bipush 99, 2) := by decide +kernel
theorem d_M_init_642 : decode b_M_init 642 = .ok (.bipush 32, 2) := by decide +kernel
theorem d_M_init_644 : decode b_M_init 644 = .ok (.bastore, 1) := by decide +kernel
theorem d_M_init_645 : decode b_M_init 645 = .ok (.dup, 1) := by decide +kernel
theorem d_M_init_646 : decode b_M_init 646 = .ok (.bipush 100, 2) := by decide +kernel
theorem d_M_init_648 : decode b_M_init 648 = .ok (.bipush 103, 2) := by decide +kernel
theorem d_M_init_650 : decode b_M_init 650 = .ok (.bastore, 1) := by decide +kernel
theorem d_M_init_651 : decode b_M_init 651 = .ok (.dup, 1) := by decide +kernel
theorem d_M_init_652 : decode b_M_init 652 = .ok (.bipush 101, 2) := by decide +kernel
theorem d_M_init_654 : decode b_M_init 654 = .ok (.bipush 97, 2) := by decide +kernel
theorem d_M_init_656 : decode b_M_init 656 = .ok (.bastore, 1) := by decide +kernel
theorem d_M_init_657 : decode b_M_init 657 = .ok (.dup, 1) := by decide +kernel
theorem d_M_init_658 : decode b_M_init 658 = .ok (.bipush 102, 2) := by decide +kernel
theorem d_M_init_660 : decode b_M_init 660 = .ok (.bipush 116, 2) := by decide +kernel
theorem d_M_init_662 : decode b_M_init 662 = .ok (.bastore, 1) := by decide +kernel
theorem d_M_init_663 : decode b_M_init 663 = .ok (.dup, 1) := by decide +kernel
theorem d_M_init_664 : decode b_M_init 664 = .ok (.bipush 103, 2) := by decide +kernel
theorem d_M_init_666 : decode b_M_init 666 = .ok (.bipush 101, 2) := by decide +kernel
theorem d_M_init_668 : decode b_M_init 668 = .ok (.bastore, 1) := by decide +kernel
theorem d_M_init_669 : decode b_M_init 669 = .ok (.dup, 1) := by decide +kernel
theorem d_M_init_670 : decode b_M_init 670 = .ok (.bipush 104, 2) := by decide +kernel
theorem d_M_init_672 : decode b_M_init 672 = .ok (.bipush 32, 2) := by decide +kernel
theorem d_M_init_674 : decode b_M_init 674 = .ok (.bastore, 1) := by decide +kernel
theorem d_M_init_675 : decode b_M_init 675 = .ok (.dup, 1) := by decide +kernel
theorem d_M_init_676 : decode b_M_init 676 = .ok (.bipush 105, 2) := by decide +kernel
theorem d_M_init_678 : decode b_M_init 678 = .ok (.bipush 115, 2) := by decide +kernel
theorem d_M_init_680 : decode b_M_init 680 = .ok (.bastore, 1) := by decide +kernel
theorem d_M_init_681 : decode b_M_init 681 = .ok (.dup, 1) := by decide +kernel
theorem d_M_init_682 : decode b_M_init 682 = .ok (.bipush 106, 2) := by decide +kernel
theorem d_M_init_684 : decode b_M_init 684 = .ok (.bipush 116, 2) := by decide +kernel
theorem d_M_init_686 : decode b_M_init 686 = .ok (.bastore, 1) := by decide +kernel
theorem d_M_init_687 : decode b_M_init 687 = .ok (.dup, 1) := by decide +kernel
theorem d_M_init_688 : decode b_M_init 688 = .ok (.bipush 107, 2) := by decide +kernel
theorem d_M_init_690 : decode b_M_init 690 = .ok (.bipush 105, 2) := by decide +kernel
theorem d_M_init_692 : decode b_M_init 692 = .ok (.bastore, 1) := by decide +kernel
theorem d_M_init_693 : decode b_M_init 693 = .ok (.dup, 1) := by decide +kernel
theorem d_M_init_694 : decode b_M_init 694 = .ok (.bipush 108, 2) := by decide +kernel
theorem d_M_init_696 : decode b_M_init 696 = .ok (.bipush 114, 2) := by decide +kernel
theorem d_M_init_698 : decode b_M_init 698 = .ok (.bastore, 1) := by decide +kernel
theorem d_M_init_699 : decode b_M_init 699 = .ok (.dup, 1) := by decide +kernel
theorem d_M_init_700 : decode b_M_init 700 = .ok (.bipush 109, 2) := by decide +kernel
theorem d_M_init_702 : decode b_M_init 702 = .ok (.bipush 32, 2) := by decide +kernel
theorem d_M_init_704 : decode b_M_init 704 = .ok (.bastore, 1) := by decide +kernel
theorem d_M_init_705 : decode b_M_init 705 = .ok (.dup, 1) := by decide +kernel
theorem d_M_init_706 : decode b_M_init 706 = .ok (.bipush 110, 2) := by decide +kernel
theorem d_M_init_708 : decode b_M_init 708 = .ok (.bipush 112, 2) := by decide +kernel
theorem d_M_init_710 : decode b_M_init 710 = .ok (.bastore, 1) := by decide +kernel
theorem d_M_init_711 : decode b_M_init 711 = .ok (.dup, 1) := by decide +kernel
theorem d_M_init_712 : decode b_M_init 712 = .ok (.bipush 111, 2) := by decide +kernel
theorem d_M_init_714 : decode b_M_init 714 = .ok (.bipush 97, 2) := by decide +kernel
theorem d_M_init_716 : decode b_M_init 716 = .ok (.bastore, 1) := by decide +kernel
theorem d_M_init_717 : decode b_M_init 717 = .ok (.dup, 1) := by decide +kernel
theorem d_M_init_718 : decode b_M_init 718 = .ok (.bipush 112, 2) := by decide +kernel
theorem d_M_init_720 : decode b_M_init 720 = .ok (.bipush 115, 2) := by decide +kernel
theorem d_M_init_722 : decode b_M_init 722 = .ok (.bastore, 1) := by decide +kernel
theorem d_M_init_723 : decode b_M_init 723 = .ok (.dup, 1) := by decide +kernel
theorem d_M_init_724 : decode b_M_init 724 = .ok (.bipush 113, 2) := by decide +kernel
theorem d_M_init_726 : decode b_M_init 726 = .ok (.bipush 115, 2) := by decide +kernel
theorem d_M_init_728 : decode b_M_init 728 = .ok (.bastore, 1) := by decide +kernel
theorem d_M_init_729 : decode b_M_init 729 = .ok (.dup, 1) := by decide +kernel
theorem d_M_init_730 : decode b_M_init 730 = .ok (.bipush 114, 2) := by decide +kernel
theorem d_M_init_732 : decode b_M_init 732 = .ok (.bipush 32, 2) := by decide +kernel
theorem d_M_init_734 : decode b_M_init 734 = .ok (.bastore, 1) := by decide +kernel
theorem d_M_init_735 : decode b_M_init 735 = .ok (.dup, 1) := by decide +kernel
theorem d_M_init_736 : decode b_M_init 736 = .ok (.bipush 115, 2) := by decide +kernel
theorem d_M_init_738 : decode b_M_init 738 = .ok (.bipush 116, 2) := by decide +kernel
theorem d_M_init_740 : decode b_M_init 740 = .ok (.bastore, 1) := by decide +kernel
theorem d_M_init_741 : decode b_M_init 741 = .ok (.dup, 1) := by decide +kernel
theorem d_M_init_742 : decode b_M_init 742 = .ok (.bipush 116, 2) := by decide +kernel
theorem d_M_init_744 : decode b_M_init 744 = .ok (.bipush 105, 2) := by decide +kernel
theorem d_M_init_746 : decode b_M_init 746 = .ok (.bastore, 1) := by decide +kernel
theorem d_M_init_747 : decode b_M_init 747 = .ok (.dup, 1) := by decide +kernel
theorem d_M_init_748 : decode b_M_init 748 = .ok (.bipush 117, 2) := by decide +kernel
theorem d_M_init_750 : decode b_M_init 750 = .ok (.bipush 109, 2) := by decide +kernel
theorem d_M_init_752 : decode b_M_init 752 = .ok (.bastore, 1) := by decide +kernel
theorem d_M_init_753 : decode b_M_init 753 = .ok (.dup, 1) := by decide +kernel
theorem d_M_init_754 : decode b_M_init 754 = .ok (.bipush 118, 2) := by decide +kernel
theorem d_M_init_756 : decode b_M_init 756 = .ok (.bipush 101, 2) := by decide +kernel
theorem d_M_init_758 : decode b_M_init 758 = .ok (.bastore, 1) := by decide +kernel
theorem d_M_init_759 : decode b_M_init 759 = .ok (.dup, 1) := by decide +kernel
theorem d_M_init_760 : decode b_M_init 760 = .ok (.bipush 119, 2) := by decide +kernel
theorem d_M_init_762 : decode b_M_init 762 = .ok (.bipush 115, 2) := by decide +kernel
theorem d_M_init_764 : decode b_M_init 764 = .ok (.bastore, 1) := by decide +kernel
theorem d_M_init_765 : decode b_M_init 765 = .ok (.dup, 1) := by decide +kernel
theorem d_M_init_766 : decode b_M_init 766 = .ok (.bipush 120, 2) := by decide +kernel
theorem d_M_init_768 : decode b_M_init 768 = .ok (.bipush 32, 2) := by decide +kernel
theorem d_M_init_770 : decode b_M_init 770 = .ok (.bastore, 1) := by decide +kernel
theorem d_M_init_771 : decode b_M_init 771 = .ok (.putfield 37, 3) := by decide +kernel
theorem d_M_init_774 : decode b_M_init 774 = .ok (.aload_n 0, 1) := by decide +kernel
theorem d_M_init_775 : decode b_M_init 775 = .ok (.sipush 400, 3) := by decide +kernel
theorem d_M_init_778 : decode b_M_init 778 = .ok (.newarray .byte, 2) := by decide +kernel
theorem d_M_init_780 : decode b_M_init 780 = .ok (.putfield 41, 3) := by decide +kernel
theorem d_M_init_783 : decode b_M_init 783 = .ok (.aload_n 0, 1) := by decide +kernel
theorem d_M_init_784 : decode b_M_init 784 = .ok (.iconst 5, 1) := by decide +kernel
theorem d_M_init_785 : decode b_M_init 785 = .ok (.newarray .int, 2) := by decide +kernel
theorem d_M_init_787 : decode b_M_init 787 = .ok (.putfield 44, 3) := by decide +kernel
theorem d_M_init_790 : decode b_M_init 790 = .ok (.aload_n 0, 1) := by decide +kernel
theorem d_M_init_791 : decode b_M_init 791 = .ok (.iconst (-1), 1) := by decide +kernel
theorem d_M_init_792 : decode b_M_init 792 = .ok (.putfield 47, 3) := by decide +kernel
theorem d_M_init_795 : decode b_M_init 795 = .ok (.aload_n 0, 1) := by decide +kernel
theorem d_M_init_796 : decode b_M_init 796 = .ok (.sipush 401, 3) := by decide +kernel
theorem d_M_init_799 : decode b_M_init 799 = .ok (.newarray .int, 2) := by decide +kernel
theorem d_M_init_801 : decode b_M_init 801 = .ok (.putfield 50, 3) := by decide +kernel
theorem d_M_init_804 : decode b_M_init 804 = .ok (.aload_n 0, 1) := by decide +kernel
theorem d_M_init_805 : decode b_M_init 805 = .ok (.sipush 401, 3) := by decide +kernel
theorem d_M_init_808 : decode b_M_init 808 = .ok (.newarray .int, 2) := by decide +kernel
theorem d_M_init_810 : decode b_M_init 810 = .ok (.putfield 53, 3) := by decide +kernel
theorem d_M_init_813 : decode b_M_init 813 = .ok (.aload_n 0, 1) := by decide +kernel
theorem d_M_init_814 : decode b_M_init 814 = .ok (.sipush 401, 3) := by decide +kernel
theorem d_M_init_817 : decode b_M_init 817 = .ok (.newarray .int, 2) := by decide +kernel
theorem d_M_init_819 : decode b_M_init 819 = .ok (.putfield 56, 3) := by decide +kernel
theorem d_M_init_822 : decode b_M_init 822 = .ok (.aload_n 0, 1) := by decide +kernel
theorem d_M_init_823 : decode b_M_init 823 = .ok (.bipush 7, 2) := by decide +kernel
theorem d_M_init_825 : decode b_M_init 825 = .ok (.newarray .int, 2) := by decide +kernel
theorem d_M_init_827 : decode b_M_init 827 = .ok (.putfield 59, 3) := by decide +kernel
theorem d_M_init_830 : decode b_M_init 830 = .ok (.aload_n 0, 1) := by decide +kernel
theorem d_M_init_831 : decode b_M_init 831 = .ok (.bipush 9, 2) := by decide +kernel
theorem d_M_init_833 : decode b_M_init 833 = .ok (.newarray .int, 2) := by decide +kernel
theorem d_M_init_835 : decode b_M_init 835 = .ok (.putfield 62, 3) := by decide +kernel
theorem d_M_init_838 : decode b_M_init 838 = .ok (.aload_n 0, 1) := by decide +kernel
theorem d_M_init_839 : decode b_M_init 839 = .ok (.sipush 1488, 3) := by decide +kernel
theorem d_M_init_842 : decode b_M_init 842 = .ok (.newarray .int, 2) := by decide +kernel
theorem d_M_init_844 : decode b_M_init 844 = .ok (.putfield 65, 3) := by decide +kernel
theorem d_M_init_847 : decode b_M_init 847 = .ok (.aload_n 0, 1) := by decide +kernel
theorem d_M_init_848 : decode b_M_init 848 = .ok (.sipush 1488, 3) := by decide +kernel
theorem d_M_init_851 : decode b_M_init 851 = .ok (.newarray .int, 2) := by decide +kernel
theorem d_M_init_853 : decode b_M_init 853 = .ok (.putfield 68, 3) := by decide +kernel
theorem d_M_init_856 : decode b_M_init 856 = .ok (.aload_n 0, 1) := by decide +kernel
theorem d_M_init_857 : decode b_M_init 857 = .ok (.bipush 9, 2) := by decide +kernel
theorem d_M_init_859 : decode b_M_init 859 = .ok (.newarray .int, 2) := by decide +kernel
theorem d_M_init_861 : decode b_M_init 861 = .ok (.putfield 71, 3) := by decide +kernel
theorem d_M_init_864 : decode b_M_init 864 = .ok (.aload_n 0, 1) := by decide +kernel
theorem d_M_init_865 : decode b_M_init 865 = .ok (.bipush 81, 2) := by decide +kernel
theorem d_M_init_867 : decode b_M_init 867 = .ok (.newarray .int, 2) := by decide +kernel
theorem d_M_init_869 : decode b_M_init 869 = .ok (.putfield 74, 3) := by decide +kernel
theorem d_M_init_872 : decode b_M_init 872 = .ok (.aload_n 0, 1) := by decide +kernel
theorem d_M_init_873 : decode b_M_init 873 = .ok (.bipush 81, 2) := by decide +kernel
theorem d_M_init_875 : decode b_M_init 875 = .ok (.newarray .int, 2) := by decide +kernel
theorem d_M_init_877 : decode b_M_init 877 = .ok (.putfield 77, 3) := by decide +kernel
theorem d_M_init_880 : decode b_M_init 880 = .ok (.aload_n 0, 1) := by decide +kernel
theorem d_M_init_881 : decode b_M_init 881 = .ok (.sipush 4608, 3) := by decide +kernel
theorem d_M_init_884 : decode b_M_init 884 = .ok (.newarray .int, 2) := by decide +kernel
theorem d_M_init_886 : decode b_M_init 886 = .ok (.putfield 80, 3) := by decide +kernel
theorem d_M_init_889 : decode b_M_init 889 = .ok (.aload_n 0, 1) := by decide +kernel
theorem d_M_init_890 : decode b_M_init 890 = .ok (.bipush 81, 2) := by decide +kernel
theorem d_M_init_892 : decode b_M_init 892 = .ok (.newarray .int, 2) := by decide +kernel
theorem d_M_init_894 : decode b_M_init 894 = .ok (.putfield 83, 3) := by decide +kernel
theorem d_M_init_897 : decode b_M_init 897 = .ok (.aload_n 0, 1) := by decide +kernel
theorem d_M_init_898 : decode b_M_init 898 = .ok (.bipush 81, 2) := by decide +kernel
theorem d_M_init_900 : decode b_M_init 900 = .ok (.newarray .int, 2) := by decide +kernel
theorem d_M_init_902 : decode b_M_init 902 = .ok (.putfield 86, 3) := by decide +kernel
theorem d_M_init_905 : decode b_M_init 905 = .ok (.aload_n 0, 1) := by decide +kernel
theorem d_M_init_906 : decode b_M_init 906 = .ok (.bipush 90, 2) := by decide +kernel
theorem d_M_init_908 : decode b_M_init 908 = .ok (.newarray .int, 2) := by decide +kernel
theorem d_M_init_910 : decode b_M_init 910 = .ok (.putfield 89, 3) := by decide +kernel
theorem d_M_init_913 : decode b_M_init 913 = .ok (.aload_n 0, 1) := by decide +kernel
theorem d_M_init_914 : decode b_M_init 914 = .ok (.bipush 21, 2) := by decide +kernel
theorem d_M_init_916 : decode b_M_init 916 = .ok (.newarray .long, 2) := by decide +kernel
theorem d_M_init_918 : decode b_M_init 918 = .ok (.putfield 92, 3) := by decide +kernel
theorem d_M_init_921 : decode b_M_init 921 = .ok (.aload_n 0, 1) := by decide +kernel
theorem d_M_init_922 : decode b_M_init 922 = .ok (.iconst (-1), 1) := by decide +kernel
theorem d_M_init_923 : decode b_M_init 923 = .ok (.putfield 96, 3) := by decide +kernel
theorem d_M_init_926 : decode b_M_init 926 = .ok (.aload_n 0, 1) := by decide +kernel
theorem d_M_init_927 : decode b_M_init 927 = .ok (.iconst 2, 1) := by decide +kernel
theorem d_M_init_928 : decode b_M_init 928 = .ok (.newarray .long, 2) := by decide +kernel
theorem d_M_init_930 : decode b_M_init 930 = .ok (.putfield 99, 3) := by decide +kernel
theorem d_M_init_933 : decode b_M_init 933 = .ok (.aload_n 0, 1) := by decide +kernel
theorem d_M_init_934 : decode b_M_init 934 = .ok (.bipush 92, 2) := by decide +kernel
theorem d_M_init_936 : decode b_M_init 936 = .ok (.newarray .int, 2) := by decide +kernel
theorem d_M_init_938 : decode b_M_init 938 = .ok (.putfield 102, 3) := by decide +kernel
theorem d_M_init_941 : decode b_M_init 941 = .ok (.aload_n 0, 1) := by decide +kernel
theorem d_M_init_942 : decode b_M_init 942 = .ok (.iconst (-1), 1) := by decide +kernel
theorem d_M_init_943 : decode b_M_init 943 = .ok (.putfield 105, 3) := by decide +kernel
theorem d_M_init_946 : decode b_M_init 946 = .ok (.aload_n 0, 1) := by decide +kernel
theorem d_M_init_947 : decode b_M_init 947 = .ok (.getfield 24, 3) := by decide +kernel
theorem d_M_init_950 : decode b_M_init 950 = .ok (.sipush 194, 3) := by decide +kernel
theorem d_M_init_953 : decode b_M_init 953 = .ok (.iconst 1, 1) := by decide +kernel
theorem d_M_init_954 : decode b_M_init 954 = .ok (.iastore, 1) := by decide +kernel
theorem d_M_init_955 : decode b_M_init 955 = .ok (.aload_n 0, 1) := by decide +kernel
theorem d_M_init_956 : decode b_M_init 956 = .ok (.getfield 24, 3) := by decide +kernel
theorem d_M_init_959 : decode b_M_init 959 = .ok (.sipush 199, 3) := by decide +kernel
theorem d_M_init_962 : decode b_M_init 962 = .ok (.iconst (-1), 1) := by decide +kernel
theorem d_M_init_963 : decode b_M_init 963 = .ok (.iastore, 1) := by decide +kernel
theorem d_M_init_964 : decode b_M_init 964 = .ok (.return_, 1) := by decide +kernel
set_option maxRecDepth 1000000 in
theorem mf_M_init : zMF y_M_init b_M_init 1 none 0 := ⟨zGW_in 1277 (by rfl) (by decide +kernel), zGW_in 135 (by decide +kernel) (by decide +kernel), by decide +kernel⟩
theorem in_M_init : Cond.instanceMethod y_M_init ∈ zGW := zGW_in 1276 (by decide +kernel) (by decide +kernel)
abbrev rm_M_init : Room := { frames := 1, cells := 25, slots := 27481, locals := 64 }
set_option maxRecDepth 1000000 in
def f_M_init (a0 : Nat) (S : zSt) : Option zSt := zgd (zK (zN S) = 50 ∧ zN S < zX) (zb1 (some (znew S 7)) (fun S2 => zgd (a0 < zN S2) (zb1 (some (zwR S2 a0 1 (some (zN S)))) (fun S5 => zgd (zK (zN S5) = 50 ∧ zN S5 < zX) (zb1 (some (znew S5 5807)) (fun S8 => zgd (a0 < zN S8) (zb1 (some (zwR S8 a0 2 (some (zN S5)))) (fun S11 => zgd (zK (zN S11) = 50 ∧ zN S11 < zX) (zb1 (some (znew S11 11614)) (fun S14 => zgd (a0 < zN S14) (zb1 (some (zwR S14 a0 3 (some (zN S11)))) (fun S17 => zgd (zK (zN S17) = 53 ∧ zN S17 < zX) (zb1 (some (znew S17 2)) (fun S20 => zgd (a0 < zN S20) (zb1 (some (zwR S20 a0 4 (some (zN S17)))) (fun S23 => zgd (zK (zN S23) = 50 ∧ zN S23 < zX) (zb1 (some (znew S23 184)) (fun S26 => zgd (a0 < zN S26) (zb1 (some (zwR S26 a0 5 (some (zN S23)))) (fun S29 => zgd (zK (zN S29) = 52 ∧ zN S29 < zX) (zb1 (some (znew S29 121)) (fun S32 => zgd (((zN S29) < zN S32 ∧ zK (zN S29) = 52) ∧ 0 ≤ (0 : Int32) ∧ (0 : Int32).toNatClampNeg < zA S32 (zN S29)) (zb1 (some (zwI S32 (zN S29) (0 : Int32).toNatClampNeg (116 : Int32).toInt8.toInt32)) (fun S35 => zgd (((zN S29) < zN S35 ∧ zK (zN S29) = 52) ∧ 0 ≤ (1 : Int32) ∧ (1 : Int32).toNatClampNeg < zA S35 (zN S29)) (zb1 (some (zwI S35 (zN S29) (1 : Int32).toNatClampNeg (97 : Int32).toInt8.toInt32)) (fun S38 => zgd (((zN S29) < zN S38 ∧ zK (zN S29) = 52) ∧ 0 ≤ (2 : Int32) ∧ (2 : Int32).toNatClampNeg < zA S38 (zN S29)) (zb1 (some (zwI S38 (zN S29) (2 : Int32).toNatClampNeg (107 : Int32).toInt8.toInt32)) (fun S41 => zgd (((zN S29) < zN S41 ∧ zK (zN S29) = 52) ∧ 0 ≤ (3 : Int32) ∧ (3 : Int32).toNatClampNeg < zA S41 (zN S29)) (zb1 (some (zwI S41 (zN S29) (3 : Int32).toNatClampNeg (101 : Int32).toInt8.toInt32)) (fun S44 => zgd (((zN S29) < zN S44 ∧ zK (zN S29) = 52) ∧ 0 ≤ (4 : Int32) ∧ (4 : Int32).toNatClampNeg < zA S44 (zN S29)) (zb1 (some (zwI S44 (zN S29) (4 : Int32).toNatClampNeg (115 : Int32).toInt8.toInt32)) (fun S47 => zgd (((zN S29) < zN S47 ∧ zK (zN S29) = 52) ∧ 0 ≤ (5 : Int32) ∧ (5 : Int32).toNatClampNeg < zA S47 (zN S29)) (zb1 (some (zwI S47 (zN S29) (5 : Int32).toNatClampNeg (32 : Int32).toInt8.toInt32)) (fun S50 => zgd (((zN S29) < zN S50 ∧ zK (zN S29) = 52) ∧ 0 ≤ (6 : Int32) ∧ (6 : Int32).toNatClampNeg < zA S50 (zN S29)) (zb1 (some (zwI S50 (zN S29) (6 : Int32).toNatClampNeg (119 : Int32).toInt8.toInt32)) (fun S53 => zgd (((zN S29) < zN S53 ∧ zK (zN S29) = 52) ∧ 0 ≤ (7 : Int32) ∧ (7 : Int32).toNatClampNeg < zA S53 (zN S29)) (zb1 (some (zwI S53 (zN S29) (7 : Int32).toNatClampNeg (101 : Int32).toInt8.toInt32)) (fun S56 => zgd (((zN S29) < zN S56 ∧ zK (zN S29) = 52) ∧ 0 ≤ (8 : Int32) ∧ (8 : Int32).toNatClampNeg < zA S56 (zN S29)) (zb1 (some (zwI S56 (zN S29) (8 : Int32).toNatClampNeg (105 : Int32).toInt8.toInt32)) (fun S59 => zgd (((zN S29) < zN S59 ∧ zK (zN S29) = 52) ∧ 0 ≤ (9 : Int32) ∧ (9 : Int32).toNatClampNeg < zA S59 (zN S29)) (zb1 (some (zwI S59 (zN S29) (9 : Int32).toNatClampNeg (103 : Int32).toInt8.toInt32)) (fun S62 => zgd (((zN S29) < zN S62 ∧ zK (zN S29) = 52) ∧ 0 ≤ (10 : Int32) ∧ (10 : Int32).toNatClampNeg < zA S62 (zN S29)) (zb1 (some (zwI S62 (zN S29) (10 : Int32).toNatClampNeg (104 : Int32).toInt8.toInt32)) (fun S65 => zgd (((zN S29) < zN S65 ∧ zK (zN S29) = 52) ∧ 0 ≤ (11 : Int32) ∧ (11 : Int32).toNatClampNeg < zA S65 (zN S29)) (zb1 (some (zwI S65 (zN S29) (11 : Int32).toNatClampNeg (115 : Int32).toInt8.toInt32)) (fun S68 => zgd (((zN S29) < zN S68 ∧ zK (zN S29) = 52) ∧ 0 ≤ (12 : Int32) ∧ (12 : Int32).toNatClampNeg < zA S68 (zN S29)) (zb1 (some (zwI S68 (zN S29) (12 : Int32).toNatClampNeg (32 : Int32).toInt8.toInt32)) (fun S71 => zgd (((zN S29) < zN S71 ∧ zK (zN S29) = 52) ∧ 0 ≤ (13 : Int32) ∧ (13 : Int32).toNatClampNeg < zA S71 (zN S29)) (zb1 (some (zwI S71 (zN S29) (13 : Int32).toNatClampNeg (115 : Int32).toInt8.toInt32)) (fun S74 => zgd (((zN S29) < zN S74 ∧ zK (zN S29) = 52) ∧ 0 ≤ (14 : Int32) ∧ (14 : Int32).toNatClampNeg < zA S74 (zN S29)) (zb1 (some (zwI S74 (zN S29) (14 : Int32).toNatClampNeg (101 : Int32).toInt8.toInt32)) (fun S77 => zgd (((zN S29) < zN S77 ∧ zK (zN S29) = 52) ∧ 0 ≤ (15 : Int32) ∧ (15 : Int32).toNatClampNeg < zA S77 (zN S29)) (zb1 (some (zwI S77 (zN S29) (15 : Int32).toNatClampNeg (116 : Int32).toInt8.toInt32)) (fun S80 => zgd (((zN S29) < zN S80 ∧ zK (zN S29) = 52) ∧ 0 ≤ (16 : Int32) ∧ (16 : Int32).toNatClampNeg < zA S80 (zN S29)) (zb1 (some (zwI S80 (zN S29) (16 : Int32).toNatClampNeg (116 : Int32).toInt8.toInt32)) (fun S83 => zgd (((zN S29) < zN S83 ∧ zK (zN S29) = 52) ∧ 0 ≤ (17 : Int32) ∧ (17 : Int32).toNatClampNeg < zA S83 (zN S29)) (zb1 (some (zwI S83 (zN S29) (17 : Int32).toNatClampNeg (108 : Int32).toInt8.toInt32)) (fun S86 => zgd (((zN S29) < zN S86 ∧ zK (zN S29) = 52) ∧ 0 ≤ (18 : Int32) ∧ (18 : Int32).toNatClampNeg < zA S86 (zN S29)) (zb1 (some (zwI S86 (zN S29) (18 : Int32).toNatClampNeg (101 : Int32).toInt8.toInt32)) (fun S89 => zgd (((zN S29) < zN S89 ∧ zK (zN S29) = 52) ∧ 0 ≤ (19 : Int32) ∧ (19 : Int32).toNatClampNeg < zA S89 (zN S29)) (zb1 (some (zwI S89 (zN S29) (19 : Int32).toNatClampNeg (115 : Int32).toInt8.toInt32)) (fun S92 => zgd (((zN S29) < zN S92 ∧ zK (zN S29) = 52) ∧ 0 ≤ (20 : Int32) ∧ (20 : Int32).toNatClampNeg < zA S92 (zN S29)) (zb1 (some (zwI S92 (zN S29) (20 : Int32).toNatClampNeg (32 : Int32).toInt8.toInt32)) (fun S95 => zgd (((zN S29) < zN S95 ∧ zK (zN S29) = 52) ∧ 0 ≤ (21 : Int32) ∧ (21 : Int32).toNatClampNeg < zA S95 (zN S29)) (zb1 (some (zwI S95 (zN S29) (21 : Int32).toNatClampNeg (98 : Int32).toInt8.toInt32)) (fun S98 => zgd (((zN S29) < zN S98 ∧ zK (zN S29) = 52) ∧ 0 ≤ (22 : Int32) ∧ (22 : Int32).toNatClampNeg < zA S98 (zN S29)) (zb1 (some (zwI S98 (zN S29) (22 : Int32).toNatClampNeg (97 : Int32).toInt8.toInt32)) (fun S101 => zgd (((zN S29) < zN S101 ∧ zK (zN S29) = 52) ∧ 0 ≤ (23 : Int32) ∧ (23 : Int32).toNatClampNeg < zA S101 (zN S29)) (zb1 (some (zwI S101 (zN S29) (23 : Int32).toNatClampNeg (114 : Int32).toInt8.toInt32)) (fun S104 => zgd (((zN S29) < zN S104 ∧ zK (zN S29) = 52) ∧ 0 ≤ (24 : Int32) ∧ (24 : Int32).toNatClampNeg < zA S104 (zN S29)) (zb1 (some (zwI S104 (zN S29) (24 : Int32).toNatClampNeg (115 : Int32).toInt8.toInt32)) (fun S107 => zgd (((zN S29) < zN S107 ∧ zK (zN S29) = 52) ∧ 0 ≤ (25 : Int32) ∧ (25 : Int32).toNatClampNeg < zA S107 (zN S29)) (zb1 (some (zwI S107 (zN S29) (25 : Int32).toNatClampNeg (32 : Int32).toInt8.toInt32)) (fun S110 => zgd (((zN S29) < zN S110 ∧ zK (zN S29) = 52) ∧ 0 ≤ (26 : Int32) ∧ (26 : Int32).toNatClampNeg < zA S110 (zN S29)) (zb1 (some (zwI S110 (zN S29) (26 : Int32).toNatClampNeg (105 : Int32).toInt8.toInt32)) (fun S113 => zgd (((zN S29) < zN S113 ∧ zK (zN S29) = 52) ∧ 0 ≤ (27 : Int32) ∧ (27 : Int32).toNatClampNeg < zA S113 (zN S29)) (zb1 (some (zwI S113 (zN S29) (27 : Int32).toNatClampNeg (102 : Int32).toInt8.toInt32)) (fun S116 => zgd (((zN S29) < zN S116 ∧ zK (zN S29) = 52) ∧ 0 ≤ (28 : Int32) ∧ (28 : Int32).toNatClampNeg < zA S116 (zN S29)) (zb1 (some (zwI S116 (zN S29) (28 : Int32).toNatClampNeg (32 : Int32).toInt8.toInt32)) (fun S119 => zgd (((zN S29) < zN S119 ∧ zK (zN S29) = 52) ∧ 0 ≤ (29 : Int32) ∧ (29 : Int32).toNatClampNeg < zA S119 (zN S29)) (zb1 (some (zwI S119 (zN S29) (29 : Int32).toNatClampNeg (111 : Int32).toInt8.toInt32)) (fun S122 => zgd (((zN S29) < zN S122 ∧ zK (zN S29) = 52) ∧ 0 ≤ (30 : Int32) ∧ (30 : Int32).toNatClampNeg < zA S122 (zN S29)) (zb1 (some (zwI S122 (zN S29) (30 : Int32).toNatClampNeg (114 : Int32).toInt8.toInt32)) (fun S125 => zgd (((zN S29) < zN S125 ∧ zK (zN S29) = 52) ∧ 0 ≤ (31 : Int32) ∧ (31 : Int32).toNatClampNeg < zA S125 (zN S29)) (zb1 (some (zwI S125 (zN S29) (31 : Int32).toNatClampNeg (32 : Int32).toInt8.toInt32)) (fun S128 => zgd (((zN S29) < zN S128 ∧ zK (zN S29) = 52) ∧ 0 ≤ (32 : Int32) ∧ (32 : Int32).toNatClampNeg < zA S128 (zN S29)) (zb1 (some (zwI S128 (zN S29) (32 : Int32).toNatClampNeg (97 : Int32).toInt8.toInt32)) (fun S131 => zgd (((zN S29) < zN S131 ∧ zK (zN S29) = 52) ∧ 0 ≤ (33 : Int32) ∧ (33 : Int32).toNatClampNeg < zA S131 (zN S29)) (zb1 (some (zwI S131 (zN S29) (33 : Int32).toNatClampNeg (110 : Int32).toInt8.toInt32)) (fun S134 => zgd (((zN S29) < zN S134 ∧ zK (zN S29) = 52) ∧ 0 ≤ (34 : Int32) ∧ (34 : Int32).toNatClampNeg < zA S134 (zN S29)) (zb1 (some (zwI S134 (zN S29) (34 : Int32).toNatClampNeg (100 : Int32).toInt8.toInt32)) (fun S137 => zgd (((zN S29) < zN S137 ∧ zK (zN S29) = 52) ∧ 0 ≤ (35 : Int32) ∧ (35 : Int32).toNatClampNeg < zA S137 (zN S29)) (zb1 (some (zwI S137 (zN S29) (35 : Int32).toNatClampNeg (32 : Int32).toInt8.toInt32)) (fun S140 => zgd (((zN S29) < zN S140 ∧ zK (zN S29) = 52) ∧ 0 ≤ (36 : Int32) ∧ (36 : Int32).toNatClampNeg < zA S140 (zN S29)) (zb1 (some (zwI S140 (zN S29) (36 : Int32).toNatClampNeg (110 : Int32).toInt8.toInt32)) (fun S143 => zgd (((zN S29) < zN S143 ∧ zK (zN S29) = 52) ∧ 0 ≤ (37 : Int32) ∧ (37 : Int32).toNatClampNeg < zA S143 (zN S29)) (zb1 (some (zwI S143 (zN S29) (37 : Int32).toNatClampNeg (111 : Int32).toInt8.toInt32)) (fun S146 => zgd (((zN S29) < zN S146 ∧ zK (zN S29) = 52) ∧ 0 ≤ (38 : Int32) ∧ (38 : Int32).toNatClampNeg < zA S146 (zN S29)) (zb1 (some (zwI S146 (zN S29) (38 : Int32).toNatClampNeg (116 : Int32).toInt8.toInt32)) (fun S149 => zgd (((zN S29) < zN S149 ∧ zK (zN S29) = 52) ∧ 0 ≤ (39 : Int32) ∧ (39 : Int32).toNatClampNeg < zA S149 (zN S29)) (zb1 (some (zwI S149 (zN S29) (39 : Int32).toNatClampNeg (32 : Int32).toInt8.toInt32)) (fun S152 => zgd (((zN S29) < zN S152 ∧ zK (zN S29) = 52) ∧ 0 ≤ (40 : Int32) ∧ (40 : Int32).toNatClampNeg < zA S152 (zN S29)) (zb1 (some (zwI S152 (zN S29) (40 : Int32).toNatClampNeg (102 : Int32).toInt8.toInt32)) (fun S155 => zgd (((zN S29) < zN S155 ∧ zK (zN S29) = 52) ∧ 0 ≤ (41 : Int32) ∧ (41 : Int32).toNatClampNeg < zA S155 (zN S29)) (zb1 (some (zwI S155 (zN S29) (41 : Int32).toNatClampNeg (114 : Int32).toInt8.toInt32)) (fun S158 => zgd (((zN S29) < zN S158 ∧ zK (zN S29) = 52) ∧ 0 ≤ (42 : Int32) ∧ (42 : Int32).toNatClampNeg < zA S158 (zN S29)) (zb1 (some (zwI S158 (zN S29) (42 : Int32).toNatClampNeg (111 : Int32).toInt8.toInt32)) (fun S161 => zgd (((zN S29) < zN S161 ∧ zK (zN S29) = 52) ∧ 0 ≤ (43 : Int32) ∧ (43 : Int32).toNatClampNeg < zA S161 (zN S29)) (zb1 (some (zwI S161 (zN S29) (43 : Int32).toNatClampNeg (109 : Int32).toInt8.toInt32)) (fun S164 => zgd (((zN S29) < zN S164 ∧ zK (zN S29) = 52) ∧ 0 ≤ (44 : Int32) ∧ (44 : Int32).toNatClampNeg < zA S164 (zN S29)) (zb1 (some (zwI S164 (zN S29) (44 : Int32).toNatClampNeg (32 : Int32).toInt8.toInt32)) (fun S167 => zgd (((zN S29) < zN S167 ∧ zK (zN S29) = 52) ∧ 0 ≤ (45 : Int32) ∧ (45 : Int32).toNatClampNeg < zA S167 (zN S29)) (zb1 (some (zwI S167 (zN S29) (45 : Int32).toNatClampNeg (116 : Int32).toInt8.toInt32)) (fun S170 => zgd (((zN S29) < zN S170 ∧ zK (zN S29) = 52) ∧ 0 ≤ (46 : Int32) ∧ (46 : Int32).toNatClampNeg < zA S170 (zN S29)) (zb1 (some (zwI S170 (zN S29) (46 : Int32).toNatClampNeg (111 : Int32).toInt8.toInt32)) (fun S173 => zgd (((zN S29) < zN S173 ∧ zK (zN S29) = 52) ∧ 0 ≤ (47 : Int32) ∧ (47 : Int32).toNatClampNeg < zA S173 (zN S29)) (zb1 (some (zwI S173 (zN S29) (47 : Int32).toNatClampNeg (32 : Int32).toInt8.toInt32)) (fun S176 => zgd (((zN S29) < zN S176 ∧ zK (zN S29) = 52) ∧ 0 ≤ (48 : Int32) ∧ (48 : Int32).toNatClampNeg < zA S176 (zN S29)) (zb1 (some (zwI S176 (zN S29) (48 : Int32).toNatClampNeg (102 : Int32).toInt8.toInt32)) (fun S179 => zgd (((zN S29) < zN S179 ∧ zK (zN S29) = 52) ∧ 0 ≤ (49 : Int32) ∧ (49 : Int32).toNatClampNeg < zA S179 (zN S29)) (zb1 (some (zwI S179 (zN S29) (49 : Int32).toNatClampNeg (97 : Int32).toInt8.toInt32)) (fun S182 => zgd (((zN S29) < zN S182 ∧ zK (zN S29) = 52) ∧ 0 ≤ (50 : Int32) ∧ (50 : Int32).toNatClampNeg < zA S182 (zN S29)) (zb1 (some (zwI S182 (zN S29) (50 : Int32).toNatClampNeg (114 : Int32).toInt8.toInt32)) (fun S185 => zgd (((zN S29) < zN S185 ∧ zK (zN S29) = 52) ∧ 0 ≤ (51 : Int32) ∧ (51 : Int32).toNatClampNeg < zA S185 (zN S29)) (zb1 (some (zwI S185 (zN S29) (51 : Int32).toNatClampNeg (32 : Int32).toInt8.toInt32)) (fun S188 => zgd (((zN S29) < zN S188 ∧ zK (zN S29) = 52) ∧ 0 ≤ (52 : Int32) ∧ (52 : Int32).toNatClampNeg < zA S188 (zN S29)) (zb1 (some (zwI S188 (zN S29) (52 : Int32).toNatClampNeg (102 : Int32).toInt8.toInt32)) (fun S191 => zgd (((zN S29) < zN S191 ∧ zK (zN S29) = 52) ∧ 0 ≤ (53 : Int32) ∧ (53 : Int32).toNatClampNeg < zA S191 (zN S29)) (zb1 (some (zwI S191 (zN S29) (53 : Int32).toNatClampNeg (97 : Int32).toInt8.toInt32)) (fun S194 => zgd (((zN S29) < zN S194 ∧ zK (zN S29) = 52) ∧ 0 ≤ (54 : Int32) ∧ (54 : Int32).toNatClampNeg < zA S194 (zN S29)) (zb1 (some (zwI S194 (zN S29) (54 : Int32).toNatClampNeg (108 : Int32).toInt8.toInt32)) (fun S197 => zgd (((zN S29) < zN S197 ∧ zK (zN S29) = 52) ∧ 0 ≤ (55 : Int32) ∧ (55 : Int32).toNatClampNeg < zA S197 (zN S29)) (zb1 (some (zwI S197 (zN S29) (55 : Int32).toNatClampNeg (108 : Int32).toInt8.toInt32)) (fun S200 => zgd (((zN S29) < zN S200 ∧ zK (zN S29) = 52) ∧ 0 ≤ (56 : Int32) ∧ (56 : Int32).toNatClampNeg < zA S200 (zN S29)) (zb1 (some (zwI S200 (zN S29) (56 : Int32).toNatClampNeg (32 : Int32).toInt8.toInt32)) (fun S203 => zgd (((zN S29) < zN S203 ∧ zK (zN S29) = 52) ∧ 0 ≤ (57 : Int32) ∧ (57 : Int32).toNatClampNeg < zA S203 (zN S29)) (zb1 (some (zwI S203 (zN S29) (57 : Int32).toNatClampNeg (109 : Int32).toInt8.toInt32)) (fun S206 => zgd (((zN S29) < zN S206 ∧ zK (zN S29) = 52) ∧ 0 ≤ (58 : Int32) ∧ (58 : Int32).toNatClampNeg < zA S206 (zN S29)) (zb1 (some (zwI S206 (zN S29) (58 : Int32).toNatClampNeg (111 : Int32).toInt8.toInt32)) (fun S209 => zgd (((zN S29) < zN S209 ∧ zK (zN S29) = 52) ∧ 0 ≤ (59 : Int32) ∧ (59 : Int32).toNatClampNeg < zA S209 (zN S29)) (zb1 (some (zwI S209 (zN S29) (59 : Int32).toNatClampNeg (111 : Int32).toInt8.toInt32)) (fun S212 => zgd (((zN S29) < zN S212 ∧ zK (zN S29) = 52) ∧ 0 ≤ (60 : Int32) ∧ (60 : Int32).toNatClampNeg < zA S212 (zN S29)) (zb1 (some (zwI S212 (zN S29) (60 : Int32).toNatClampNeg (100 : Int32).toInt8.toInt32)) (fun S215 => zgd (((zN S29) < zN S215 ∧ zK (zN S29) = 52) ∧ 0 ≤ (61 : Int32) ∧ (61 : Int32).toNatClampNeg < zA S215 (zN S29)) (zb1 (some (zwI S215 (zN S29) (61 : Int32).toNatClampNeg (32 : Int32).toInt8.toInt32)) (fun S218 => zgd (((zN S29) < zN S218 ∧ zK (zN S29) = 52) ∧ 0 ≤ (62 : Int32) ∧ (62 : Int32).toNatClampNeg < zA S218 (zN S29)) (zb1 (some (zwI S218 (zN S29) (62 : Int32).toNatClampNeg (109 : Int32).toInt8.toInt32)) (fun S221 => zgd (((zN S29) < zN S221 ∧ zK (zN S29) = 52) ∧ 0 ≤ (63 : Int32) ∧ (63 : Int32).toNatClampNeg < zA S221 (zN S29)) (zb1 (some (zwI S221 (zN S29) (63 : Int32).toNatClampNeg (117 : Int32).toInt8.toInt32)) (fun S224 => zgd (((zN S29) < zN S224 ∧ zK (zN S29) = 52) ∧ 0 ≤ (64 : Int32) ∧ (64 : Int32).toNatClampNeg < zA S224 (zN S29)) (zb1 (some (zwI S224 (zN S29) (64 : Int32).toNatClampNeg (100 : Int32).toInt8.toInt32)) (fun S227 => zgd (((zN S29) < zN S227 ∧ zK (zN S29) = 52) ∧ 0 ≤ (65 : Int32) ∧ (65 : Int32).toNatClampNeg < zA S227 (zN S29)) (zb1 (some (zwI S227 (zN S29) (65 : Int32).toNatClampNeg (32 : Int32).toInt8.toInt32)) (fun S230 => zgd (((zN S29) < zN S230 ∧ zK (zN S29) = 52) ∧ 0 ≤ (66 : Int32) ∧ (66 : Int32).toNatClampNeg < zA S230 (zN S29)) (zb1 (some (zwI S230 (zN S29) (66 : Int32).toNatClampNeg (100 : Int32).toInt8.toInt32)) (fun S233 => zgd (((zN S29) < zN S233 ∧ zK (zN S29) = 52) ∧ 0 ≤ (67 : Int32) ∧ (67 : Int32).toNatClampNeg < zA S233 (zN S29)) (zb1 (some (zwI S233 (zN S29) (67 : Int32).toNatClampNeg (97 : Int32).toInt8.toInt32)) (fun S236 => zgd (((zN S29) < zN S236 ∧ zK (zN S29) = 52) ∧ 0 ≤ (68 : Int32) ∧ (68 : Int32).toNatClampNeg < zA S236 (zN S29)) (zb1 (some (zwI S236 (zN S29) (68 : Int32).toNatClampNeg (121 : Int32).toInt8.toInt32)) (fun S239 => zgd (((zN S29) < zN S239 ∧ zK (zN S29) = 52) ∧ 0 ≤ (69 : Int32) ∧ (69 : Int32).toNatClampNeg < zA S239 (zN S29)) (zb1 (some (zwI S239 (zN S29) (69 : Int32).toNatClampNeg (32 : Int32).toInt8.toInt32)) (fun S242 => zgd (((zN S29) < zN S242 ∧ zK (zN S29) = 52) ∧ 0 ≤ (70 : Int32) ∧ (70 : Int32).toNatClampNeg < zA S242 (zN S29)) (zb1 (some (zwI S242 (zN S29) (70 : Int32).toNatClampNeg (100 : Int32).toInt8.toInt32)) (fun S245 => zgd (((zN S29) < zN S245 ∧ zK (zN S29) = 52) ∧ 0 ≤ (71 : Int32) ∧ (71 : Int32).toNatClampNeg < zA S245 (zN S29)) (zb1 (some (zwI S245 (zN S29) (71 : Int32).toNatClampNeg (111 : Int32).toInt8.toInt32)) (fun S248 => zgd (((zN S29) < zN S248 ∧ zK (zN S29) = 52) ∧ 0 ≤ (72 : Int32) ∧ (72 : Int32).toNatClampNeg < zA S248 (zN S29)) (zb1 (some (zwI S248 (zN S29) (72 : Int32).toNatClampNeg (110 : Int32).toInt8.toInt32)) (fun S251 => zgd (((zN S29) < zN S251 ∧ zK (zN S29) = 52) ∧ 0 ≤ (73 : Int32) ∧ (73 : Int32).toNatClampNeg < zA S251 (zN S29)) (zb1 (some (zwI S251 (zN S29) (73 : Int32).toNatClampNeg (101 : Int32).toInt8.toInt32)) (fun S254 => zgd (((zN S29) < zN S254 ∧ zK (zN S29) = 52) ∧ 0 ≤ (74 : Int32) ∧ (74 : Int32).toNatClampNeg < zA S254 (zN S29)) (zb1 (some (zwI S254 (zN S29) (74 : Int32).toNatClampNeg (32 : Int32).toInt8.toInt32)) (fun S257 => zgd (((zN S29) < zN S257 ∧ zK (zN S29) = 52) ∧ 0 ≤ (75 : Int32) ∧ (75 : Int32).toNatClampNeg < zA S257 (zN S29)) (zb1 (some (zwI S257 (zN S29) (75 : Int32).toNatClampNeg (108 : Int32).toInt8.toInt32)) (fun S260 => zgd (((zN S29) < zN S260 ∧ zK (zN S29) = 52) ∧ 0 ≤ (76 : Int32) ∧ (76 : Int32).toNatClampNeg < zA S260 (zN S29)) (zb1 (some (zwI S260 (zN S29) (76 : Int32).toNatClampNeg (97 : Int32).toInt8.toInt32)) (fun S263 => zgd (((zN S29) < zN S263 ∧ zK (zN S29) = 52) ∧ 0 ≤ (77 : Int32) ∧ (77 : Int32).toNatClampNeg < zA S263 (zN S29)) (zb1 (some (zwI S263 (zN S29) (77 : Int32).toNatClampNeg (116 : Int32).toInt8.toInt32)) (fun S266 => zgd (((zN S29) < zN S266 ∧ zK (zN S29) = 52) ∧ 0 ≤ (78 : Int32) ∧ (78 : Int32).toNatClampNeg < zA S266 (zN S29)) (zb1 (some (zwI S266 (zN S29) (78 : Int32).toNatClampNeg (101 : Int32).toInt8.toInt32)) (fun S269 => zgd (((zN S29) < zN S269 ∧ zK (zN S29) = 52) ∧ 0 ≤ (79 : Int32) ∧ (79 : Int32).toNatClampNeg < zA S269 (zN S29)) (zb1 (some (zwI S269 (zN S29) (79 : Int32).toNatClampNeg (115 : Int32).toInt8.toInt32)) (fun S272 => zgd (((zN S29) < zN S272 ∧ zK (zN S29) = 52) ∧ 0 ≤ (80 : Int32) ∧ (80 : Int32).toNatClampNeg < zA S272 (zN S29)) (zb1 (some (zwI S272 (zN S29) (80 : Int32).toNatClampNeg (116 : Int32).toInt8.toInt32)) (fun S275 => zgd (((zN S29) < zN S275 ∧ zK (zN S29) = 52) ∧ 0 ≤ (81 : Int32) ∧ (81 : Int32).toNatClampNeg < zA S275 (zN S29)) (zb1 (some (zwI S275 (zN S29) (81 : Int32).toNatClampNeg (32 : Int32).toInt8.toInt32)) (fun S278 => zgd (((zN S29) < zN S278 ∧ zK (zN S29) = 52) ∧ 0 ≤ (82 : Int32) ∧ (82 : Int32).toNatClampNeg < zA S278 (zN S29)) (zb1 (some (zwI S278 (zN S29) (82 : Int32).toNatClampNeg (97 : Int32).toInt8.toInt32)) (fun S281 => zgd (((zN S29) < zN S281 ∧ zK (zN S29) = 52) ∧ 0 ≤ (83 : Int32) ∧ (83 : Int32).toNatClampNeg < zA S281 (zN S29)) (zb1 (some (zwI S281 (zN S29) (83 : Int32).toNatClampNeg (116 : Int32).toInt8.toInt32)) (fun S284 => zgd (((zN S29) < zN S284 ∧ zK (zN S29) = 52) ∧ 0 ≤ (84 : Int32) ∧ (84 : Int32).toNatClampNeg < zA S284 (zN S29)) (zb1 (some (zwI S284 (zN S29) (84 : Int32).toNatClampNeg (32 : Int32).toInt8.toInt32)) (fun S287 => zgd (((zN S29) < zN S287 ∧ zK (zN S29) = 52) ∧ 0 ≤ (85 : Int32) ∧ (85 : Int32).toNatClampNeg < zA S287 (zN S29)) (zb1 (some (zwI S287 (zN S29) (85 : Int32).toNatClampNeg (115 : Int32).toInt8.toInt32)) (fun S290 => zgd (((zN S29) < zN S290 ∧ zK (zN S29) = 52) ∧ 0 ≤ (86 : Int32) ∧ (86 : Int32).toNatClampNeg < zA S290 (zN S29)) (zb1 (some (zwI S290 (zN S29) (86 : Int32).toNatClampNeg (104 : Int32).toInt8.toInt32)) (fun S293 => zgd (((zN S29) < zN S293 ∧ zK (zN S29) = 52) ∧ 0 ≤ (87 : Int32) ∧ (87 : Int32).toNatClampNeg < zA S293 (zN S29)) (zb1 (some (zwI S293 (zN S29) (87 : Int32).toNatClampNeg (117 : Int32).toInt8.toInt32)) (fun S296 => zgd (((zN S29) < zN S296 ∧ zK (zN S29) = 52) ∧ 0 ≤ (88 : Int32) ∧ (88 : Int32).toNatClampNeg < zA S296 (zN S29)) (zb1 (some (zwI S296 (zN S29) (88 : Int32).toNatClampNeg (116 : Int32).toInt8.toInt32)) (fun S299 => zgd (((zN S29) < zN S299 ∧ zK (zN S29) = 52) ∧ 0 ≤ (89 : Int32) ∧ (89 : Int32).toNatClampNeg < zA S299 (zN S29)) (zb1 (some (zwI S299 (zN S29) (89 : Int32).toNatClampNeg (32 : Int32).toInt8.toInt32)) (fun S302 => zgd (((zN S29) < zN S302 ∧ zK (zN S29) = 52) ∧ 0 ≤ (90 : Int32) ∧ (90 : Int32).toNatClampNeg < zA S302 (zN S29)) (zb1 (some (zwI S302 (zN S29) (90 : Int32).toNatClampNeg (115 : Int32).toInt8.toInt32)) (fun S305 => zgd (((zN S29) < zN S305 ∧ zK (zN S29) = 52) ∧ 0 ≤ (91 : Int32) ∧ (91 : Int32).toNatClampNeg < zA S305 (zN S29)) (zb1 (some (zwI S305 (zN S29) (91 : Int32).toNatClampNeg (111 : Int32).toInt8.toInt32)) (fun S308 => zgd (((zN S29) < zN S308 ∧ zK (zN S29) = 52) ∧ 0 ≤ (92 : Int32) ∧ (92 : Int32).toNatClampNeg < zA S308 (zN S29)) (zb1 (some (zwI S308 (zN S29) (92 : Int32).toNatClampNeg (111 : Int32).toInt8.toInt32)) (fun S311 => zgd (((zN S29) < zN S311 ∧ zK (zN S29) = 52) ∧ 0 ≤ (93 : Int32) ∧ (93 : Int32).toNatClampNeg < zA S311 (zN S29)) (zb1 (some (zwI S311 (zN S29) (93 : Int32).toNatClampNeg (110 : Int32).toInt8.toInt32)) (fun S314 => zgd (((zN S29) < zN S314 ∧ zK (zN S29) = 52) ∧ 0 ≤ (94 : Int32) ∧ (94 : Int32).toNatClampNeg < zA S314 (zN S29)) (zb1 (some (zwI S314 (zN S29) (94 : Int32).toNatClampNeg (32 : Int32).toInt8.toInt32)) (fun S317 => zgd (((zN S29) < zN S317 ∧ zK (zN S29) = 52) ∧ 0 ≤ (95 : Int32) ∧ (95 : Int32).toNatClampNeg < zA S317 (zN S29)) (zb1 (some (zwI S317 (zN S29) (95 : Int32).toNatClampNeg (115 : Int32).toInt8.toInt32)) (fun S320 => zgd (((zN S29) < zN S320 ∧ zK (zN S29) = 52) ∧ 0 ≤ (96 : Int32) ∧ (96 : Int32).toNatClampNeg < zA S320 (zN S29)) (zb1 (some (zwI S320 (zN S29) (96 : Int32).toNatClampNeg (119 : Int32).toInt8.toInt32)) (fun S323 => zgd (((zN S29) < zN S323 ∧ zK (zN S29) = 52) ∧ 0 ≤ (97 : Int32) ∧ (97 : Int32).toNatClampNeg < zA S323 (zN S29)) (zb1 (some (zwI S323 (zN S29) (97 : Int32).toNatClampNeg (105 : Int32).toInt8.toInt32)) (fun S326 => zgd (((zN S29) < zN S326 ∧ zK (zN S29) = 52) ∧ 0 ≤ (98 : Int32) ∧ (98 : Int32).toNatClampNeg < zA S326 (zN S29)) (zb1 (some (zwI S326 (zN S29) (98 : Int32).toNatClampNeg (109 : Int32).toInt8.toInt32)) (fun S329 => zgd (((zN S29) < zN S329 ∧ zK (zN S29) = 52) ∧ 0 ≤ (99 : Int32) ∧ (99 : Int32).toNatClampNeg < zA S329 (zN S29)) (zb1 (some (zwI S329 (zN S29) (99 : Int32).toNatClampNeg (32 : Int32).toInt8.toInt32)) (fun S332 => zgd (((zN S29) < zN S332 ∧ zK (zN S29) = 52) ∧ 0 ≤ (100 : Int32) ∧ (100 : Int32).toNatClampNeg < zA S332 (zN S29)) (zb1 (some (zwI S332 (zN S29) (100 : Int32).toNatClampNeg (103 : Int32).toInt8.toInt32)) (fun S335 => zgd (((zN S29) < zN S335 ∧ zK (zN S29) = 52) ∧ 0 ≤ (101 : Int32) ∧ (101 : Int32).toNatClampNeg < zA S335 (zN S29)) (zb1 (some (zwI S335 (zN S29) (101 : Int32).toNatClampNeg (97 : Int32).toInt8.toInt32)) (fun S338 => zgd (((zN S29) < zN S338 ∧ zK (zN S29) = 52) ∧ 0 ≤ (102 : Int32) ∧ (102 : Int32).toNatClampNeg < zA S338 (zN S29)) (zb1 (some (zwI S338 (zN S29) (102 : Int32).toNatClampNeg (116 : Int32).toInt8.toInt32)) (fun S341 => zgd (((zN S29) < zN S341 ∧ zK (zN S29) = 52) ∧ 0 ≤ (103 : Int32) ∧ (103 : Int32).toNatClampNeg < zA S341 (zN S29)) (zb1 (some (zwI S341 (zN S29) (103 : Int32).toNatClampNeg (101 : Int32).toInt8.toInt32)) (fun S344 => zgd (((zN S29) < zN S344 ∧ zK (zN S29) = 52) ∧ 0 ≤ (104 : Int32) ∧ (104 : Int32).toNatClampNeg < zA S344 (zN S29)) (zb1 (some (zwI S344 (zN S29) (104 : Int32).toNatClampNeg (32 : Int32).toInt8.toInt32)) (fun S347 => zgd (((zN S29) < zN S347 ∧ zK (zN S29) = 52) ∧ 0 ≤ (105 : Int32) ∧ (105 : Int32).toNatClampNeg < zA S347 (zN S29)) (zb1 (some (zwI S347 (zN S29) (105 : Int32).toNatClampNeg (115 : Int32).toInt8.toInt32)) (fun S350 => zgd (((zN S29) < zN S350 ∧ zK (zN S29) = 52) ∧ 0 ≤ (106 : Int32) ∧ (106 : Int32).toNatClampNeg < zA S350 (zN S29)) (zb1 (some (zwI S350 (zN S29) (106 : Int32).toNatClampNeg (116 : Int32).toInt8.toInt32)) (fun S353 => zgd (((zN S29) < zN S353 ∧ zK (zN S29) = 52) ∧ 0 ≤ (107 : Int32) ∧ (107 : Int32).toNatClampNeg < zA S353 (zN S29)) (zb1 (some (zwI S353 (zN S29) (107 : Int32).toNatClampNeg (105 : Int32).toInt8.toInt32)) (fun S356 => zgd (((zN S29) < zN S356 ∧ zK (zN S29) = 52) ∧ 0 ≤ (108 : Int32) ∧ (108 : Int32).toNatClampNeg < zA S356 (zN S29)) (zb1 (some (zwI S356 (zN S29) (108 : Int32).toNatClampNeg (114 : Int32).toInt8.toInt32)) (fun S359 => zgd (((zN S29) < zN S359 ∧ zK (zN S29) = 52) ∧ 0 ≤ (109 : Int32) ∧ (109 : Int32).toNatClampNeg < zA S359 (zN S29)) (zb1 (some (zwI S359 (zN S29) (109 : Int32).toNatClampNeg (32 : Int32).toInt8.toInt32)) (fun S362 => zgd (((zN S29) < zN S362 ∧ zK (zN S29) = 52) ∧ 0 ≤ (110 : Int32) ∧ (110 : Int32).toNatClampNeg < zA S362 (zN S29)) (zb1 (some (zwI S362 (zN S29) (110 : Int32).toNatClampNeg (112 : Int32).toInt8.toInt32)) (fun S365 => zgd (((zN S29) < zN S365 ∧ zK (zN S29) = 52) ∧ 0 ≤ (111 : Int32) ∧ (111 : Int32).toNatClampNeg < zA S365 (zN S29)) (zb1 (some (zwI S365 (zN S29) (111 : Int32).toNatClampNeg (97 : Int32).toInt8.toInt32)) (fun S368 => zgd (((zN S29) < zN S368 ∧ zK (zN S29) = 52) ∧ 0 ≤ (112 : Int32) ∧ (112 : Int32).toNatClampNeg < zA S368 (zN S29)) (zb1 (some (zwI S368 (zN S29) (112 : Int32).toNatClampNeg (115 : Int32).toInt8.toInt32)) (fun S371 => zgd (((zN S29) < zN S371 ∧ zK (zN S29) = 52) ∧ 0 ≤ (113 : Int32) ∧ (113 : Int32).toNatClampNeg < zA S371 (zN S29)) (zb1 (some (zwI S371 (zN S29) (113 : Int32).toNatClampNeg (115 : Int32).toInt8.toInt32)) (fun S374 => zgd (((zN S29) < zN S374 ∧ zK (zN S29) = 52) ∧ 0 ≤ (114 : Int32) ∧ (114 : Int32).toNatClampNeg < zA S374 (zN S29)) (zb1 (some (zwI S374 (zN S29) (114 : Int32).toNatClampNeg (32 : Int32).toInt8.toInt32)) (fun S377 => zgd (((zN S29) < zN S377 ∧ zK (zN S29) = 52) ∧ 0 ≤ (115 : Int32) ∧ (115 : Int32).toNatClampNeg < zA S377 (zN S29)) (zb1 (some (zwI S377 (zN S29) (115 : Int32).toNatClampNeg (116 : Int32).toInt8.toInt32)) (fun S380 => zgd (((zN S29) < zN S380 ∧ zK (zN S29) = 52) ∧ 0 ≤ (116 : Int32) ∧ (116 : Int32).toNatClampNeg < zA S380 (zN S29)) (zb1 (some (zwI S380 (zN S29) (116 : Int32).toNatClampNeg (105 : Int32).toInt8.toInt32)) (fun S383 => zgd (((zN S29) < zN S383 ∧ zK (zN S29) = 52) ∧ 0 ≤ (117 : Int32) ∧ (117 : Int32).toNatClampNeg < zA S383 (zN S29)) (zb1 (some (zwI S383 (zN S29) (117 : Int32).toNatClampNeg (109 : Int32).toInt8.toInt32)) (fun S386 => zgd (((zN S29) < zN S386 ∧ zK (zN S29) = 52) ∧ 0 ≤ (118 : Int32) ∧ (118 : Int32).toNatClampNeg < zA S386 (zN S29)) (zb1 (some (zwI S386 (zN S29) (118 : Int32).toNatClampNeg (101 : Int32).toInt8.toInt32)) (fun S389 => zgd (((zN S29) < zN S389 ∧ zK (zN S29) = 52) ∧ 0 ≤ (119 : Int32) ∧ (119 : Int32).toNatClampNeg < zA S389 (zN S29)) (zb1 (some (zwI S389 (zN S29) (119 : Int32).toNatClampNeg (115 : Int32).toInt8.toInt32)) (fun S392 => zgd (((zN S29) < zN S392 ∧ zK (zN S29) = 52) ∧ 0 ≤ (120 : Int32) ∧ (120 : Int32).toNatClampNeg < zA S392 (zN S29)) (zb1 (some (zwI S392 (zN S29) (120 : Int32).toNatClampNeg (32 : Int32).toInt8.toInt32)) (fun S395 => zgd (a0 < zN S395) (zb1 (some (zwR S395 a0 7 (some (zN S29)))) (fun S398 => zgd (zK (zN S398) = 52 ∧ zN S398 < zX) (zb1 (some (znew S398 400)) (fun S401 => zgd (a0 < zN S401) (zb1 (some (zwR S401 a0 11 (some (zN S398)))) (fun S404 => zgd (zK (zN S404) = 50 ∧ zN S404 < zX) (zb1 (some (znew S404 5)) (fun S407 => zgd (a0 < zN S407) (zb1 (some (zwR S407 a0 12 (some (zN S404)))) (fun S410 => zgd (a0 < zN S410) (zb1 (some (zwI S410 a0 14 (-1 : Int32))) (fun S413 => zgd (zK (zN S413) = 50 ∧ zN S413 < zX) (zb1 (some (znew S413 401)) (fun S416 => zgd (a0 < zN S416) (zb1 (some (zwR S416 a0 15 (some (zN S413)))) (fun S419 => zgd (zK (zN S419) = 50 ∧ zN S419 < zX) (zb1 (some (znew S419 401)) (fun S422 => zgd (a0 < zN S422) (zb1 (some (zwR S422 a0 16 (some (zN S419)))) (fun S425 => zgd (zK (zN S425) = 50 ∧ zN S425 < zX) (zb1 (some (znew S425 401)) (fun S428 => zgd (a0 < zN S428) (zb1 (some (zwR S428 a0 17 (some (zN S425)))) (fun S431 => zgd (zK (zN S431) = 50 ∧ zN S431 < zX) (zb1 (some (znew S431 7)) (fun S434 => zgd (a0 < zN S434) (zb1 (some (zwR S434 a0 26 (some (zN S431)))) (fun S437 => zgd (zK (zN S437) = 50 ∧ zN S437 < zX) (zb1 (some (znew S437 9)) (fun S440 => zgd (a0 < zN S440) (zb1 (some (zwR S440 a0 29 (some (zN S437)))) (fun S443 => zgd (zK (zN S443) = 50 ∧ zN S443 < zX) (zb1 (some (znew S443 1488)) (fun S446 => zgd (a0 < zN S446) (zb1 (some (zwR S446 a0 30 (some (zN S443)))) (fun S449 => zgd (zK (zN S449) = 50 ∧ zN S449 < zX) (zb1 (some (znew S449 1488)) (fun S452 => zgd (a0 < zN S452) (zb1 (some (zwR S452 a0 31 (some (zN S449)))) (fun S455 => zgd (zK (zN S455) = 50 ∧ zN S455 < zX) (zb1 (some (znew S455 9)) (fun S458 => zgd (a0 < zN S458) (zb1 (some (zwR S458 a0 33 (some (zN S455)))) (fun S461 => zgd (zK (zN S461) = 50 ∧ zN S461 < zX) (zb1 (some (znew S461 81)) (fun S464 => zgd (a0 < zN S464) (zb1 (some (zwR S464 a0 34 (some (zN S461)))) (fun S467 => zgd (zK (zN S467) = 50 ∧ zN S467 < zX) (zb1 (some (znew S467 81)) (fun S470 => zgd (a0 < zN S470) (zb1 (some (zwR S470 a0 35 (some (zN S467)))) (fun S473 => zgd (zK (zN S473) = 50 ∧ zN S473 < zX) (zb1 (some (znew S473 4608)) (fun S476 => zgd (a0 < zN S476) (zb1 (some (zwR S476 a0 36 (some (zN S473)))) (fun S479 => zgd (zK (zN S479) = 50 ∧ zN S479 < zX) (zb1 (some (znew S479 81)) (fun S482 => zgd (a0 < zN S482) (zb1 (some (zwR S482 a0 37 (some (zN S479)))) (fun S485 => zgd (zK (zN S485) = 50 ∧ zN S485 < zX) (zb1 (some (znew S485 81)) (fun S488 => zgd (a0 < zN S488) (zb1 (some (zwR S488 a0 38 (some (zN S485)))) (fun S491 => zgd (zK (zN S491) = 50 ∧ zN S491 < zX) (zb1 (some (znew S491 90)) (fun S494 => zgd (a0 < zN S494) (zb1 (some (zwR S494 a0 39 (some (zN S491)))) (fun S497 => zgd (zK (zN S497) = 51 ∧ zN S497 < zX) (zb1 (some (znew S497 21)) (fun S500 => zgd (a0 < zN S500) (zb1 (some (zwR S500 a0 40 (some (zN S497)))) (fun S503 => zgd (a0 < zN S503) (zb1 (some (zwI S503 a0 41 (-1 : Int32))) (fun S506 => zgd (zK (zN S506) = 51 ∧ zN S506 < zX) (zb1 (some (znew S506 2)) (fun S509 => zgd (a0 < zN S509) (zb1 (some (zwR S509 a0 47 (some (zN S506)))) (fun S512 => zgd (zK (zN S512) = 50 ∧ zN S512 < zX) (zb1 (some (znew S512 92)) (fun S515 => zgd (a0 < zN S515) (zb1 (some (zwR S515 a0 48 (some (zN S512)))) (fun S518 => zgd (a0 < zN S518) (zb1 (some (zwI S518 a0 49 (-1 : Int32))) (fun S521 => zgd (a0 < zN S521) (zb1 (zR S521 a0 2) (fun q524 => zgd ((q524 < zN S521 ∧ zK q524 = 50) ∧ 0 ≤ (194 : Int32) ∧ (194 : Int32).toNatClampNeg < zA S521 q524) (zb1 (some (zwI S521 q524 (194 : Int32).toNatClampNeg (1 : Int32))) (fun S527 => zgd (a0 < zN S527) (zb1 (zR S527 a0 2) (fun q530 => zgd ((q530 < zN S527 ∧ zK q530 = 50) ∧ 0 ≤ (199 : Int32) ∧ (199 : Int32).toNatClampNeg < zA S527 q530) (zb1 (some (zwI S527 q530 (199 : Int32).toNatClampNeg (-1 : Int32))) (fun S533 => some S533))))))))))))))))))))))))))))))))))))))))))))))))))))))))))))))))))))))))))))))))))))))))))))))))))))))))))))))))))))))))))))))))))))))))))))))))))))))))))))))))))))))))))))))))))))))))))))))))))))))))))))))))))))))))))))))))))))))))))))))))))))))))))))))))))))))))))))))))))))))))))))))))))))))))))))))))))))))))))))))))))))))))))))))))))))))))))))))))))))
set_option maxRecDepth 100000 in
set_option maxHeartbeats 16000000 in
theorem m_M_init (l : Launch) {a0 : Nat} {S S1 : zSt} (h0 : zK a0 = 11) (h : f_M_init a0 S = some S1) : zPM l y_M_init b_M_init 1 none rm_M_init false false [zr (some a0)] S none S1 := by
  refine zPM_of (by decide) (Nat.le_of_ble_eq_true rfl) (fun p e s m args below meth c G C hret hname => ?_)
  unfold f_M_init at h
  refine (?_ : zJ p l e rm_M_init s m args below meth c G false 1 0 0 (zQm below G args s rm_M_init false none S1) S 0 [(0, zr (some a0))] [])
  refine z_aload_n C 0 rfl d_M_init_0 rfl ?_
  refine z_objInit C lk_11_18 ⟨by decide, by decide⟩ (Nat.le_of_ble_eq_true rfl) d_M_init_1 ?_
  refine z_aload_n C 0 rfl d_M_init_4 rfl ?_
  refine z_bipush C (7 : Int32) (by decide) d_M_init_5 ?_
  obtain ⟨g1, h⟩ := zgd_some h
  refine z_newI C 7 (by decide) (by decide) (by decide) g1 (by decide) (by decide) d_M_init_7 ?_
  obtain ⟨S2, e3, h⟩ := zb1_some h
  rw [Option.some.inj e3]
  obtain ⟨g4, h⟩ := zgd_some h
  refine z_putR C 11 (by decide) 1 (by decide) rfl g4 h0 zfl_11_7 (Or.inr ⟨hname, rfl⟩) d_M_init_9 ?_
  obtain ⟨S5, e6, h⟩ := zb1_some h
  rw [Option.some.inj e6]
  refine z_aload_n C 0 rfl d_M_init_12 rfl ?_
  refine z_sipush C (5807 : Int32) (by decide) d_M_init_13 ?_
  obtain ⟨g7, h⟩ := zgd_some h
  refine z_newI C 5807 (by decide) (by decide) (by decide) g7 (by decide) (by decide) d_M_init_16 ?_
  obtain ⟨S8, e9, h⟩ := zb1_some h
  rw [Option.some.inj e9]
  obtain ⟨g10, h⟩ := zgd_some h
  refine z_putR C 11 (by decide) 2 (by decide) rfl g10 h0 zfl_11_24 (Or.inr ⟨hname, rfl⟩) d_M_init_18 ?_
  obtain ⟨S11, e12, h⟩ := zb1_some h
  rw [Option.some.inj e12]
  refine z_aload_n C 0 rfl d_M_init_21 rfl ?_
  refine z_sipush C (11614 : Int32) (by decide) d_M_init_22 ?_
  obtain ⟨g13, h⟩ := zgd_some h
  refine z_newI C 11614 (by decide) (by decide) (by decide) g13 (by decide) (by decide) d_M_init_25 ?_
  obtain ⟨S14, e15, h⟩ := zb1_some h
  rw [Option.some.inj e15]
  obtain ⟨g16, h⟩ := zgd_some h
  refine z_putR C 11 (by decide) 3 (by decide) rfl g16 h0 zfl_11_27 (Or.inr ⟨hname, rfl⟩) d_M_init_27 ?_
  obtain ⟨S17, e18, h⟩ := zb1_some h
  rw [Option.some.inj e18]
  refine z_aload_n C 0 rfl d_M_init_30 rfl ?_
  refine z_iconst C (2 : Int32) (by decide) d_M_init_31 ?_
  obtain ⟨g19, h⟩ := zgd_some h
  refine z_newZ C 2 (by decide) (by decide) (by decide) g19 (by decide) (by decide) d_M_init_32 ?_
  obtain ⟨S20, e21, h⟩ := zb1_some h
  rw [Option.some.inj e21]
  obtain ⟨g22, h⟩ := zgd_some h
  refine z_putR C 11 (by decide) 4 (by decide) rfl g22 h0 zfl_11_30 (Or.inr ⟨hname, rfl⟩) d_M_init_34 ?_
  obtain ⟨S23, e24, h⟩ := zb1_some h
  rw [Option.some.inj e24]
  refine z_aload_n C 0 rfl d_M_init_37 rfl ?_
  refine z_sipush C (184 : Int32) (by decide) d_M_init_38 ?_
  obtain ⟨g25, h⟩ := zgd_some h
  refine z_newI C 184 (by decide) (by decide) (by decide) g25 (by decide) (by decide) d_M_init_41 ?_
  obtain ⟨S26, e27, h⟩ := zb1_some h
  rw [Option.some.inj e27]
  obtain ⟨g28, h⟩ := zgd_some h
  refine z_putR C 11 (by decide) 5 (by decide) rfl g28 h0 zfl_11_34 (Or.inr ⟨hname, rfl⟩) d_M_init_43 ?_
  obtain ⟨S29, e30, h⟩ := zb1_some h
  rw [Option.some.inj e30]
  refine z_aload_n C 0 rfl d_M_init_46 rfl ?_
  refine z_bipush C (121 : Int32) (by decide) d_M_init_47 ?_
  obtain ⟨g31, h⟩ := zgd_some h
  refine z_newB C 121 (by decide) (by decide) (by decide) g31 (by decide) (by decide) d_M_init_49 ?_
  obtain ⟨S32, e33, h⟩ := zb1_some h
  rw [Option.some.inj e33]
  refine z_dup C rfl d_M_init_51 ?_
  refine z_iconst C (0 : Int32) (by decide) d_M_init_52 ?_
  refine z_bipush C (116 : Int32) (by decide) d_M_init_53 ?_
  obtain ⟨g34, h⟩ := zgd_some h
  refine z_bastore C (Or.inr g34.1.1) g34.1.2 g34.2 d_M_init_55 ?_
  obtain ⟨S35, e36, h⟩ := zb1_some h
  rw [Option.some.inj e36]
  refine z_dup C rfl d_M_init_56 ?_
  refine z_iconst C (1 : Int32) (by decide) d_M_init_57 ?_
  refine z_bipush C (97 : Int32) (by decide) d_M_init_58 ?_
  obtain ⟨g37, h⟩ := zgd_some h
  refine z_bastore C (Or.inr g37.1.1) g37.1.2 g37.2 d_M_init_60 ?_
  obtain ⟨S38, e39, h⟩ := zb1_some h
  rw [Option.some.inj e39]
  refine z_dup C rfl d_M_init_61 ?_
  refine z_iconst C (2 : Int32) (by decide) d_M_init_62 ?_
  refine z_bipush C (107 : Int32) (by decide) d_M_init_63 ?_
  obtain ⟨g40, h⟩ := zgd_some h
  refine z_bastore C (Or.inr g40.1.1) g40.1.2 g40.2 d_M_init_65 ?_
  obtain ⟨S41, e42, h⟩ := zb1_some h
  rw [Option.some.inj e42]
  refine z_dup C rfl d_M_init_66 ?_
  refine z_iconst C (3 : Int32) (by decide) d_M_init_67 ?_
  refine z_bipush C (101 : Int32) (by decide) d_M_init_68 ?_
  obtain ⟨g43, h⟩ := zgd_some h
  refine z_bastore C (Or.inr g43.1.1) g43.1.2 g43.2 d_M_init_70 ?_
  obtain ⟨S44, e45, h⟩ := zb1_some h
  rw [Option.some.inj e45]
  refine z_dup C rfl d_M_init_71 ?_
  refine z_iconst C (4 : Int32) (by decide) d_M_init_72 ?_
  refine z_bipush C (115 : Int32) (by decide) d_M_init_73 ?_
  obtain ⟨g46, h⟩ := zgd_some h
  refine z_bastore C (Or.inr g46.1.1) g46.1.2 g46.2 d_M_init_75 ?_
  obtain ⟨S47, e48, h⟩ := zb1_some h
  rw [Option.some.inj e48]
  refine z_dup C rfl d_M_init_76 ?_
  refine z_iconst C (5 : Int32) (by decide) d_M_init_77 ?_
  refine z_bipush C (32 : Int32) (by decide) d_M_init_78 ?_
  obtain ⟨g49, h⟩ := zgd_some h
  refine z_bastore C (Or.inr g49.1.1) g49.1.2 g49.2 d_M_init_80 ?_
  obtain ⟨S50, e51, h⟩ := zb1_some h
  rw [Option.some.inj e51]
  refine z_dup C rfl d_M_init_81 ?_
  refine z_bipush C (6 : Int32) (by decide) d_M_init_82 ?_
  refine z_bipush C (119 : Int32) (by decide) d_M_init_84 ?_
  obtain ⟨g52, h⟩ := zgd_some h
  refine z_bastore C (Or.inr g52.1.1) g52.1.2 g52.2 d_M_init_86 ?_
  obtain ⟨S53, e54, h⟩ := zb1_some h
  rw [Option.some.inj e54]
  refine z_dup C rfl d_M_init_87 ?_
  refine z_bipush C (7 : Int32) (by decide) d_M_init_88 ?_
  refine z_bipush C (101 : Int32) (by decide) d_M_init_90 ?_
  obtain ⟨g55, h⟩ := zgd_some h
  refine z_bastore C (Or.inr g55.1.1) g55.1.2 g55.2 d_M_init_92 ?_
  obtain ⟨S56, e57, h⟩ := zb1_some h
  rw [Option.some.inj e57]
  refine z_dup C rfl d_M_init_93 ?_
  refine z_bipush C (8 : Int32) (by decide) d_M_init_94 ?_
  refine z_bipush C (105 : Int32) (by decide) d_M_init_96 ?_
  obtain ⟨g58, h⟩ := zgd_some h
  refine z_bastore C (Or.inr g58.1.1) g58.1.2 g58.2 d_M_init_98 ?_
  obtain ⟨S59, e60, h⟩ := zb1_some h
  rw [Option.some.inj e60]
  refine z_dup C rfl d_M_init_99 ?_
  refine z_bipush C (9 : Int32) (by decide) d_M_init_100 ?_
  refine z_bipush C (103 : Int32) (by decide) d_M_init_102 ?_
  obtain ⟨g61, h⟩ := zgd_some h
  refine z_bastore C (Or.inr g61.1.1) g61.1.2 g61.2 d_M_init_104 ?_
  obtain ⟨S62, e63, h⟩ := zb1_some h
  rw [Option.some.inj e63]
  refine z_dup C rfl d_M_init_105 ?_
  refine z_bipush C (10 : Int32) (by decide) d_M_init_106 ?_
  refine z_bipush C (104 : Int32) (by decide) d_M_init_108 ?_
  obtain ⟨g64, h⟩ := zgd_some h
  refine z_bastore C (Or.inr g64.1.1) g64.1.2 g64.2 d_M_init_110 ?_
  obtain ⟨S65, e66, h⟩ := zb1_some h
  rw [Option.some.inj e66]
  refine z_dup C rfl d_M_init_111 ?_
  refine z_bipush C (11 : Int32) (by decide) d_M_init_112 ?_
  refine z_bipush C (115 : Int32) (by decide) d_M_init_114 ?_
  obtain ⟨g67, h⟩ := zgd_some h
  refine z_bastore C (Or.inr g67.1.1) g67.1.2 g67.2 d_M_init_116 ?_
  obtain ⟨S68, e69, h⟩ := zb1_some h
  rw [Option.some.inj e69]
  refine z_dup C rfl d_M_init_117 ?_
  refine z_bipush C (12 : Int32) (by decide) d_M_init_118 ?_
  refine z_bipush C (32 : Int32) (by decide) d_M_init_120 ?_
  obtain ⟨g70, h⟩ := zgd_some h
  refine z_bastore C (Or.inr g70.1.1) g70.1.2 g70.2 d_M_init_122 ?_
  obtain ⟨S71, e72, h⟩ := zb1_some h
  rw [Option.some.inj e72]
  refine z_dup C rfl d_M_init_123 ?_
  refine z_bipush C (13 : Int32) (by decide) d_M_init_124 ?_
  refine z_bipush C (115 : Int32) (by decide) d_M_init_126 ?_
  obtain ⟨g73, h⟩ := zgd_some h
  refine z_bastore C (Or.inr g73.1.1) g73.1.2 g73.2 d_M_init_128 ?_
  obtain ⟨S74, e75, h⟩ := zb1_some h
  rw [Option.some.inj e75]
  refine z_dup C rfl d_M_init_129 ?_
  refine z_bipush C (14 : Int32) (by decide) d_M_init_130 ?_
  refine z_bipush C (101 : Int32) (by decide) d_M_init_132 ?_
  obtain ⟨g76, h⟩ := zgd_some h
  refine z_bastore C (Or.inr g76.1.1) g76.1.2 g76.2 d_M_init_134 ?_
  obtain ⟨S77, e78, h⟩ := zb1_some h
  rw [Option.some.inj e78]
  refine z_dup C rfl d_M_init_135 ?_
  refine z_bipush C (15 : Int32) (by decide) d_M_init_136 ?_
  refine z_bipush C (116 : Int32) (by decide) d_M_init_138 ?_
  obtain ⟨g79, h⟩ := zgd_some h
  refine z_bastore C (Or.inr g79.1.1) g79.1.2 g79.2 d_M_init_140 ?_
  obtain ⟨S80, e81, h⟩ := zb1_some h
  rw [Option.some.inj e81]
  refine z_dup C rfl d_M_init_141 ?_
  refine z_bipush C (16 : Int32) (by decide) d_M_init_142 ?_
  refine z_bipush C (116 : Int32) (by decide) d_M_init_144 ?_
  obtain ⟨g82, h⟩ := zgd_some h
  refine z_bastore C (Or.inr g82.1.1) g82.1.2 g82.2 d_M_init_146 ?_
  obtain ⟨S83, e84, h⟩ := zb1_some h
  rw [Option.some.inj e84]
  refine z_dup C rfl d_M_init_147 ?_
  refine z_bipush C (17 : Int32) (by decide) d_M_init_148 ?_
  refine z_bipush C (108 : Int32) (by decide) d_M_init_150 ?_
  obtain ⟨g85, h⟩ := zgd_some h
  refine z_bastore C (Or.inr g85.1.1) g85.1.2 g85.2 d_M_init_152 ?_
  obtain ⟨S86, e87, h⟩ := zb1_some h
  rw [Option.some.inj e87]
  refine z_dup C rfl d_M_init_153 ?_
  refine z_bipush C (18 : Int32) (by decide) d_M_init_154 ?_
  refine z_bipush C (101 : Int32) (by decide) d_M_init_156 ?_
  obtain ⟨g88, h⟩ := zgd_some h
  refine z_bastore C (Or.inr g88.1.1) g88.1.2 g88.2 d_M_init_158 ?_
  obtain ⟨S89, e90, h⟩ := zb1_some h
  rw [Option.some.inj e90]
  refine z_dup C rfl d_M_init_159 ?_
  refine z_bipush C (19 : Int32) (by decide) d_M_init_160 ?_
  refine z_bipush C (115 : Int32) (by decide) d_M_init_162 ?_
  obtain ⟨g91, h⟩ := zgd_some h
  refine z_bastore C (Or.inr g91.1.1) g91.1.2 g91.2 d_M_init_164 ?_
  obtain ⟨S92, e93, h⟩ := zb1_some h
  rw [Option.some.inj e93]
  refine z_dup C rfl d_M_init_165 ?_
  refine z_bipush C (20 : Int32) (by decide) d_M_init_166 ?_
  refine z_bipush C (32 : Int32) (by decide) d_M_init_168 ?_
  obtain ⟨g94, h⟩ := zgd_some h
  refine z_bastore C (Or.inr g94.1.1) g94.1.2 g94.2 d_M_init_170 ?_
  obtain ⟨S95, e96, h⟩ := zb1_some h
  rw [Option.some.inj e96]
  refine z_dup C rfl d_M_init_171 ?_
  refine z_bipush C (21 : Int32) (by decide) d_M_init_172 ?_
  refine z_bipush C (98 : Int32) (by decide) d_M_init_174 ?_
  obtain ⟨g97, h⟩ := zgd_some h
  refine z_bastore C (Or.inr g97.1.1) g97.1.2 g97.2 d_M_init_176 ?_
  obtain ⟨S98, e99, h⟩ := zb1_some h
  rw [Option.some.inj e99]
  refine z_dup C rfl d_M_init_177 ?_
  refine z_bipush C (22 : Int32) (by decide) d_M_init_178 ?_
  refine z_bipush C (97 : Int32) (by decide) d_M_init_180 ?_
  obtain ⟨g100, h⟩ := zgd_some h
  refine z_bastore C (Or.inr g100.1.1) g100.1.2 g100.2 d_M_init_182 ?_
  obtain ⟨S101, e102, h⟩ := zb1_some h
  rw [Option.some.inj e102]
  refine z_dup C rfl d_M_init_183 ?_
  refine z_bipush C (23 : Int32) (by decide) d_M_init_184 ?_
  refine z_bipush C (114 : Int32) (by decide) d_M_init_186 ?_
  obtain ⟨g103, h⟩ := zgd_some h
  refine z_bastore C (Or.inr g103.1.1) g103.1.2 g103.2 d_M_init_188 ?_
  obtain ⟨S104, e105, h⟩ := zb1_some h
  rw [Option.some.inj e105]
  refine z_dup C rfl d_M_init_189 ?_
  refine z_bipush C (24 : Int32) (by decide) d_M_init_190 ?_
  refine z_bipush C (115 : Int32) (by decide) d_M_init_192 ?_
  obtain ⟨g106, h⟩ := zgd_some h
  refine z_bastore C (Or.inr g106.1.1) g106.1.2 g106.2 d_M_init_194 ?_
  obtain ⟨S107, e108, h⟩ := zb1_some h
  rw [Option.some.inj e108]
  refine z_dup C rfl d_M_init_195 ?_
  refine z_bipush C (25 : Int32) (by decide) d_M_init_196 ?_
  refine z_bipush C (32 : Int32) (by decide) d_M_init_198 ?_
  obtain ⟨g109, h⟩ := zgd_some h
  refine z_bastore C (Or.inr g109.1.1) g109.1.2 g109.2 d_M_init_200 ?_
  obtain ⟨S110, e111, h⟩ := zb1_some h
  rw [Option.some.inj e111]
  refine z_dup C rfl d_M_init_201 ?_
  refine z_bipush C (26 : Int32) (by decide) d_M_init_202 ?_
  refine z_bipush C (105 : Int32) (by decide) d_M_init_204 ?_
  obtain ⟨g112, h⟩ := zgd_some h
  refine z_bastore C (Or.inr g112.1.1) g112.1.2 g112.2 d_M_init_206 ?_
  obtain ⟨S113, e114, h⟩ := zb1_some h
  rw [Option.some.inj e114]
  refine z_dup C rfl d_M_init_207 ?_
  refine z_bipush C (27 : Int32) (by decide) d_M_init_208 ?_
  refine z_bipush C (102 : Int32) (by decide) d_M_init_210 ?_
  obtain ⟨g115, h⟩ := zgd_some h
  refine z_bastore C (Or.inr g115.1.1) g115.1.2 g115.2 d_M_init_212 ?_
  obtain ⟨S116, e117, h⟩ := zb1_some h
  rw [Option.some.inj e117]
  refine z_dup C rfl d_M_init_213 ?_
  refine z_bipush C (28 : Int32) (by decide) d_M_init_214 ?_
  refine z_bipush C (32 : Int32) (by decide) d_M_init_216 ?_
  obtain ⟨g118, h⟩ := zgd_some h
  refine z_bastore C (Or.inr g118.1.1) g118.1.2 g118.2 d_M_init_218 ?_
  obtain ⟨S119, e120, h⟩ := zb1_some h
  rw [Option.some.inj e120]
  refine z_dup C rfl d_M_init_219 ?_
  refine z_bipush C (29 : Int32) (by decide) d_M_init_220 ?_
  refine z_bipush C (111 : Int32) (by decide) d_M_init_222 ?_
  obtain ⟨g121, h⟩ := zgd_some h
  refine z_bastore C (Or.inr g121.1.1) g121.1.2 g121.2 d_M_init_224 ?_
  obtain ⟨S122, e123, h⟩ := zb1_some h
  rw [Option.some.inj e123]
  refine z_dup C rfl d_M_init_225 ?_
  refine z_bipush C (30 : Int32) (by decide) d_M_init_226 ?_
  refine z_bipush C (114 : Int32) (by decide) d_M_init_228 ?_
  obtain ⟨g124, h⟩ := zgd_some h
  refine z_bastore C (Or.inr g124.1.1) g124.1.2 g124.2 d_M_init_230 ?_
  obtain ⟨S125, e126, h⟩ := zb1_some h
  rw [Option.some.inj e126]
  refine z_dup C rfl d_M_init_231 ?_
  refine z_bipush C (31 : Int32) (by decide) d_M_init_232 ?_
  refine z_bipush C (32 : Int32) (by decide) d_M_init_234 ?_
  obtain ⟨g127, h⟩ := zgd_some h
  refine z_bastore C (Or.inr g127.1.1) g127.1.2 g127.2 d_M_init_236 ?_
  obtain ⟨S128, e129, h⟩ := zb1_some h
  rw [Option.some.inj e129]
  refine z_dup C rfl d_M_init_237 ?_
  refine z_bipush C (32 : Int32) (by decide) d_M_init_238 ?_
  refine z_bipush C (97 : Int32) (by decide) d_M_init_240 ?_
  obtain ⟨g130, h⟩ := zgd_some h
  refine z_bastore C (Or.inr g130.1.1) g130.1.2 g130.2 d_M_init_242 ?_
  obtain ⟨S131, e132, h⟩ := zb1_some h
  rw [Option.some.inj e132]
  refine z_dup C rfl d_M_init_243 ?_
  refine z_bipush C (33 : Int32) (by decide) d_M_init_244 ?_
  refine z_bipush C (110 : Int32) (by decide) d_M_init_246 ?_
  obtain ⟨g133, h⟩ := zgd_some h
  refine z_bastore C (Or.inr g133.1.1) g133.1.2 g133.2 d_M_init_248 ?_
  obtain ⟨S134, e135, h⟩ := zb1_some h
  rw [Option.some.inj e135]
  refine z_dup C rfl d_M_init_249 ?_
  refine z_bipush C (34 : Int32) (by decide) d_M_init_250 ?_
  refine z_bipush C (100 : Int32) (by decide) d_M_init_252 ?_
  obtain ⟨g136, h⟩ := zgd_some h
  refine z_bastore C (Or.inr g136.1.1) g136.1.2 g136.2 d_M_init_254 ?_
  obtain ⟨S137, e138, h⟩ := zb1_some h
  rw [Option.some.inj e138]
  refine z_dup C rfl d_M_init_255 ?_
  refine z_bipush C (35 : Int32) (by decide) d_M_init_256 ?_
  refine z_bipush C (32 : Int32) (by decide) d_M_init_258 ?_
  obtain ⟨g139, h⟩ := zgd_some h
  refine z_bastore C (Or.inr g139.1.1) g139.1.2 g139.2 d_M_init_260 ?_
  obtain ⟨S140, e141, h⟩ := zb1_some h
  rw [Option.some.inj e141]
  refine z_dup C rfl d_M_init_261 ?_
  refine z_bipush C (36 : Int32) (by decide) d_M_init_262 ?_
  refine z_bipush C (110 : Int32) (by decide) d_M_init_264 ?_
  obtain ⟨g142, h⟩ := zgd_some h
  refine z_bastore C (Or.inr g142.1.1) g142.1.2 g142.2 d_M_init_266 ?_
  obtain ⟨S143, e144, h⟩ := zb1_some h
  rw [Option.some.inj e144]
  refine z_dup C rfl d_M_init_267 ?_
  refine z_bipush C (37 : Int32) (by decide) d_M_init_268 ?_
  refine z_bipush C (111 : Int32) (by decide) d_M_init_270 ?_
  obtain ⟨g145, h⟩ := zgd_some h
  refine z_bastore C (Or.inr g145.1.1) g145.1.2 g145.2 d_M_init_272 ?_
  obtain ⟨S146, e147, h⟩ := zb1_some h
  rw [Option.some.inj e147]
  refine z_dup C rfl d_M_init_273 ?_
  refine z_bipush C (38 : Int32) (by decide) d_M_init_274 ?_
  refine z_bipush C (116 : Int32) (by decide) d_M_init_276 ?_
  obtain ⟨g148, h⟩ := zgd_some h
  refine z_bastore C (Or.inr g148.1.1) g148.1.2 g148.2 d_M_init_278 ?_
  obtain ⟨S149, e150, h⟩ := zb1_some h
  rw [Option.some.inj e150]
  refine z_dup C rfl d_M_init_279 ?_
  refine z_bipush C (39 : Int32) (by decide) d_M_init_280 ?_
  refine z_bipush C (32 : Int32) (by decide) d_M_init_282 ?_
  obtain ⟨g151, h⟩ := zgd_some h
  refine z_bastore C (Or.inr g151.1.1) g151.1.2 g151.2 d_M_init_284 ?_
  obtain ⟨S152, e153, h⟩ := zb1_some h
  rw [Option.some.inj e153]
  refine z_dup C rfl d_M_init_285 ?_
  refine z_bipush C (40 : Int32) (by decide) d_M_init_286 ?_
  refine z_bipush C (102 : Int32) (by decide) d_M_init_288 ?_
  obtain ⟨g154, h⟩ := zgd_some h
  refine z_bastore C (Or.inr g154.1.1) g154.1.2 g154.2 d_M_init_290 ?_
  obtain ⟨S155, e156, h⟩ := zb1_some h
  rw [Option.some.inj e156]
  refine z_dup C rfl d_M_init_291 ?_
  refine z_bipush C (41 : Int32) (by decide) d_M_init_292 ?_
  refine z_bipush C (114 : Int32) (by decide) d_M_init_294 ?_
  obtain ⟨g157, h⟩ := zgd_some h
  refine z_bastore C (Or.inr g157.1.1) g157.1.2 g157.2 d_M_init_296 ?_
  obtain ⟨S158, e159, h⟩ := zb1_some h
  rw [Option.some.inj e159]
  refine z_dup C rfl d_M_init_297 ?_
  refine z_bipush C (42 : Int32) (by decide) d_M_init_298 ?_
  refine z_bipush C (111 : Int32) (by decide) d_M_init_300 ?_
  obtain ⟨g160, h⟩ := zgd_some h
  refine z_bastore C (Or.inr g160.1.1) g160.1.2 g160.2 d_M_init_302 ?_
  obtain ⟨S161, e162, h⟩ := zb1_some h
  rw [Option.some.inj e162]
  refine z_dup C rfl d_M_init_303 ?_
  refine z_bipush C (43 : Int32) (by decide) d_M_init_304 ?_
  refine z_bipush C (109 : Int32) (by decide) d_M_init_306 ?_
  obtain ⟨g163, h⟩ := zgd_some h
  refine z_bastore C (Or.inr g163.1.1) g163.1.2 g163.2 d_M_init_308 ?_
  obtain ⟨S164, e165, h⟩ := zb1_some h
  rw [Option.some.inj e165]
  refine z_dup C rfl d_M_init_309 ?_
  refine z_bipush C (44 : Int32) (by decide) d_M_init_310 ?_
  refine z_bipush C (32 : Int32) (by decide) d_M_init_312 ?_
  obtain ⟨g166, h⟩ := zgd_some h
  refine z_bastore C (Or.inr g166.1.1) g166.1.2 g166.2 d_M_init_314 ?_
  obtain ⟨S167, e168, h⟩ := zb1_some h
  rw [Option.some.inj e168]
  refine z_dup C rfl d_M_init_315 ?_
  refine z_bipush C (45 : Int32) (by decide) d_M_init_316 ?_
  refine z_bipush C (116 : Int32) (by decide) d_M_init_318 ?_
  obtain ⟨g169, h⟩ := zgd_some h
  refine z_bastore C (Or.inr g169.1.1) g169.1.2 g169.2 d_M_init_320 ?_
  obtain ⟨S170, e171, h⟩ := zb1_some h
  rw [Option.some.inj e171]
  refine z_dup C rfl d_M_init_321 ?_
  refine z_bipush C (46 : Int32) (by decide) d_M_init_322 ?_
  refine z_bipush C (111 : Int32) (by decide) d_M_init_324 ?_
  obtain ⟨g172, h⟩ := zgd_some h
  refine z_bastore C (Or.inr g172.1.1) g172.1.2 g172.2 d_M_init_326 ?_
  obtain ⟨S173, e174, h⟩ := zb1_some h
  rw [Option.some.inj e174]
  refine z_dup C rfl d_M_init_327 ?_
  refine z_bipush C (47 : Int32) (by decide) d_M_init_328 ?_
  refine z_bipush C (32 : Int32) (by decide) d_M_init_330 ?_
  obtain ⟨g175, h⟩ := zgd_some h
  refine z_bastore C (Or.inr g175.1.1) g175.1.2 g175.2 d_M_init_332 ?_
  obtain ⟨S176, e177, h⟩ := zb1_some h
  rw [Option.some.inj e177]
  refine z_dup C rfl d_M_init_333 ?_
  refine z_bipush C (48 : Int32) (by decide) d_M_init_334 ?_
  refine z_bipush C (102 : Int32) (by decide) d_M_init_336 ?_
  obtain ⟨g178, h⟩ := zgd_some h
  refine z_bastore C (Or.inr g178.1.1) g178.1.2 g178.2 d_M_init_338 ?_
  obtain ⟨S179, e180, h⟩ := zb1_some h
  rw [Option.some.inj e180]
  refine z_dup C rfl d_M_init_339 ?_
  refine z_bipush C (49 : Int32) (by decide) d_M_init_340 ?_
  refine z_bipush C (97 : Int32) (by decide) d_M_init_342 ?_
  obtain ⟨g181, h⟩ := zgd_some h
  refine z_bastore C (Or.inr g181.1.1) g181.1.2 g181.2 d_M_init_344 ?_
  obtain ⟨S182, e183, h⟩ := zb1_some h
  rw [Option.some.inj e183]
  refine z_dup C rfl d_M_init_345 ?_
  refine z_bipush C (50 : Int32) (by decide) d_M_init_346 ?_
  refine z_bipush C (114 : Int32) (by decide) d_M_init_348 ?_
  obtain ⟨g184, h⟩ := zgd_some h
  refine z_bastore C (Or.inr g184.1.1) g184.1.2 g184.2 d_M_init_350 ?_
  obtain ⟨S185, e186, h⟩ := zb1_some h
  rw [Option.some.inj e186]
  refine z_dup C rfl d_M_init_351 ?_
  refine z_bipush C (51 : Int32) (by decide) d_M_init_352 ?_
  refine z_bipush C (32 : Int32) (by decide) d_M_init_354 ?_
  obtain ⟨g187, h⟩ := zgd_some h
  refine z_bastore C (Or.inr g187.1.1) g187.1.2 g187.2 d_M_init_356 ?_
  obtain ⟨S188, e189, h⟩ := zb1_some h
  rw [Option.some.inj e189]
  refine z_dup C rfl d_M_init_357 ?_
  refine z_bipush C (52 : Int32) (by decide) d_M_init_358 ?_
  refine z_bipush C (102 : Int32) (by decide) d_M_init_360 ?_
  obtain ⟨g190, h⟩ := zgd_some h
  refine z_bastore C (Or.inr g190.1.1) g190.1.2 g190.2 d_M_init_362 ?_
  obtain ⟨S191, e192, h⟩ := zb1_some h
  rw [Option.some.inj e192]
  refine z_dup C rfl d_M_init_363 ?_
  refine z_bipush C (53 : Int32) (by decide) d_M_init_364 ?_
  refine z_bipush C (97 : Int32) (by decide) d_M_init_366 ?_
  obtain ⟨g193, h⟩ := zgd_some h
  refine z_bastore C (Or.inr g193.1.1) g193.1.2 g193.2 d_M_init_368 ?_
  obtain ⟨S194, e195, h⟩ := zb1_some h
  rw [Option.some.inj e195]
  refine z_dup C rfl d_M_init_369 ?_
  refine z_bipush C (54 : Int32) (by decide) d_M_init_370 ?_
  refine z_bipush C (108 : Int32) (by decide) d_M_init_372 ?_
  obtain ⟨g196, h⟩ := zgd_some h
  refine z_bastore C (Or.inr g196.1.1) g196.1.2 g196.2 d_M_init_374 ?_
  obtain ⟨S197, e198, h⟩ := zb1_some h
  rw [Option.some.inj e198]
  refine z_dup C rfl d_M_init_375 ?_
  refine z_bipush C (55 : Int32) (by decide) d_M_init_376 ?_
  refine z_bipush C (108 : Int32) (by decide) d_M_init_378 ?_
  obtain ⟨g199, h⟩ := zgd_some h
  refine z_bastore C (Or.inr g199.1.1) g199.1.2 g199.2 d_M_init_380 ?_
  obtain ⟨S200, e201, h⟩ := zb1_some h
  rw [Option.some.inj e201]
  refine z_dup C rfl d_M_init_381 ?_
  refine z_bipush C (56 : Int32) (by decide) d_M_init_382 ?_
  refine z_bipush C (32 : Int32) (by decide) d_M_init_384 ?_
  obtain ⟨g202, h⟩ := zgd_some h
  refine z_bastore C (Or.inr g202.1.1) g202.1.2 g202.2 d_M_init_386 ?_
  obtain ⟨S203, e204, h⟩ := zb1_some h
  rw [Option.some.inj e204]
  refine z_dup C rfl d_M_init_387 ?_
  refine z_bipush C (57 : Int32) (by decide) d_M_init_388 ?_
  refine z_bipush C (109 : Int32) (by decide) d_M_init_390 ?_
  obtain ⟨g205, h⟩ := zgd_some h
  refine z_bastore C (Or.inr g205.1.1) g205.1.2 g205.2 d_M_init_392 ?_
  obtain ⟨S206, e207, h⟩ := zb1_some h
  rw [Option.some.inj e207]
  refine z_dup C rfl d_M_init_393 ?_
  refine z_bipush C (58 : Int32) (by decide) d_M_init_394 ?_
  refine z_bipush C (111 : Int32) (by decide) d_M_init_396 ?_
  obtain ⟨g208, h⟩ := zgd_some h
  refine z_bastore C (Or.inr g208.1.1) g208.1.2 g208.2 d_M_init_398 ?_
  obtain ⟨S209, e210, h⟩ := zb1_some h
  rw [Option.some.inj e210]
  refine z_dup C rfl d_M_init_399 ?_
  refine z_bipush C (59 : Int32) (by decide) d_M_init_400 ?_
  refine z_bipush C (111 : Int32) (by decide) d_M_init_402 ?_
  obtain ⟨g211, h⟩ := zgd_some h
  refine z_bastore C (Or.inr g211.1.1) g211.1.2 g211.2 d_M_init_404 ?_
  obtain ⟨S212, e213, h⟩ := zb1_some h
  rw [Option.some.inj e213]
  refine z_dup C rfl d_M_init_405 ?_
  refine z_bipush C (60 : Int32) (by decide) d_M_init_406 ?_
  refine z_bipush C (100 : Int32) (by decide) d_M_init_408 ?_
  obtain ⟨g214, h⟩ := zgd_some h
  refine z_bastore C (Or.inr g214.1.1) g214.1.2 g214.2 d_M_init_410 ?_
  obtain ⟨S215, e216, h⟩ := zb1_some h
  rw [Option.some.inj e216]
  refine z_dup C rfl d_M_init_411 ?_
  refine z_bipush C (61 : Int32) (by decide) d_M_init_412 ?_
  refine z_bipush C (32 : Int32) (by decide) d_M_init_414 ?_
  obtain ⟨g217, h⟩ := zgd_some h
  refine z_bastore C (Or.inr g217.1.1) g217.1.2 g217.2 d_M_init_416 ?_
  obtain ⟨S218, e219, h⟩ := zb1_some h
  rw [Option.some.inj e219]
  refine z_dup C rfl d_M_init_417 ?_
  refine z_bipush C (62 : Int32) (by decide) d_M_init_418 ?_
  refine z_bipush C (109 : Int32) (by decide) d_M_init_420 ?_
  obtain ⟨g220, h⟩ := zgd_some h
  refine z_bastore C (Or.inr g220.1.1) g220.1.2 g220.2 d_M_init_422 ?_
  obtain ⟨S221, e222, h⟩ := zb1_some h
  rw [Option.some.inj e222]
  refine z_dup C rfl d_M_init_423 ?_
  refine z_bipush C (63 : Int32) (by decide) d_M_init_424 ?_
  refine z_bipush C (117 : Int32) (by decide) d_M_init_426 ?_
  obtain ⟨g223, h⟩ := zgd_some h
  refine z_bastore C (Or.inr g223.1.1) g223.1.2 g223.2 d_M_init_428 ?_
  obtain ⟨S224, e225, h⟩ := zb1_some h
  rw [Option.some.inj e225]
  refine z_dup C rfl d_M_init_429 ?_
  refine z_bipush C (64 : Int32) (by decide) d_M_init_430 ?_
  refine z_bipush C (100 : Int32) (by decide) d_M_init_432 ?_
  obtain ⟨g226, h⟩ := zgd_some h
  refine z_bastore C (Or.inr g226.1.1) g226.1.2 g226.2 d_M_init_434 ?_
  obtain ⟨S227, e228, h⟩ := zb1_some h
  rw [Option.some.inj e228]
  refine z_dup C rfl d_M_init_435 ?_
  refine z_bipush C (65 : Int32) (by decide) d_M_init_436 ?_
  refine z_bipush C (32 : Int32) (by decide) d_M_init_438 ?_
  obtain ⟨g229, h⟩ := zgd_some h
  refine z_bastore C (Or.inr g229.1.1) g229.1.2 g229.2 d_M_init_440 ?_
  obtain ⟨S230, e231, h⟩ := zb1_some h
  rw [Option.some.inj e231]
  refine z_dup C rfl d_M_init_441 ?_
  refine z_bipush C (66 : Int32) (by decide) d_M_init_442 ?_
  refine z_bipush C (100 : Int32) (by decide) d_M_init_444 ?_
  obtain ⟨g232, h⟩ := zgd_some h
  refine z_bastore C (Or.inr g232.1.1) g232.1.2 g232.2 d_M_init_446 ?_
  obtain ⟨S233, e234, h⟩ := zb1_some h
  rw [Option.some.inj e234]
  refine z_dup C rfl d_M_init_447 ?_
  refine z_bipush C (67 : Int32) (by decide) d_M_init_448 ?_
  refine z_bipush C (97 : Int32) (by decide) d_M_init_450 ?_
  obtain ⟨g235, h⟩ := zgd_some h
  refine z_bastore C (Or.inr g235.1.1) g235.1.2 g235.2 d_M_init_452 ?_
  obtain ⟨S236, e237, h⟩ := zb1_some h
  rw [Option.some.inj e237]
  refine z_dup C rfl d_M_init_453 ?_
  refine z_bipush C (68 : Int32) (by decide) d_M_init_454 ?_
  refine z_bipush C (121 : Int32) (by decide) d_M_init_456 ?_
  obtain ⟨g238, h⟩ := zgd_some h
  refine z_bastore C (Or.inr g238.1.1) g238.1.2 g238.2 d_M_init_458 ?_
  obtain ⟨S239, e240, h⟩ := zb1_some h
  rw [Option.some.inj e240]
  refine z_dup C rfl d_M_init_459 ?_
  refine z_bipush C (69 : Int32) (by decide) d_M_init_460 ?_
  refine z_bipush C (32 : Int32) (by decide) d_M_init_462 ?_
  obtain ⟨g241, h⟩ := zgd_some h
  refine z_bastore C (Or.inr g241.1.1) g241.1.2 g241.2 d_M_init_464 ?_
  obtain ⟨S242, e243, h⟩ := zb1_some h
  rw [Option.some.inj e243]
  refine z_dup C rfl d_M_init_465 ?_
  refine z_bipush C (70 : Int32) (by decide) d_M_init_466 ?_
  refine z_bipush C (100 : Int32) (by decide) d_M_init_468 ?_
  obtain ⟨g244, h⟩ := zgd_some h
  refine z_bastore C (Or.inr g244.1.1) g244.1.2 g244.2 d_M_init_470 ?_
  obtain ⟨S245, e246, h⟩ := zb1_some h
  rw [Option.some.inj e246]
  refine z_dup C rfl d_M_init_471 ?_
  refine z_bipush C (71 : Int32) (by decide) d_M_init_472 ?_
  refine z_bipush C (111 : Int32) (by decide) d_M_init_474 ?_
  obtain ⟨g247, h⟩ := zgd_some h
  refine z_bastore C (Or.inr g247.1.1) g247.1.2 g247.2 d_M_init_476 ?_
  obtain ⟨S248, e249, h⟩ := zb1_some h
  rw [Option.some.inj e249]
  refine z_dup C rfl d_M_init_477 ?_
  refine z_bipush C (72 : Int32) (by decide) d_M_init_478 ?_
  refine z_bipush C (110 : Int32) (by decide) d_M_init_480 ?_
  obtain ⟨g250, h⟩ := zgd_some h
  refine z_bastore C (Or.inr g250.1.1) g250.1.2 g250.2 d_M_init_482 ?_
  obtain ⟨S251, e252, h⟩ := zb1_some h
  rw [Option.some.inj e252]
  refine z_dup C rfl d_M_init_483 ?_
  refine z_bipush C (73 : Int32) (by decide) d_M_init_484 ?_
  refine z_bipush C (101 : Int32) (by decide) d_M_init_486 ?_
  obtain ⟨g253, h⟩ := zgd_some h
  refine z_bastore C (Or.inr g253.1.1) g253.1.2 g253.2 d_M_init_488 ?_
  obtain ⟨S254, e255, h⟩ := zb1_some h
  rw [Option.some.inj e255]
  refine z_dup C rfl d_M_init_489 ?_
  refine z_bipush C (74 : Int32) (by decide) d_M_init_490 ?_
  refine z_bipush C (32 : Int32) (by decide) d_M_init_492 ?_
  obtain ⟨g256, h⟩ := zgd_some h
  refine z_bastore C (Or.inr g256.1.1) g256.1.2 g256.2 d_M_init_494 ?_
  obtain ⟨S257, e258, h⟩ := zb1_some h
  rw [Option.some.inj e258]
  refine z_dup C rfl d_M_init_495 ?_
  refine z_bipush C (75 : Int32) (by decide) d_M_init_496 ?_
  refine z_bipush C (108 : Int32) (by decide) d_M_init_498 ?_
  obtain ⟨g259, h⟩ := zgd_some h
  refine z_bastore C (Or.inr g259.1.1) g259.1.2 g259.2 d_M_init_500 ?_
  obtain ⟨S260, e261, h⟩ := zb1_some h
  rw [Option.some.inj e261]
  refine z_dup C rfl d_M_init_501 ?_
  refine z_bipush C (76 : Int32) (by decide) d_M_init_502 ?_
  refine z_bipush C (97 : Int32) (by decide) d_M_init_504 ?_
  obtain ⟨g262, h⟩ := zgd_some h
  refine z_bastore C (Or.inr g262.1.1) g262.1.2 g262.2 d_M_init_506 ?_
  obtain ⟨S263, e264, h⟩ := zb1_some h
  rw [Option.some.inj e264]
  refine z_dup C rfl d_M_init_507 ?_
  refine z_bipush C (77 : Int32) (by decide) d_M_init_508 ?_
  refine z_bipush C (116 : Int32) (by decide) d_M_init_510 ?_
  obtain ⟨g265, h⟩ := zgd_some h
  refine z_bastore C (Or.inr g265.1.1) g265.1.2 g265.2 d_M_init_512 ?_
  obtain ⟨S266, e267, h⟩ := zb1_some h
  rw [Option.some.inj e267]
  refine z_dup C rfl d_M_init_513 ?_
  refine z_bipush C (78 : Int32) (by decide) d_M_init_514 ?_
  refine z_bipush C (101 : Int32) (by decide) d_M_init_516 ?_
  obtain ⟨g268, h⟩ := zgd_some h
  refine z_bastore C (Or.inr g268.1.1) g268.1.2 g268.2 d_M_init_518 ?_
  obtain ⟨S269, e270, h⟩ := zb1_some h
  rw [Option.some.inj e270]
  refine z_dup C rfl d_M_init_519 ?_
  refine z_bipush C (79 : Int32) (by decide) d_M_init_520 ?_
  refine z_bipush C (115 : Int32) (by decide) d_M_init_522 ?_
  obtain ⟨g271, h⟩ := zgd_some h
  refine z_bastore C (Or.inr g271.1.1) g271.1.2 g271.2 d_M_init_524 ?_
  obtain ⟨S272, e273, h⟩ := zb1_some h
  rw [Option.some.inj e273]
  refine z_dup C rfl d_M_init_525 ?_
  refine z_bipush C (80 : Int32) (by decide) d_M_init_526 ?_
  refine z_bipush C (116 : Int32) (by decide) d_M_init_528 ?_
  obtain ⟨g274, h⟩ := zgd_some h
  refine z_bastore C (Or.inr g274.1.1) g274.1.2 g274.2 d_M_init_530 ?_
  obtain ⟨S275, e276, h⟩ := zb1_some h
  rw [Option.some.inj e276]
  refine z_dup C rfl d_M_init_531 ?_
  refine z_bipush C (81 : Int32) (by decide) d_M_init_532 ?_
  refine z_bipush C (32 : Int32) (by decide) d_M_init_534 ?_
  obtain ⟨g277, h⟩ := zgd_some h
  refine z_bastore C (Or.inr g277.1.1) g277.1.2 g277.2 d_M_init_536 ?_
  obtain ⟨S278, e279, h⟩ := zb1_some h
  rw [Option.some.inj e279]
  refine z_dup C rfl d_M_init_537 ?_
  refine z_bipush C (82 : Int32) (by decide) d_M_init_538 ?_
  refine z_bipush C (97 : Int32) (by decide) d_M_init_540 ?_
  obtain ⟨g280, h⟩ := zgd_some h
  refine z_bastore C (Or.inr g280.1.1) g280.1.2 g280.2 d_M_init_542 ?_
  obtain ⟨S281, e282, h⟩ := zb1_some h
  rw [Option.some.inj e282]
  refine z_dup C rfl d_M_init_543 ?_
  refine z_bipush C (83 : Int32) (by decide) d_M_init_544 ?_
  refine z_bipush C (116 : Int32) (by decide) d_M_init_546 ?_
  obtain ⟨g283, h⟩ := zgd_some h
  refine z_bastore C (Or.inr g283.1.1) g283.1.2 g283.2 d_M_init_548 ?_
  obtain ⟨S284, e285, h⟩ := zb1_some h
  rw [Option.some.inj e285]
  refine z_dup C rfl d_M_init_549 ?_
  refine z_bipush C (84 : Int32) (by decide) d_M_init_550 ?_
  refine z_bipush C (32 : Int32) (by decide) d_M_init_552 ?_
  obtain ⟨g286, h⟩ := zgd_some h
  refine z_bastore C (Or.inr g286.1.1) g286.1.2 g286.2 d_M_init_554 ?_
  obtain ⟨S287, e288, h⟩ := zb1_some h
  rw [Option.some.inj e288]
  refine z_dup C rfl d_M_init_555 ?_
  refine z_bipush C (85 : Int32) (by decide) d_M_init_556 ?_
  refine z_bipush C (115 : Int32) (by decide) d_M_init_558 ?_
  obtain ⟨g289, h⟩ := zgd_some h
  refine z_bastore C (Or.inr g289.1.1) g289.1.2 g289.2 d_M_init_560 ?_
  obtain ⟨S290, e291, h⟩ := zb1_some h
  rw [Option.some.inj e291]
  refine z_dup C rfl d_M_init_561 ?_
  refine z_bipush C (86 : Int32) (by decide) d_M_init_562 ?_
  refine z_bipush C (104 : Int32) (by decide) d_M_init_564 ?_
  obtain ⟨g292, h⟩ := zgd_some h
  refine z_bastore C (Or.inr g292.1.1) g292.1.2 g292.2 d_M_init_566 ?_
  obtain ⟨S293, e294, h⟩ := zb1_some h
  rw [Option.some.inj e294]
  refine z_dup C rfl d_M_init_567 ?_
  refine z_bipush C (87 : Int32) (by decide) d_M_init_568 ?_
  refine z_bipush C (117 : Int32) (by decide) d_M_init_570 ?_
  obtain ⟨g295, h⟩ := zgd_some h
  refine z_bastore C (Or.inr g295.1.1) g295.1.2 g295.2 d_M_init_572 ?_
  obtain ⟨S296, e297, h⟩ := zb1_some h
  rw [Option.some.inj e297]
  refine z_dup C rfl d_M_init_573 ?_
  refine z_bipush C (88 : Int32) (by decide) d_M_init_574 ?_
  refine z_bipush C (116 : Int32) (by decide) d_M_init_576 ?_
  obtain ⟨g298, h⟩ := zgd_some h
  refine z_bastore C (Or.inr g298.1.1) g298.1.2 g298.2 d_M_init_578 ?_
  obtain ⟨S299, e300, h⟩ := zb1_some h
  rw [Option.some.inj e300]
  refine z_dup C rfl d_M_init_579 ?_
  refine z_bipush C (89 : Int32) (by decide) d_M_init_580 ?_
  refine z_bipush C (32 : Int32) (by decide) d_M_init_582 ?_
  obtain ⟨g301, h⟩ := zgd_some h
  refine z_bastore C (Or.inr g301.1.1) g301.1.2 g301.2 d_M_init_584 ?_
  obtain ⟨S302, e303, h⟩ := zb1_some h
  rw [Option.some.inj e303]
  refine z_dup C rfl d_M_init_585 ?_
  refine z_bipush C (90 : Int32) (by decide) d_M_init_586 ?_
  refine z_bipush C (115 : Int32) (by decide) d_M_init_588 ?_
  obtain ⟨g304, h⟩ := zgd_some h
  refine z_bastore C (Or.inr g304.1.1) g304.1.2 g304.2 d_M_init_590 ?_
  obtain ⟨S305, e306, h⟩ := zb1_some h
  rw [Option.some.inj e306]
  refine z_dup C rfl d_M_init_591 ?_
  refine z_bipush C (91 : Int32) (by decide) d_M_init_592 ?_
  refine z_bipush C (111 : Int32) (by decide) d_M_init_594 ?_
  obtain ⟨g307, h⟩ := zgd_some h
  refine z_bastore C (Or.inr g307.1.1) g307.1.2 g307.2 d_M_init_596 ?_
  obtain ⟨S308, e309, h⟩ := zb1_some h
  rw [Option.some.inj e309]
  refine z_dup C rfl d_M_init_597 ?_
  refine z_bipush C (92 : Int32) (by decide) d_M_init_598 ?_
  refine z_bipush C (111 : Int32) (by decide) d_M_init_600 ?_
  obtain ⟨g310, h⟩ := zgd_some h
  refine z_bastore C (Or.inr g310.1.1) g310.1.2 g310.2 d_M_init_602 ?_
  obtain ⟨S311, e312, h⟩ := zb1_some h
  rw [Option.some.inj e312]
  refine z_dup C rfl d_M_init_603 ?_
  refine z_bipush C (93 : Int32) (by decide) d_M_init_604 ?_
  refine z_bipush C (110 : Int32) (by decide) d_M_init_606 ?_
  obtain ⟨g313, h⟩ := zgd_some h
  refine z_bastore C (Or.inr g313.1.1) g313.1.2 g313.2 d_M_init_608 ?_
  obtain ⟨S314, e315, h⟩ := zb1_some h
  rw [Option.some.inj e315]
  refine z_dup C rfl d_M_init_609 ?_
  refine z_bipush C (94 : Int32) (by decide) d_M_init_610 ?_
  refine z_bipush C (32 : Int32) (by decide) d_M_init_612 ?_
  obtain ⟨g316, h⟩ := zgd_some h
  refine z_bastore C (Or.inr g316.1.1) g316.1.2 g316.2 d_M_init_614 ?_
  obtain ⟨S317, e318, h⟩ := zb1_some h
  rw [Option.some.inj e318]
  refine z_dup C rfl d_M_init_615 ?_
  refine z_bipush C (95 : Int32) (by decide) d_M_init_616 ?_
  refine z_bipush C (115 : Int32) (by decide) d_M_init_618 ?_
  obtain ⟨g319, h⟩ := zgd_some h
  refine z_bastore C (Or.inr g319.1.1) g319.1.2 g319.2 d_M_init_620 ?_
  obtain ⟨S320, e321, h⟩ := zb1_some h
  rw [Option.some.inj e321]
  refine z_dup C rfl d_M_init_621 ?_
  refine z_bipush C (96 : Int32) (by decide) d_M_init_622 ?_
  refine z_bipush C (119 : Int32) (by decide) d_M_init_624 ?_
  obtain ⟨g322, h⟩ := zgd_some h
  refine z_bastore C (Or.inr g322.1.1) g322.1.2 g322.2 d_M_init_626 ?_
  obtain ⟨S323, e324, h⟩ := zb1_some h
  rw [Option.some.inj e324]
  refine z_dup C rfl d_M_init_627 ?_
  refine z_bipush C (97 : Int32) (by decide) d_M_init_628 ?_
  refine z_bipush C (105 : Int32) (by decide) d_M_init_630 ?_
  obtain ⟨g325, h⟩ := zgd_some h
  refine z_bastore C (Or.inr g325.1.1) g325.1.2 g325.2 d_M_init_632 ?_
  obtain ⟨S326, e327, h⟩ := zb1_some h
  rw [Option.some.inj e327]
  refine z_dup C rfl d_M_init_633 ?_
  refine z_bipush C (98 : Int32) (by decide) d_M_init_634 ?_
  refine z_bipush C (109 : Int32) (by decide) d_M_init_636 ?_
  obtain ⟨g328, h⟩ := zgd_some h
  refine z_bastore C (Or.inr g328.1.1) g328.1.2 g328.2 d_M_init_638 ?_
  obtain ⟨S329, e330, h⟩ := zb1_some h
  rw [Option.some.inj e330]
  refine z_dup C rfl d_M_init_639 ?_
  refine z_bipush C (99 : Int32) (by decide) d_M_init_640 ?_
  refine z_bipush C (32 : Int32) (by decide) d_M_init_642 ?_
  obtain ⟨g331, h⟩ := zgd_some h
  refine z_bastore C (Or.inr g331.1.1) g331.1.2 g331.2 d_M_init_644 ?_
  obtain ⟨S332, e333, h⟩ := zb1_some h
  rw [Option.some.inj e333]
  refine z_dup C rfl d_M_init_645 ?_
  refine z_bipush C (100 : Int32) (by decide) d_M_init_646 ?_
  refine z_bipush C (103 : Int32) (by decide) d_M_init_648 ?_
  obtain ⟨g334, h⟩ := zgd_some h
  refine z_bastore C (Or.inr g334.1.1) g334.1.2 g334.2 d_M_init_650 ?_
  obtain ⟨S335, e336, h⟩ := zb1_some h
  rw [Option.some.inj e336]
  refine z_dup C rfl d_M_init_651 ?_
  refine z_bipush C (101 : Int32) (by decide) d_M_init_652 ?_
  refine z_bipush C (97 : Int32) (by decide) d_M_init_654 ?_
  obtain ⟨g337, h⟩ := zgd_some h
  refine z_bastore C (Or.inr g337.1.1) g337.1.2 g337.2 d_M_init_656 ?_
  obtain ⟨S338, e339, h⟩ := zb1_some h
  rw [Option.some.inj e339]
  refine z_dup C rfl d_M_init_657 ?_
  refine z_bipush C (102 : Int32) (by decide) d_M_init_658 ?_
  refine z_bipush C (116 : Int32) (by decide) d_M_init_660 ?_
  obtain ⟨g340, h⟩ := zgd_some h
  refine z_bastore C (Or.inr g340.1.1) g340.1.2 g340.2 d_M_init_662 ?_
  obtain ⟨S341, e342, h⟩ := zb1_some h
  rw [Option.some.inj e342]
  refine z_dup C rfl d_M_init_663 ?_
  refine z_bipush C (103 : Int32) (by decide) d_M_init_664 ?_
  refine z_bipush C (101 : Int32) (by decide) d_M_init_666 ?_
  obtain ⟨g343, h⟩ := zgd_some h
  refine z_bastore C (Or.inr g343.1.1) g343.1.2 g343.2 d_M_init_668 ?_
  obtain ⟨S344, e345, h⟩ := zb1_some h
  rw [Option.some.inj e345]
  refine z_dup C rfl d_M_init_669 ?_
  refine z_bipush C (104 : Int32) (by decide) d_M_init_670 ?_
  refine z_bipush C (32 : Int32) (by decide) d_M_init_672 ?_
  obtain ⟨g346, h⟩ := zgd_some h
  refine z_bastore C (Or.inr g346.1.1) g346.1.2 g346.2 d_M_init_674 ?_
  obtain ⟨S347, e348, h⟩ := zb1_some h
  rw [Option.some.inj e348]
  refine z_dup C rfl d_M_init_675 ?_
  refine z_bipush C (105 : Int32) (by decide) d_M_init_676 ?_
  refine z_bipush C (115 : Int32) (by decide) d_M_init_678 ?_
  obtain ⟨g349, h⟩ := zgd_some h
  refine z_bastore C (Or.inr g349.1.1) g349.1.2 g349.2 d_M_init_680 ?_
  obtain ⟨S350, e351, h⟩ := zb1_some h
  rw [Option.some.inj e351]
  refine z_dup C rfl d_M_init_681 ?_
  refine z_bipush C (106 : Int32) (by decide) d_M_init_682 ?_
  refine z_bipush C (116 : Int32) (by decide) d_M_init_684 ?_
  obtain ⟨g352, h⟩ := zgd_some h
  refine z_bastore C (Or.inr g352.1.1) g352.1.2 g352.2 d_M_init_686 ?_
  obtain ⟨S353, e354, h⟩ := zb1_some h
  rw [Option.some.inj e354]
  refine z_dup C rfl d_M_init_687 ?_
  refine z_bipush C (107 : Int32) (by decide) d_M_init_688 ?_
  refine z_bipush C (105 : Int32) (by decide) d_M_init_690 ?_
  obtain ⟨g355, h⟩ := zgd_some h
  refine z_bastore C (Or.inr g355.1.1) g355.1.2 g355.2 d_M_init_692 ?_
  obtain ⟨S356, e357, h⟩ := zb1_some h
  rw [Option.some.inj e357]
  refine z_dup C rfl d_M_init_693 ?_
  refine z_bipush C (108 : Int32) (by decide) d_M_init_694 ?_
  refine z_bipush C (114 : Int32) (by decide) d_M_init_696 ?_
  obtain ⟨g358, h⟩ := zgd_some h
  refine z_bastore C (Or.inr g358.1.1) g358.1.2 g358.2 d_M_init_698 ?_
  obtain ⟨S359, e360, h⟩ := zb1_some h
  rw [Option.some.inj e360]
  refine z_dup C rfl d_M_init_699 ?_
  refine z_bipush C (109 : Int32) (by decide) d_M_init_700 ?_
  refine z_bipush C (32 : Int32) (by decide) d_M_init_702 ?_
  obtain ⟨g361, h⟩ := zgd_some h
  refine z_bastore C (Or.inr g361.1.1) g361.1.2 g361.2 d_M_init_704 ?_
  obtain ⟨S362, e363, h⟩ := zb1_some h
  rw [Option.some.inj e363]
  refine z_dup C rfl d_M_init_705 ?_
  refine z_bipush C (110 : Int32) (by decide) d_M_init_706 ?_
  refine z_bipush C (112 : Int32) (by decide) d_M_init_708 ?_
  obtain ⟨g364, h⟩ := zgd_some h
  refine z_bastore C (Or.inr g364.1.1) g364.1.2 g364.2 d_M_init_710 ?_
  obtain ⟨S365, e366, h⟩ := zb1_some h
  rw [Option.some.inj e366]
  refine z_dup C rfl d_M_init_711 ?_
  refine z_bipush C (111 : Int32) (by decide) d_M_init_712 ?_
  refine z_bipush C (97 : Int32) (by decide) d_M_init_714 ?_
  obtain ⟨g367, h⟩ := zgd_some h
  refine z_bastore C (Or.inr g367.1.1) g367.1.2 g367.2 d_M_init_716 ?_
  obtain ⟨S368, e369, h⟩ := zb1_some h
  rw [Option.some.inj e369]
  refine z_dup C rfl d_M_init_717 ?_
  refine z_bipush C (112 : Int32) (by decide) d_M_init_718 ?_
  refine z_bipush C (115 : Int32) (by decide) d_M_init_720 ?_
  obtain ⟨g370, h⟩ := zgd_some h
  refine z_bastore C (Or.inr g370.1.1) g370.1.2 g370.2 d_M_init_722 ?_
  obtain ⟨S371, e372, h⟩ := zb1_some h
  rw [Option.some.inj e372]
  refine z_dup C rfl d_M_init_723 ?_
  refine z_bipush C (113 : Int32) (by decide) d_M_init_724 ?_
  refine z_bipush C (115 : Int32) (by decide) d_M_init_726 ?_
  obtain ⟨g373, h⟩ := zgd_some h
  refine z_bastore C (Or.inr g373.1.1) g373.1.2 g373.2 d_M_init_728 ?_
  obtain ⟨S374, e375, h⟩ := zb1_some h
  rw [Option.some.inj e375]
  refine z_dup C rfl d_M_init_729 ?_
  refine z_bipush C (114 : Int32) (by decide) d_M_init_730 ?_
  refine z_bipush C (32 : Int32) (by decide) d_M_init_732 ?_
  obtain ⟨g376, h⟩ := zgd_some h
  refine z_bastore C (Or.inr g376.1.1) g376.1.2 g376.2 d_M_init_734 ?_
  obtain ⟨S377, e378, h⟩ := zb1_some h
  rw [Option.some.inj e378]
  refine z_dup C rfl d_M_init_735 ?_
  refine z_bipush C (115 : Int32) (by decide) d_M_init_736 ?_
  refine z_bipush C (116 : Int32) (by decide) d_M_init_738 ?_
  obtain ⟨g379, h⟩ := zgd_some h
  refine z_bastore C (Or.inr g379.1.1) g379.1.2 g379.2 d_M_init_740 ?_
  obtain ⟨S380, e381, h⟩ := zb1_some h
  rw [Option.some.inj e381]
  refine z_dup C rfl d_M_init_741 ?_
  refine z_bipush C (116 : Int32) (by decide) d_M_init_742 ?_
  refine z_bipush C (105 : Int32) (by decide) d_M_init_744 ?_
  obtain ⟨g382, h⟩ := zgd_some h
  refine z_bastore C (Or.inr g382.1.1) g382.1.2 g382.2 d_M_init_746 ?_
  obtain ⟨S383, e384, h⟩ := zb1_some h
  rw [Option.some.inj e384]
  refine z_dup C rfl d_M_init_747 ?_
  refine z_bipush C (117 : Int32) (by decide) d_M_init_748 ?_
  refine z_bipush C (109 : Int32) (by decide) d_M_init_750 ?_
  obtain ⟨g385, h⟩ := zgd_some h
  refine z_bastore C (Or.inr g385.1.1) g385.1.2 g385.2 d_M_init_752 ?_
  obtain ⟨S386, e387, h⟩ := zb1_some h
  rw [Option.some.inj e387]
  refine z_dup C rfl d_M_init_753 ?_
  refine z_bipush C (118 : Int32) (by decide) d_M_init_754 ?_
  refine z_bipush C (101 : Int32) (by decide) d_M_init_756 ?_
  obtain ⟨g388, h⟩ := zgd_some h
  refine z_bastore C (Or.inr g388.1.1) g388.1.2 g388.2 d_M_init_758 ?_
  obtain ⟨S389, e390, h⟩ := zb1_some h
  rw [Option.some.inj e390]
  refine z_dup C rfl d_M_init_759 ?_
  refine z_bipush C (119 : Int32) (by decide) d_M_init_760 ?_
  refine z_bipush C (115 : Int32) (by decide) d_M_init_762 ?_
  obtain ⟨g391, h⟩ := zgd_some h
  refine z_bastore C (Or.inr g391.1.1) g391.1.2 g391.2 d_M_init_764 ?_
  obtain ⟨S392, e393, h⟩ := zb1_some h
  rw [Option.some.inj e393]
  refine z_dup C rfl d_M_init_765 ?_
  refine z_bipush C (120 : Int32) (by decide) d_M_init_766 ?_
  refine z_bipush C (32 : Int32) (by decide) d_M_init_768 ?_
  obtain ⟨g394, h⟩ := zgd_some h
  refine z_bastore C (Or.inr g394.1.1) g394.1.2 g394.2 d_M_init_770 ?_
  obtain ⟨S395, e396, h⟩ := zb1_some h
  rw [Option.some.inj e396]
  obtain ⟨g397, h⟩ := zgd_some h
  refine z_putR C 11 (by decide) 7 (by decide) rfl g397 h0 zfl_11_37 (Or.inr ⟨hname, rfl⟩) d_M_init_771 ?_
  obtain ⟨S398, e399, h⟩ := zb1_some h
  rw [Option.some.inj e399]
  refine z_aload_n C 0 rfl d_M_init_774 rfl ?_
  refine z_sipush C (400 : Int32) (by decide) d_M_init_775 ?_
  obtain ⟨g400, h⟩ := zgd_some h
  refine z_newB C 400 (by decide) (by decide) (by decide) g400 (by decide) (by decide) d_M_init_778 ?_
  obtain ⟨S401, e402, h⟩ := zb1_some h
  rw [Option.some.inj e402]
  obtain ⟨g403, h⟩ := zgd_some h
  refine z_putR C 11 (by decide) 11 (by decide) rfl g403 h0 zfl_11_41 (Or.inr ⟨hname, rfl⟩) d_M_init_780 ?_
  obtain ⟨S404, e405, h⟩ := zb1_some h
  rw [Option.some.inj e405]
  refine z_aload_n C 0 rfl d_M_init_783 rfl ?_
  refine z_iconst C (5 : Int32) (by decide) d_M_init_784 ?_
  obtain ⟨g406, h⟩ := zgd_some h
  refine z_newI C 5 (by decide) (by decide) (by decide) g406 (by decide) (by decide) d_M_init_785 ?_
  obtain ⟨S407, e408, h⟩ := zb1_some h
  rw [Option.some.inj e408]
  obtain ⟨g409, h⟩ := zgd_some h
  refine z_putR C 11 (by decide) 12 (by decide) rfl g409 h0 zfl_11_44 (Or.inr ⟨hname, rfl⟩) d_M_init_787 ?_
  obtain ⟨S410, e411, h⟩ := zb1_some h
  rw [Option.some.inj e411]
  refine z_aload_n C 0 rfl d_M_init_790 rfl ?_
  refine z_iconst C (-1 : Int32) (by decide) d_M_init_791 ?_
  obtain ⟨g412, h⟩ := zgd_some h
  refine z_putI C 11 (by decide) 14 (by decide) rfl (Or.inl rfl) (Or.inr g412) h0 zfl_11_47 (Or.inr ⟨hname, rfl⟩) d_M_init_792 ?_
  obtain ⟨S413, e414, h⟩ := zb1_some h
  rw [Option.some.inj e414]
  refine z_aload_n C 0 rfl d_M_init_795 rfl ?_
  refine z_sipush C (401 : Int32) (by decide) d_M_init_796 ?_
  obtain ⟨g415, h⟩ := zgd_some h
  refine z_newI C 401 (by decide) (by decide) (by decide) g415 (by decide) (by decide) d_M_init_799 ?_
  obtain ⟨S416, e417, h⟩ := zb1_some h
  rw [Option.some.inj e417]
  obtain ⟨g418, h⟩ := zgd_some h
  refine z_putR C 11 (by decide) 15 (by decide) rfl g418 h0 zfl_11_50 (Or.inr ⟨hname, rfl⟩) d_M_init_801 ?_
  obtain ⟨S419, e420, h⟩ := zb1_some h
  rw [Option.some.inj e420]
  refine z_aload_n C 0 rfl d_M_init_804 rfl ?_
  refine z_sipush C (401 : Int32) (by decide) d_M_init_805 ?_
  obtain ⟨g421, h⟩ := zgd_some h
  refine z_newI C 401 (by decide) (by decide) (by decide) g421 (by decide) (by decide) d_M_init_808 ?_
  obtain ⟨S422, e423, h⟩ := zb1_some h
  rw [Option.some.inj e423]
  obtain ⟨g424, h⟩ := zgd_some h
  refine z_putR C 11 (by decide) 16 (by decide) rfl g424 h0 zfl_11_53 (Or.inr ⟨hname, rfl⟩) d_M_init_810 ?_
  obtain ⟨S425, e426, h⟩ := zb1_some h
  rw [Option.some.inj e426]
  refine z_aload_n C 0 rfl d_M_init_813 rfl ?_
  refine z_sipush C (401 : Int32) (by decide) d_M_init_814 ?_
  obtain ⟨g427, h⟩ := zgd_some h
  refine z_newI C 401 (by decide) (by decide) (by decide) g427 (by decide) (by decide) d_M_init_817 ?_
  obtain ⟨S428, e429, h⟩ := zb1_some h
  rw [Option.some.inj e429]
  obtain ⟨g430, h⟩ := zgd_some h
  refine z_putR C 11 (by decide) 17 (by decide) rfl g430 h0 zfl_11_56 (Or.inr ⟨hname, rfl⟩) d_M_init_819 ?_
  obtain ⟨S431, e432, h⟩ := zb1_some h
  rw [Option.some.inj e432]
  refine z_aload_n C 0 rfl d_M_init_822 rfl ?_
  refine z_bipush C (7 : Int32) (by decide) d_M_init_823 ?_
  obtain ⟨g433, h⟩ := zgd_some h
  refine z_newI C 7 (by decide) (by decide) (by decide) g433 (by decide) (by decide) d_M_init_825 ?_
  obtain ⟨S434, e435, h⟩ := zb1_some h
  rw [Option.some.inj e435]
  obtain ⟨g436, h⟩ := zgd_some h
  refine z_putR C 11 (by decide) 26 (by decide) rfl g436 h0 zfl_11_59 (Or.inr ⟨hname, rfl⟩) d_M_init_827 ?_
  obtain ⟨S437, e438, h⟩ := zb1_some h
  rw [Option.some.inj e438]
  refine z_aload_n C 0 rfl d_M_init_830 rfl ?_
  refine z_bipush C (9 : Int32) (by decide) d_M_init_831 ?_
  obtain ⟨g439, h⟩ := zgd_some h
  refine z_newI C 9 (by decide) (by decide) (by decide) g439 (by decide) (by decide) d_M_init_833 ?_
  obtain ⟨S440, e441, h⟩ := zb1_some h
  rw [Option.some.inj e441]
  obtain ⟨g442, h⟩ := zgd_some h
  refine z_putR C 11 (by decide) 29 (by decide) rfl g442 h0 zfl_11_62 (Or.inr ⟨hname, rfl⟩) d_M_init_835 ?_
  obtain ⟨S443, e444, h⟩ := zb1_some h
  rw [Option.some.inj e444]
  refine z_aload_n C 0 rfl d_M_init_838 rfl ?_
  refine z_sipush C (1488 : Int32) (by decide) d_M_init_839 ?_
  obtain ⟨g445, h⟩ := zgd_some h
  refine z_newI C 1488 (by decide) (by decide) (by decide) g445 (by decide) (by decide) d_M_init_842 ?_
  obtain ⟨S446, e447, h⟩ := zb1_some h
  rw [Option.some.inj e447]
  obtain ⟨g448, h⟩ := zgd_some h
  refine z_putR C 11 (by decide) 30 (by decide) rfl g448 h0 zfl_11_65 (Or.inr ⟨hname, rfl⟩) d_M_init_844 ?_
  obtain ⟨S449, e450, h⟩ := zb1_some h
  rw [Option.some.inj e450]
  refine z_aload_n C 0 rfl d_M_init_847 rfl ?_
  refine z_sipush C (1488 : Int32) (by decide) d_M_init_848 ?_
  obtain ⟨g451, h⟩ := zgd_some h
  refine z_newI C 1488 (by decide) (by decide) (by decide) g451 (by decide) (by decide) d_M_init_851 ?_
  obtain ⟨S452, e453, h⟩ := zb1_some h
  rw [Option.some.inj e453]
  obtain ⟨g454, h⟩ := zgd_some h
  refine z_putR C 11 (by decide) 31 (by decide) rfl g454 h0 zfl_11_68 (Or.inr ⟨hname, rfl⟩) d_M_init_853 ?_
  obtain ⟨S455, e456, h⟩ := zb1_some h
  rw [Option.some.inj e456]
  refine z_aload_n C 0 rfl d_M_init_856 rfl ?_
  refine z_bipush C (9 : Int32) (by decide) d_M_init_857 ?_
  obtain ⟨g457, h⟩ := zgd_some h
  refine z_newI C 9 (by decide) (by decide) (by decide) g457 (by decide) (by decide) d_M_init_859 ?_
  obtain ⟨S458, e459, h⟩ := zb1_some h
  rw [Option.some.inj e459]
  obtain ⟨g460, h⟩ := zgd_some h
  refine z_putR C 11 (by decide) 33 (by decide) rfl g460 h0 zfl_11_71 (Or.inr ⟨hname, rfl⟩) d_M_init_861 ?_
  obtain ⟨S461, e462, h⟩ := zb1_some h
  rw [Option.some.inj e462]
  refine z_aload_n C 0 rfl d_M_init_864 rfl ?_
  refine z_bipush C (81 : Int32) (by decide) d_M_init_865 ?_
  obtain ⟨g463, h⟩ := zgd_some h
  refine z_newI C 81 (by decide) (by decide) (by decide) g463 (by decide) (by decide) d_M_init_867 ?_
  obtain ⟨S464, e465, h⟩ := zb1_some h
  rw [Option.some.inj e465]
  obtain ⟨g466, h⟩ := zgd_some h
  refine z_putR C 11 (by decide) 34 (by decide) rfl g466 h0 zfl_11_74 (Or.inr ⟨hname, rfl⟩) d_M_init_869 ?_
  obtain ⟨S467, e468, h⟩ := zb1_some h
  rw [Option.some.inj e468]
  refine z_aload_n C 0 rfl d_M_init_872 rfl ?_
  refine z_bipush C (81 : Int32) (by decide) d_M_init_873 ?_
  obtain ⟨g469, h⟩ := zgd_some h
  refine z_newI C 81 (by decide) (by decide) (by decide) g469 (by decide) (by decide) d_M_init_875 ?_
  obtain ⟨S470, e471, h⟩ := zb1_some h
  rw [Option.some.inj e471]
  obtain ⟨g472, h⟩ := zgd_some h
  refine z_putR C 11 (by decide) 35 (by decide) rfl g472 h0 zfl_11_77 (Or.inr ⟨hname, rfl⟩) d_M_init_877 ?_
  obtain ⟨S473, e474, h⟩ := zb1_some h
  rw [Option.some.inj e474]
  refine z_aload_n C 0 rfl d_M_init_880 rfl ?_
  refine z_sipush C (4608 : Int32) (by decide) d_M_init_881 ?_
  obtain ⟨g475, h⟩ := zgd_some h
  refine z_newI C 4608 (by decide) (by decide) (by decide) g475 (by decide) (by decide) d_M_init_884 ?_
  obtain ⟨S476, e477, h⟩ := zb1_some h
  rw [Option.some.inj e477]
  obtain ⟨g478, h⟩ := zgd_some h
  refine z_putR C 11 (by decide) 36 (by decide) rfl g478 h0 zfl_11_80 (Or.inr ⟨hname, rfl⟩) d_M_init_886 ?_
  obtain ⟨S479, e480, h⟩ := zb1_some h
  rw [Option.some.inj e480]
  refine z_aload_n C 0 rfl d_M_init_889 rfl ?_
  refine z_bipush C (81 : Int32) (by decide) d_M_init_890 ?_
  obtain ⟨g481, h⟩ := zgd_some h
  refine z_newI C 81 (by decide) (by decide) (by decide) g481 (by decide) (by decide) d_M_init_892 ?_
  obtain ⟨S482, e483, h⟩ := zb1_some h
  rw [Option.some.inj e483]
  obtain ⟨g484, h⟩ := zgd_some h
  refine z_putR C 11 (by decide) 37 (by decide) rfl g484 h0 zfl_11_83 (Or.inr ⟨hname, rfl⟩) d_M_init_894 ?_
  obtain ⟨S485, e486, h⟩ := zb1_some h
  rw [Option.some.inj e486]
  refine z_aload_n C 0 rfl d_M_init_897 rfl ?_
  refine z_bipush C (81 : Int32) (by decide) d_M_init_898 ?_
  obtain ⟨g487, h⟩ := zgd_some h
  refine z_newI C 81 (by decide) (by decide) (by decide) g487 (by decide) (by decide) d_M_init_900 ?_
  obtain ⟨S488, e489, h⟩ := zb1_some h
  rw [Option.some.inj e489]
  obtain ⟨g490, h⟩ := zgd_some h
  refine z_putR C 11 (by decide) 38 (by decide) rfl g490 h0 zfl_11_86 (Or.inr ⟨hname, rfl⟩) d_M_init_902 ?_
  obtain ⟨S491, e492, h⟩ := zb1_some h
  rw [Option.some.inj e492]
  refine z_aload_n C 0 rfl d_M_init_905 rfl ?_
  refine z_bipush C (90 : Int32) (by decide) d_M_init_906 ?_
  obtain ⟨g493, h⟩ := zgd_some h
  refine z_newI C 90 (by decide) (by decide) (by decide) g493 (by decide) (by decide) d_M_init_908 ?_
  obtain ⟨S494, e495, h⟩ := zb1_some h
  rw [Option.some.inj e495]
  obtain ⟨g496, h⟩ := zgd_some h
  refine z_putR C 11 (by decide) 39 (by decide) rfl g496 h0 zfl_11_89 (Or.inr ⟨hname, rfl⟩) d_M_init_910 ?_
  obtain ⟨S497, e498, h⟩ := zb1_some h
  rw [Option.some.inj e498]
  refine z_aload_n C 0 rfl d_M_init_913 rfl ?_
  refine z_bipush C (21 : Int32) (by decide) d_M_init_914 ?_
  obtain ⟨g499, h⟩ := zgd_some h
  refine z_newL C 21 (by decide) (by decide) (by decide) g499 (by decide) (by decide) d_M_init_916 ?_
  obtain ⟨S500, e501, h⟩ := zb1_some h
  rw [Option.some.inj e501]
  obtain ⟨g502, h⟩ := zgd_some h
  refine z_putR C 11 (by decide) 40 (by decide) rfl g502 h0 zfl_11_92 (Or.inr ⟨hname, rfl⟩) d_M_init_918 ?_
  obtain ⟨S503, e504, h⟩ := zb1_some h
  rw [Option.some.inj e504]
  refine z_aload_n C 0 rfl d_M_init_921 rfl ?_
  refine z_iconst C (-1 : Int32) (by decide) d_M_init_922 ?_
  obtain ⟨g505, h⟩ := zgd_some h
  refine z_putI C 11 (by decide) 41 (by decide) rfl (Or.inl rfl) (Or.inr g505) h0 zfl_11_96 (Or.inr ⟨hname, rfl⟩) d_M_init_923 ?_
  obtain ⟨S506, e507, h⟩ := zb1_some h
  rw [Option.some.inj e507]
  refine z_aload_n C 0 rfl d_M_init_926 rfl ?_
  refine z_iconst C (2 : Int32) (by decide) d_M_init_927 ?_
  obtain ⟨g508, h⟩ := zgd_some h
  refine z_newL C 2 (by decide) (by decide) (by decide) g508 (by decide) (by decide) d_M_init_928 ?_
  obtain ⟨S509, e510, h⟩ := zb1_some h
  rw [Option.some.inj e510]
  obtain ⟨g511, h⟩ := zgd_some h
  refine z_putR C 11 (by decide) 47 (by decide) rfl g511 h0 zfl_11_99 (Or.inr ⟨hname, rfl⟩) d_M_init_930 ?_
  obtain ⟨S512, e513, h⟩ := zb1_some h
  rw [Option.some.inj e513]
  refine z_aload_n C 0 rfl d_M_init_933 rfl ?_
  refine z_bipush C (92 : Int32) (by decide) d_M_init_934 ?_
  obtain ⟨g514, h⟩ := zgd_some h
  refine z_newI C 92 (by decide) (by decide) (by decide) g514 (by decide) (by decide) d_M_init_936 ?_
  obtain ⟨S515, e516, h⟩ := zb1_some h
  rw [Option.some.inj e516]
  obtain ⟨g517, h⟩ := zgd_some h
  refine z_putR C 11 (by decide) 48 (by decide) rfl g517 h0 zfl_11_102 (Or.inr ⟨hname, rfl⟩) d_M_init_938 ?_
  obtain ⟨S518, e519, h⟩ := zb1_some h
  rw [Option.some.inj e519]
  refine z_aload_n C 0 rfl d_M_init_941 rfl ?_
  refine z_iconst C (-1 : Int32) (by decide) d_M_init_942 ?_
  obtain ⟨g520, h⟩ := zgd_some h
  refine z_putI C 11 (by decide) 49 (by decide) rfl (Or.inl rfl) (Or.inr g520) h0 zfl_11_105 (Or.inr ⟨hname, rfl⟩) d_M_init_943 ?_
  obtain ⟨S521, e522, h⟩ := zb1_some h
  rw [Option.some.inj e522]
  refine z_aload_n C 0 rfl d_M_init_946 rfl ?_
  obtain ⟨g523, h⟩ := zgd_some h
  refine z_getR C 11 (by decide) 2 (by decide) rfl (Or.inr g523) h0 zfl_11_24 d_M_init_947 ?_
  obtain ⟨q524, e525, h⟩ := zb1_some h
  rw [e525]
  refine z_sipush C (194 : Int32) (by decide) d_M_init_950 ?_
  refine z_iconst C (1 : Int32) (by decide) d_M_init_953 ?_
  obtain ⟨g526, h⟩ := zgd_some h
  refine z_iastore C (Or.inr g526.1.1) g526.1.2 g526.2 d_M_init_954 ?_
  obtain ⟨S527, e528, h⟩ := zb1_some h
  rw [Option.some.inj e528]
  refine z_aload_n C 0 rfl d_M_init_955 rfl ?_
  obtain ⟨g529, h⟩ := zgd_some h
  refine z_getR C 11 (by decide) 2 (by decide) rfl (Or.inr g529) h0 zfl_11_24 d_M_init_956 ?_
  obtain ⟨q530, e531, h⟩ := zb1_some h
  rw [e531]
  refine z_sipush C (199 : Int32) (by decide) d_M_init_959 ?_
  refine z_iconst C (-1 : Int32) (by decide) d_M_init_962 ?_
  obtain ⟨g532, h⟩ := zgd_some h
  refine z_iastore C (Or.inr g532.1.1) g532.1.2 g532.2 d_M_init_963 ?_
  obtain ⟨S533, e534, h⟩ := zb1_some h
  rw [Option.some.inj e534]
  cases h
  exact z_vret C hret ⟨by decide, by decide⟩ d_M_init_964
