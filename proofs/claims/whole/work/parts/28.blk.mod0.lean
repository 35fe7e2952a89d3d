theorem d_M_init_0 : decode m_M_init.2.1 0 = .ok (.aload_n 0, 1) := by decide +kernel
theorem d_M_init_1 : decode m_M_init.2.1 1 = .ok (.invokespecial 7, 3) := by decide +kernel
theorem d_M_init_4 : decode m_M_init.2.1 4 = .ok (.aload_n 0, 1) := by decide +kernel
theorem d_M_init_5 : decode m_M_init.2.1 5 = .ok (.bipush 26, 2) := by decide +kernel
theorem d_M_init_7 : decode m_M_init.2.1 7 = .ok (.newarray .int, 2) := by decide +kernel
theorem d_M_init_9 : decode m_M_init.2.1 9 = .ok (.putfield 13, 3) := by decide +kernel
theorem d_M_init_12 : decode m_M_init.2.1 12 = .ok (.aload_n 0, 1) := by decide +kernel
theorem d_M_init_13 : decode m_M_init.2.1 13 = .ok (.bipush 26, 2) := by decide +kernel
theorem d_M_init_15 : decode m_M_init.2.1 15 = .ok (.newarray .int, 2) := by decide +kernel
theorem d_M_init_17 : decode m_M_init.2.1 17 = .ok (.putfield 17, 3) := by decide +kernel
theorem d_M_init_20 : decode m_M_init.2.1 20 = .ok (.aload_n 0, 1) := by decide +kernel
theorem d_M_init_21 : decode m_M_init.2.1 21 = .ok (.bipush 26, 2) := by decide +kernel
theorem d_M_init_23 : decode m_M_init.2.1 23 = .ok (.newarray .int, 2) := by decide +kernel
theorem d_M_init_25 : decode m_M_init.2.1 25 = .ok (.putfield 20, 3) := by decide +kernel
theorem d_M_init_28 : decode m_M_init.2.1 28 = .ok (.aload_n 0, 1) := by decide +kernel
theorem d_M_init_29 : decode m_M_init.2.1 29 = .ok (.bipush 26, 2) := by decide +kernel
theorem d_M_init_31 : decode m_M_init.2.1 31 = .ok (.newarray .int, 2) := by decide +kernel
theorem d_M_init_33 : decode m_M_init.2.1 33 = .ok (.putfield 23, 3) := by decide +kernel
theorem d_M_init_36 : decode m_M_init.2.1 36 = .ok (.aload_n 0, 1) := by decide +kernel
theorem d_M_init_37 : decode m_M_init.2.1 37 = .ok (.sipush 683, 3) := by decide +kernel
theorem d_M_init_40 : decode m_M_init.2.1 40 = .ok (.newarray .int, 2) := by decide +kernel
theorem d_M_init_42 : decode m_M_init.2.1 42 = .ok (.putfield 26, 3) := by decide +kernel
theorem d_M_init_45 : decode m_M_init.2.1 45 = .ok (.aload_n 0, 1) := by decide +kernel
theorem d_M_init_46 : decode m_M_init.2.1 46 = .ok (.sipush 683, 3) := by decide +kernel
theorem d_M_init_49 : decode m_M_init.2.1 49 = .ok (.newarray .int, 2) := by decide +kernel
theorem d_M_init_51 : decode m_M_init.2.1 51 = .ok (.putfield 29, 3) := by decide +kernel
theorem d_M_init_54 : decode m_M_init.2.1 54 = .ok (.aload_n 0, 1) := by decide +kernel
theorem d_M_init_55 : decode m_M_init.2.1 55 = .ok (.sipush 8196, 3) := by decide +kernel
theorem d_M_init_58 : decode m_M_init.2.1 58 = .ok (.newarray .int, 2) := by decide +kernel
theorem d_M_init_60 : decode m_M_init.2.1 60 = .ok (.putfield 32, 3) := by decide +kernel
theorem d_M_init_63 : decode m_M_init.2.1 63 = .ok (.aload_n 0, 1) := by decide +kernel
theorem d_M_init_64 : decode m_M_init.2.1 64 = .ok (.bipush 24, 2) := by decide +kernel
theorem d_M_init_66 : decode m_M_init.2.1 66 = .ok (.newarray .int, 2) := by decide +kernel
theorem d_M_init_68 : decode m_M_init.2.1 68 = .ok (.putfield 35, 3) := by decide +kernel
theorem d_M_init_71 : decode m_M_init.2.1 71 = .ok (.aload_n 0, 1) := by decide +kernel
theorem d_M_init_72 : decode m_M_init.2.1 72 = .ok (.bipush 48, 2) := by decide +kernel
theorem d_M_init_74 : decode m_M_init.2.1 74 = .ok (.newarray .int, 2) := by decide +kernel
theorem d_M_init_76 : decode m_M_init.2.1 76 = .ok (.putfield 38, 3) := by decide +kernel
theorem d_M_init_79 : decode m_M_init.2.1 79 = .ok (.aload_n 0, 1) := by decide +kernel
theorem d_M_init_80 : decode m_M_init.2.1 80 = .ok (.bipush 24, 2) := by decide +kernel
theorem d_M_init_82 : decode m_M_init.2.1 82 = .ok (.newarray .int, 2) := by decide +kernel
theorem d_M_init_84 : decode m_M_init.2.1 84 = .ok (.putfield 41, 3) := by decide +kernel
theorem d_M_init_87 : decode m_M_init.2.1 87 = .ok (.aload_n 0, 1) := by decide +kernel
theorem d_M_init_88 : decode m_M_init.2.1 88 = .ok (.bipush 24, 2) := by decide +kernel
theorem d_M_init_90 : decode m_M_init.2.1 90 = .ok (.newarray .int, 2) := by decide +kernel
theorem d_M_init_92 : decode m_M_init.2.1 92 = .ok (.putfield 44, 3) := by decide +kernel
theorem d_M_init_95 : decode m_M_init.2.1 95 = .ok (.aload_n 0, 1) := by decide +kernel
theorem d_M_init_96 : decode m_M_init.2.1 96 = .ok (.bipush 24, 2) := by decide +kernel
theorem d_M_init_98 : decode m_M_init.2.1 98 = .ok (.newarray .int, 2) := by decide +kernel
theorem d_M_init_100 : decode m_M_init.2.1 100 = .ok (.putfield 47, 3) := by decide +kernel
theorem d_M_init_103 : decode m_M_init.2.1 103 = .ok (.aload_n 0, 1) := by decide +kernel
theorem d_M_init_104 : decode m_M_init.2.1 104 = .ok (.bipush 12, 2) := by decide +kernel
theorem d_M_init_106 : decode m_M_init.2.1 106 = .ok (.newarray .long, 2) := by decide +kernel
theorem d_M_init_108 : decode m_M_init.2.1 108 = .ok (.putfield 50, 3) := by decide +kernel
theorem d_M_init_111 : decode m_M_init.2.1 111 = .ok (.aload_n 0, 1) := by decide +kernel
theorem d_M_init_112 : decode m_M_init.2.1 112 = .ok (.bipush 12, 2) := by decide +kernel
theorem d_M_init_114 : decode m_M_init.2.1 114 = .ok (.newarray .long, 2) := by decide +kernel
theorem d_M_init_116 : decode m_M_init.2.1 116 = .ok (.putfield 54, 3) := by decide +kernel
theorem d_M_init_119 : decode m_M_init.2.1 119 = .ok (.aload_n 0, 1) := by decide +kernel
theorem d_M_init_120 : decode m_M_init.2.1 120 = .ok (.bipush 12, 2) := by decide +kernel
theorem d_M_init_122 : decode m_M_init.2.1 122 = .ok (.newarray .long, 2) := by decide +kernel
theorem d_M_init_124 : decode m_M_init.2.1 124 = .ok (.putfield 57, 3) := by decide +kernel
theorem d_M_init_127 : decode m_M_init.2.1 127 = .ok (.aload_n 0, 1) := by decide +kernel
theorem d_M_init_128 : decode m_M_init.2.1 128 = .ok (.bipush 12, 2) := by decide +kernel
theorem d_M_init_130 : decode m_M_init.2.1 130 = .ok (.newarray .long, 2) := by decide +kernel
theorem d_M_init_132 : decode m_M_init.2.1 132 = .ok (.putfield 60, 3) := by decide +kernel
theorem d_M_init_135 : decode m_M_init.2.1 135 = .ok (.aload_n 0, 1) := by decide +kernel
theorem d_M_init_136 : decode m_M_init.2.1 136 = .ok (.bipush 12, 2) := by decide +kernel
theorem d_M_init_138 : decode m_M_init.2.1 138 = .ok (.newarray .long, 2) := by decide +kernel
theorem d_M_init_140 : decode m_M_init.2.1 140 = .ok (.putfield 63, 3) := by decide +kernel
theorem d_M_init_143 : decode m_M_init.2.1 143 = .ok (.aload_n 0, 1) := by decide +kernel
theorem d_M_init_144 : decode m_M_init.2.1 144 = .ok (.bipush 12, 2) := by decide +kernel
theorem d_M_init_146 : decode m_M_init.2.1 146 = .ok (.newarray .long, 2) := by decide +kernel
theorem d_M_init_148 : decode m_M_init.2.1 148 = .ok (.putfield 66, 3) := by decide +kernel
theorem d_M_init_151 : decode m_M_init.2.1 151 = .ok (.aload_n 0, 1) := by decide +kernel
theorem d_M_init_152 : decode m_M_init.2.1 152 = .ok (.bipush 24, 2) := by decide +kernel
theorem d_M_init_154 : decode m_M_init.2.1 154 = .ok (.newarray .int, 2) := by decide +kernel
theorem d_M_init_156 : decode m_M_init.2.1 156 = .ok (.putfield 69, 3) := by decide +kernel
theorem d_M_init_159 : decode m_M_init.2.1 159 = .ok (.aload_n 0, 1) := by decide +kernel
theorem d_M_init_160 : decode m_M_init.2.1 160 = .ok (.bipush 24, 2) := by decide +kernel
theorem d_M_init_162 : decode m_M_init.2.1 162 = .ok (.newarray .int, 2) := by decide +kernel
theorem d_M_init_164 : decode m_M_init.2.1 164 = .ok (.putfield 72, 3) := by decide +kernel
theorem d_M_init_167 : decode m_M_init.2.1 167 = .ok (.aload_n 0, 1) := by decide +kernel
theorem d_M_init_168 : decode m_M_init.2.1 168 = .ok (.bipush 24, 2) := by decide +kernel
theorem d_M_init_170 : decode m_M_init.2.1 170 = .ok (.newarray .int, 2) := by decide +kernel
theorem d_M_init_172 : decode m_M_init.2.1 172 = .ok (.putfield 75, 3) := by decide +kernel
theorem d_M_init_175 : decode m_M_init.2.1 175 = .ok (.aload_n 0, 1) := by decide +kernel
theorem d_M_init_176 : decode m_M_init.2.1 176 = .ok (.sipush 2600, 3) := by decide +kernel
theorem d_M_init_179 : decode m_M_init.2.1 179 = .ok (.newarray .int, 2) := by decide +kernel
theorem d_M_init_181 : decode m_M_init.2.1 181 = .ok (.putfield 78, 3) := by decide +kernel
theorem d_M_init_184 : decode m_M_init.2.1 184 = .ok (.aload_n 0, 1) := by decide +kernel
theorem d_M_init_185 : decode m_M_init.2.1 185 = .ok (.bipush 24, 2) := by decide +kernel
theorem d_M_init_187 : decode m_M_init.2.1 187 = .ok (.newarray .int, 2) := by decide +kernel
theorem d_M_init_189 : decode m_M_init.2.1 189 = .ok (.putfield 81, 3) := by decide +kernel
theorem d_M_init_192 : decode m_M_init.2.1 192 = .ok (.aload_n 0, 1) := by decide +kernel
theorem d_M_init_193 : decode m_M_init.2.1 193 = .ok (.bipush 24, 2) := by decide +kernel
theorem d_M_init_195 : decode m_M_init.2.1 195 = .ok (.newarray .int, 2) := by decide +kernel
theorem d_M_init_197 : decode m_M_init.2.1 197 = .ok (.putfield 84, 3) := by decide +kernel
theorem d_M_init_200 : decode m_M_init.2.1 200 = .ok (.aload_n 0, 1) := by decide +kernel
theorem d_M_init_201 : decode m_M_init.2.1 201 = .ok (.bipush 24, 2) := by decide +kernel
theorem d_M_init_203 : decode m_M_init.2.1 203 = .ok (.newarray .int, 2) := by decide +kernel
theorem d_M_init_205 : decode m_M_init.2.1 205 = .ok (.putfield 87, 3) := by decide +kernel
theorem d_M_init_208 : decode m_M_init.2.1 208 = .ok (.aload_n 0, 1) := by decide +kernel
theorem d_M_init_209 : decode m_M_init.2.1 209 = .ok (.bipush 24, 2) := by decide +kernel
theorem d_M_init_211 : decode m_M_init.2.1 211 = .ok (.newarray .boolean, 2) := by decide +kernel
theorem d_M_init_213 : decode m_M_init.2.1 213 = .ok (.putfield 90, 3) := by decide +kernel
theorem d_M_init_216 : decode m_M_init.2.1 216 = .ok (.aload_n 0, 1) := by decide +kernel
theorem d_M_init_217 : decode m_M_init.2.1 217 = .ok (.sipush 3084, 3) := by decide +kernel
theorem d_M_init_220 : decode m_M_init.2.1 220 = .ok (.newarray .int, 2) := by decide +kernel
theorem d_M_init_222 : decode m_M_init.2.1 222 = .ok (.putfield 94, 3) := by decide +kernel
theorem d_M_init_225 : decode m_M_init.2.1 225 = .ok (.aload_n 0, 1) := by decide +kernel
theorem d_M_init_226 : decode m_M_init.2.1 226 = .ok (.bipush 7, 2) := by decide +kernel
theorem d_M_init_228 : decode m_M_init.2.1 228 = .ok (.newarray .int, 2) := by decide +kernel
theorem d_M_init_230 : decode m_M_init.2.1 230 = .ok (.putfield 97, 3) := by decide +kernel
theorem d_M_init_233 : decode m_M_init.2.1 233 = .ok (.aload_n 0, 1) := by decide +kernel
theorem d_M_init_234 : decode m_M_init.2.1 234 = .ok (.bipush 8, 2) := by decide +kernel
theorem d_M_init_236 : decode m_M_init.2.1 236 = .ok (.newarray .int, 2) := by decide +kernel
theorem d_M_init_238 : decode m_M_init.2.1 238 = .ok (.putfield 100, 3) := by decide +kernel
theorem d_M_init_241 : decode m_M_init.2.1 241 = .ok (.aload_n 0, 1) := by decide +kernel
theorem d_M_init_242 : decode m_M_init.2.1 242 = .ok (.bipush 24, 2) := by decide +kernel
theorem d_M_init_244 : decode m_M_init.2.1 244 = .ok (.newarray .int, 2) := by decide +kernel
theorem d_M_init_246 : decode m_M_init.2.1 246 = .ok (.putfield 103, 3) := by decide +kernel
theorem d_M_init_249 : decode m_M_init.2.1 249 = .ok (.aload_n 0, 1) := by decide +kernel
theorem d_M_init_250 : decode m_M_init.2.1 250 = .ok (.bipush 10, 2) := by decide +kernel
theorem d_M_init_252 : decode m_M_init.2.1 252 = .ok (.newarray .int, 2) := by decide +kernel
theorem d_M_init_254 : decode m_M_init.2.1 254 = .ok (.putfield 106, 3) := by decide +kernel
theorem d_M_init_257 : decode m_M_init.2.1 257 = .ok (.aload_n 0, 1) := by decide +kernel
theorem d_M_init_258 : decode m_M_init.2.1 258 = .ok (.bipush 24, 2) := by decide +kernel
theorem d_M_init_260 : decode m_M_init.2.1 260 = .ok (.newarray .int, 2) := by decide +kernel
theorem d_M_init_262 : decode m_M_init.2.1 262 = .ok (.putfield 109, 3) := by decide +kernel
theorem d_M_init_265 : decode m_M_init.2.1 265 = .ok (.aload_n 0, 1) := by decide +kernel
theorem d_M_init_266 : decode m_M_init.2.1 266 = .ok (.bipush 80, 2) := by decide +kernel
theorem d_M_init_268 : decode m_M_init.2.1 268 = .ok (.newarray .int, 2) := by decide +kernel
theorem d_M_init_270 : decode m_M_init.2.1 270 = .ok (.putfield 112, 3) := by decide +kernel
theorem d_M_init_273 : decode m_M_init.2.1 273 = .ok (.aload_n 0, 1) := by decide +kernel
theorem d_M_init_274 : decode m_M_init.2.1 274 = .ok (.sipush 400, 3) := by decide +kernel
theorem d_M_init_277 : decode m_M_init.2.1 277 = .ok (.newarray .int, 2) := by decide +kernel
theorem d_M_init_279 : decode m_M_init.2.1 279 = .ok (.putfield 115, 3) := by decide +kernel
theorem d_M_init_282 : decode m_M_init.2.1 282 = .ok (.aload_n 0, 1) := by decide +kernel
theorem d_M_init_283 : decode m_M_init.2.1 283 = .ok (.bipush 29, 2) := by decide +kernel
theorem d_M_init_285 : decode m_M_init.2.1 285 = .ok (.newarray .byte, 2) := by decide +kernel
theorem d_M_init_287 : decode m_M_init.2.1 287 = .ok (.dup, 1) := by decide +kernel
theorem d_M_init_288 : decode m_M_init.2.1 288 = .ok (.iconst 0, 1) := by decide +kernel
theorem d_M_init_289 : decode m_M_init.2.1 289 = .ok (.bipush 115, 2) := by decide +kernel
theorem d_M_init_291 : decode m_M_init.2.1 291 = .ok (.bastore, 1) := by decide +kernel
theorem d_M_init_292 : decode m_M_init.2.1 292 = .ok (.dup, 1) := by decide +kernel
theorem d_M_init_293 : decode m_M_init.2.1 293 = .ok (.iconst 1, 1) := by decide +kernel
theorem d_M_init_294 : decode m_M_init.2.1 294 = .ok (.bipush 105, 2) := by decide +kernel
theorem d_M_init_296 : decode m_M_init.2.1 296 = .ok (.bastore, 1) := by decide +kernel
theorem d_M_init_297 : decode m_M_init.2.1 297 = .ok (.dup, 1) := by decide +kernel
theorem d_M_init_298 : decode m_M_init.2.1 298 = .ok (.iconst 2, 1) := by decide +kernel
theorem d_M_init_299 : decode m_M_init.2.1 299 = .ok (.bipush 100, 2) := by decide +kernel
theorem d_M_init_301 : decode m_M_init.2.1 301 = .ok (.bastore, 1) := by decide +kernel
theorem d_M_init_302 : decode m_M_init.2.1 302 = .ok (.dup, 1) := by decide +kernel
theorem d_M_init_303 : decode m_M_init.2.1 303 = .ok (.iconst 3, 1) := by decide +kernel
theorem d_M_init_304 : decode m_M_init.2.1 304 = .ok (.bipush 101, 2) := by decide +kernel
theorem d_M_init_306 : decode m_M_init.2.1 306 = .ok (.bastore, 1) := by decide +kernel
theorem d_M_init_307 : decode m_M_init.2.1 307 = .ok (.dup, 1) := by decide +kernel
theorem d_M_init_308 : decode m_M_init.2.1 308 = .ok (.iconst 4, 1) := by decide +kernel
theorem d_M_init_309 : decode m_M_init.2.1 309 = .ok (.iconst 0, 1) := by decide +kernel
theorem d_M_init_310 : decode m_M_init.2.1 310 = .ok (.bastore, 1) := by decide +kernel
theorem d_M_init_311 : decode m_M_init.2.1 311 = .ok (.dup, 1) := by decide +kernel
theorem d_M_init_312 : decode m_M_init.2.1 312 = .ok (.iconst 5, 1) := by decide +kernel
theorem d_M_init_313 : decode m_M_init.2.1 313 = .ok (.bipush 103, 2) := by decide +kernel
theorem d_M_init_315 : decode m_M_init.2.1 315 = .ok (.bastore, 1) := by decide +kernel
theorem d_M_init_316 : decode m_M_init.2.1 316 = .ok (.dup, 1) := by decide +kernel
theorem d_M_init_317 : decode m_M_init.2.1 317 = .ok (.bipush 6, 2) := by decide +kernel
theorem d_M_init_319 : decode m_M_init.2.1 319 = .ok (.bipush 97, 2) := by decide +kernel
theorem d_M_init_321 : decode m_M_init.2.1 321 = .ok (.bastore, 1) := by decide +kernel
theorem d_M_init_322 : decode m_M_init.2.1 322 = .ok (.dup, 1) := by decide +kernel
theorem d_M_init_323 : decode m_M_init.2.1 323 = .ok (.bipush 7, 2) := by decide +kernel
theorem d_M_init_325 : decode m_M_init.2.1 325 = .ok (.bipush 112, 2) := by decide +kernel
theorem d_M_init_327 : decode m_M_init.2.1 327 = .ok (.bastore, 1) := by decide +kernel
theorem d_M_init_328 : decode m_M_init.2.1 328 = .ok (.dup, 1) := by decide +kernel
theorem d_M_init_329 : decode m_M_init.2.1 329 = .ok (.bipush 8, 2) := by decide +kernel
theorem d_M_init_331 : decode m_M_init.2.1 331 = .ok (.iconst 0, 1) := by decide +kernel
theorem d_M_init_332 : decode m_M_init.2.1 332 = .ok (.bastore, 1) := by decide +kernel
theorem d_M_init_333 : decode m_M_init.2.1 333 = .ok (.dup, 1) := by decide +kernel
theorem d_M_init_334 : decode m_M_init.2.1 334 = .ok (.bipush 9, 2) := by decide +kernel
theorem d_M_init_336 : decode m_M_init.2.1 336 = .ok (.bipush 115, 2) := by decide +kernel
theorem d_M_init_338 : decode m_M_init.2.1 338 = .ok (.bastore, 1) := by decide +kernel
theorem d_M_init_339 : decode m_M_init.2.1 339 = .ok (.dup, 1) := by decide +kernel
theorem d_M_init_340 : decode m_M_init.2.1 340 = .ok (.bipush 10, 2) := by decide +kernel
theorem d_M_init_342 : decode m_M_init.2.1 342 = .ok (.bipush 105, 2) := by decide +kernel
theorem d_M_init_344 : decode m_M_init.2.1 344 = .ok (.bastore, 1) := by decide +kernel
theorem d_M_init_345 : decode m_M_init.2.1 345 = .ok (.dup, 1) := by decide +kernel
theorem d_M_init_346 : decode m_M_init.2.1 346 = .ok (.bipush 11, 2) := by decide +kernel
theorem d_M_init_348 : decode m_M_init.2.1 348 = .ok (.bipush 103, 2) := by decide +kernel
theorem d_M_init_350 : decode m_M_init.2.1 350 = .ok (.bastore, 1) := by decide +kernel
theorem d_M_init_351 : decode m_M_init.2.1 351 = .ok (.dup, 1) := by decide +kernel
theorem d_M_init_352 : decode m_M_init.2.1 352 = .ok (.bipush 12, 2) := by decide +kernel
theorem d_M_init_354 : decode m_M_init.2.1 354 = .ok (.bipush 110, 2) := by decide +kernel
theorem d_M_init_356 : decode m_M_init.2.1 356 = .ok (.bastore, 1) := by decide +kernel
theorem d_M_init_357 : decode m_M_init.2.1 357 = .ok (.dup, 1) := by decide +kernel
theorem d_M_init_358 : decode m_M_init.2.1 358 = .ok (.bipush 13, 2) := by decide +kernel
theorem d_M_init_360 : decode m_M_init.2.1 360 = .ok (.iconst 0, 1) := by decide +kernel
theorem d_M_init_361 : decode m_M_init.2.1 361 = .ok (.bastore, 1) := by decide +kernel
theorem d_M_init_362 : decode m_M_init.2.1 362 = .ok (.dup, 1) := by decide +kernel
theorem d_M_init_363 : decode m_M_init.2.1 363 = .ok (.bipush 14, 2) := by decide +kernel
theorem d_M_init_365 : decode m_M_init.2.1 365 = .ok (.bipush 99, 2) := by decide +kernel
theorem d_M_init_367 : decode m_M_init.2.1 367 = .ok (.bastore, 1) := by decide +kernel
theorem d_M_init_368 : decode m_M_init.2.1 368 = .ok (.dup, 1) := by decide +kernel
theorem d_M_init_369 : decode m_M_init.2.1 369 = .ok (.bipush 15, 2) := by decide +kernel
theorem d_M_init_371 : decode m_M_init.2.1 371 = .ok (.bipush 111, 2) := by decide +kernel
theorem d_M_init_373 : decode m_M_init.2.1 373 = .ok (.bastore, 1) := by decide +kernel
theorem d_M_init_374 : decode m_M_init.2.1 374 = .ok (.dup, 1) := by decide +kernel
theorem d_M_init_375 : decode m_M_init.2.1 375 = .ok (.bipush 16, 2) := by decide +kernel
theorem d_M_init_377 : decode m_M_init.2.1 377 = .ok (.bipush 114, 2) := by decide +kernel
theorem d_M_init_379 : decode m_M_init.2.1 379 = .ok (.bastore, 1) := by decide +kernel
theorem d_M_init_380 : decode m_M_init.2.1 380 = .ok (.dup, 1) := by decide +kernel
theorem d_M_init_381 : decode m_M_init.2.1 381 = .ok (.bipush 17, 2) := by decide +kernel
theorem d_M_init_383 : decode m_M_init.2.1 383 = .ok (.bipush 101, 2) := by decide +kernel
theorem d_M_init_385 : decode m_M_init.2.1 385 = .ok (.bastore, 1) := by decide +kernel
theorem d_M_init_386 : decode m_M_init.2.1 386 = .ok (.dup, 1) := by decide +kernel
theorem d_M_init_387 : decode m_M_init.2.1 387 = .ok (.bipush 18, 2) := by decide +kernel
theorem d_M_init_389 : decode m_M_init.2.1 389 = .ok (.iconst 0, 1) := by decide +kernel
theorem d_M_init_390 : decode m_M_init.2.1 390 = .ok (.bastore, 1) := by decide +kernel
theorem d_M_init_391 : decode m_M_init.2.1 391 = .ok (.dup, 1) := by decide +kernel
theorem d_M_init_392 : decode m_M_init.2.1 392 = .ok (.bipush 19, 2) := by decide +kernel
theorem d_M_init_394 : decode m_M_init.2.1 394 = .ok (.bipush 108, 2) := by decide +kernel
theorem d_M_init_396 : decode m_M_init.2.1 396 = .ok (.bastore, 1) := by decide +kernel
theorem d_M_init_397 : decode m_M_init.2.1 397 = .ok (.dup, 1) := by decide +kernel
theorem d_M_init_398 : decode m_M_init.2.1 398 = .ok (.bipush 20, 2) := by decide +kernel
theorem d_M_init_400 : decode m_M_init.2.1 400 = .ok (.bipush 105, 2) := by decide +kernel
theorem d_M_init_402 : decode m_M_init.2.1 402 = .ok (.bastore, 1) := by decide +kernel
theorem d_M_init_403 : decode m_M_init.2.1 403 = .ok (.dup, 1) := by decide +kernel
theorem d_M_init_404 : decode m_M_init.2.1 404 = .ok (.bipush 21, 2) := by decide +kernel
theorem d_M_init_406 : decode m_M_init.2.1 406 = .ok (.bipush 110, 2) := by decide +kernel
theorem d_M_init_408 : decode m_M_init.2.1 408 = .ok (.bastore, 1) := by decide +kernel
theorem d_M_init_409 : decode m_M_init.2.1 409 = .ok (.dup, 1) := by decide +kernel
theorem d_M_init_410 : decode m_M_init.2.1 410 = .ok (.bipush 22, 2) := by decide +kernel
theorem d_M_init_412 : decode m_M_init.2.1 412 = .ok (.bipush 101, 2) := by decide +kernel
theorem d_M_init_414 : decode m_M_init.2.1 414 = .ok (.bastore, 1) := by decide +kernel
theorem d_M_init_415 : decode m_M_init.2.1 415 = .ok (.dup, 1) := by decide +kernel
theorem d_M_init_416 : decode m_M_init.2.1 416 = .ok (.bipush 23, 2) := by decide +kernel
theorem d_M_init_418 : decode m_M_init.2.1 418 = .ok (.iconst 0, 1) := by decide +kernel
theorem d_M_init_419 : decode m_M_init.2.1 419 = .ok (.bastore, 1) := by decide +kernel
theorem d_M_init_420 : decode m_M_init.2.1 420 = .ok (.dup, 1) := by decide +kernel
theorem d_M_init_421 : decode m_M_init.2.1 421 = .ok (.bipush 24, 2) := by decide +kernel
theorem d_M_init_423 : decode m_M_init.2.1 423 = .ok (.bipush 108, 2) := by decide +kernel
theorem d_M_init_425 : decode m_M_init.2.1 425 = .ok (.bastore, 1) := by decide +kernel
theorem d_M_init_426 : decode m_M_init.2.1 426 = .ok (.dup, 1) := by decide +kernel
theorem d_M_init_427 : decode m_M_init.2.1 427 = .ok (.bipush 25, 2) := by decide +kernel
theorem d_M_init_429 : decode m_M_init.2.1 429 = .ok (.bipush 101, 2) := by decide +kernel
theorem d_M_init_431 : decode m_M_init.2.1 431 = .ok (.bastore, 1) := by decide +kernel
theorem d_M_init_432 : decode m_M_init.2.1 432 = .ok (.dup, 1) := by decide +kernel
theorem d_M_init_433 : decode m_M_init.2.1 433 = .ok (.bipush 26, 2) := by decide +kernel
theorem d_M_init_435 : decode m_M_init.2.1 435 = .ok (.bipush 102, 2) := by decide +kernel
theorem d_M_init_437 : decode m_M_init.2.1 437 = .ok (.bastore, 1) := by decide +kernel
theorem d_M_init_438 : decode m_M_init.2.1 438 = .ok (.dup, 1) := by decide +kernel
theorem d_M_init_439 : decode m_M_init.2.1 439 = .ok (.bipush 27, 2) := by decide +kernel
theorem d_M_init_441 : decode m_M_init.2.1 441 = .ok (.bipush 116, 2) := by decide +kernel
theorem d_M_init_443 : decode m_M_init.2.1 443 = .ok (.bastore, 1) := by decide +kernel
theorem d_M_init_444 : decode m_M_init.2.1 444 = .ok (.dup, 1) := by decide +kernel
theorem d_M_init_445 : decode m_M_init.2.1 445 = .ok (.bipush 28, 2) := by decide +kernel
theorem d_M_init_447 : decode m_M_init.2.1 447 = .ok (.iconst 0, 1) := by decide +kernel
theorem d_M_init_448 : decode m_M_init.2.1 448 = .ok (.bastore, 1) := by decide +kernel
theorem d_M_init_449 : decode m_M_init.2.1 449 = .ok (.putfield 118, 3) := by decide +kernel
theorem d_M_init_452 : decode m_M_init.2.1 452 = .ok (.aload_n 0, 1) := by decide +kernel
theorem d_M_init_453 : decode m_M_init.2.1 453 = .ok (.bipush 26, 2) := by decide +kernel
theorem d_M_init_455 : decode m_M_init.2.1 455 = .ok (.newarray .int, 2) := by decide +kernel
theorem d_M_init_457 : decode m_M_init.2.1 457 = .ok (.putfield 122, 3) := by decide +kernel
theorem d_M_init_460 : decode m_M_init.2.1 460 = .ok (.aload_n 0, 1) := by decide +kernel
theorem d_M_init_461 : decode m_M_init.2.1 461 = .ok (.bipush 26, 2) := by decide +kernel
theorem d_M_init_463 : decode m_M_init.2.1 463 = .ok (.newarray .int, 2) := by decide +kernel
theorem d_M_init_465 : decode m_M_init.2.1 465 = .ok (.putfield 125, 3) := by decide +kernel
theorem d_M_init_468 : decode m_M_init.2.1 468 = .ok (.aload_n 0, 1) := by decide +kernel
theorem d_M_init_469 : decode m_M_init.2.1 469 = .ok (.bipush 26, 2) := by decide +kernel
theorem d_M_init_471 : decode m_M_init.2.1 471 = .ok (.newarray .int, 2) := by decide +kernel
theorem d_M_init_473 : decode m_M_init.2.1 473 = .ok (.putfield 128, 3) := by decide +kernel
theorem d_M_init_476 : decode m_M_init.2.1 476 = .ok (.aload_n 0, 1) := by decide +kernel
theorem d_M_init_477 : decode m_M_init.2.1 477 = .ok (.bipush 26, 2) := by decide +kernel
theorem d_M_init_479 : decode m_M_init.2.1 479 = .ok (.newarray .int, 2) := by decide +kernel
theorem d_M_init_481 : decode m_M_init.2.1 481 = .ok (.putfield 131, 3) := by decide +kernel
theorem d_M_init_484 : decode m_M_init.2.1 484 = .ok (.aload_n 0, 1) := by decide +kernel
theorem d_M_init_485 : decode m_M_init.2.1 485 = .ok (.sipush 200, 3) := by decide +kernel
theorem d_M_init_488 : decode m_M_init.2.1 488 = .ok (.newarray .int, 2) := by decide +kernel
theorem d_M_init_490 : decode m_M_init.2.1 490 = .ok (.putfield 134, 3) := by decide +kernel
theorem d_M_init_493 : decode m_M_init.2.1 493 = .ok (.aload_n 0, 1) := by decide +kernel
theorem d_M_init_494 : decode m_M_init.2.1 494 = .ok (.sipush 200, 3) := by decide +kernel
theorem d_M_init_497 : decode m_M_init.2.1 497 = .ok (.newarray .int, 2) := by decide +kernel
theorem d_M_init_499 : decode m_M_init.2.1 499 = .ok (.putfield 137, 3) := by decide +kernel
theorem d_M_init_502 : decode m_M_init.2.1 502 = .ok (.aload_n 0, 1) := by decide +kernel
theorem d_M_init_503 : decode m_M_init.2.1 503 = .ok (.sipush 200, 3) := by decide +kernel
theorem d_M_init_506 : decode m_M_init.2.1 506 = .ok (.newarray .int, 2) := by decide +kernel
theorem d_M_init_508 : decode m_M_init.2.1 508 = .ok (.putfield 140, 3) := by decide +kernel
theorem d_M_init_511 : decode m_M_init.2.1 511 = .ok (.aload_n 0, 1) := by decide +kernel
theorem d_M_init_512 : decode m_M_init.2.1 512 = .ok (.sipush 200, 3) := by decide +kernel
theorem d_M_init_515 : decode m_M_init.2.1 515 = .ok (.newarray .int, 2) := by decide +kernel
theorem d_M_init_517 : decode m_M_init.2.1 517 = .ok (.putfield 143, 3) := by decide +kernel
theorem d_M_init_520 : decode m_M_init.2.1 520 = .ok (.aload_n 0, 1) := by decide +kernel
theorem d_M_init_521 : decode m_M_init.2.1 521 = .ok (.sipush 200, 3) := by decide +kernel
theorem d_M_init_524 : decode m_M_init.2.1 524 = .ok (.newarray .int, 2) := by decide +kernel
theorem d_M_init_526 : decode m_M_init.2.1 526 = .ok (.putfield 146, 3) := by decide +kernel
theorem d_M_init_529 : decode m_M_init.2.1 529 = .ok (.aload_n 0, 1) := by decide +kernel
theorem d_M_init_530 : decode m_M_init.2.1 530 = .ok (.sipush 200, 3) := by decide +kernel
theorem d_M_init_533 : decode m_M_init.2.1 533 = .ok (.newarray .int, 2) := by decide +kernel
theorem d_M_init_535 : decode m_M_init.2.1 535 = .ok (.putfield 149, 3) := by decide +kernel
theorem d_M_init_538 : decode m_M_init.2.1 538 = .ok (.aload_n 0, 1) := by decide +kernel
theorem d_M_init_539 : decode m_M_init.2.1 539 = .ok (.sipush 200, 3) := by decide +kernel
theorem d_M_init_542 : decode m_M_init.2.1 542 = .ok (.newarray .int, 2) := by decide +kernel
theorem d_M_init_544 : decode m_M_init.2.1 544 = .ok (.putfield 152, 3) := by decide +kernel
theorem d_M_init_547 : decode m_M_init.2.1 547 = .ok (.aload_n 0, 1) := by decide +kernel
theorem d_M_init_548 : decode m_M_init.2.1 548 = .ok (.bipush 8, 2) := by decide +kernel
theorem d_M_init_550 : decode m_M_init.2.1 550 = .ok (.newarray .int, 2) := by decide +kernel
theorem d_M_init_552 : decode m_M_init.2.1 552 = .ok (.putfield 155, 3) := by decide +kernel
theorem d_M_init_555 : decode m_M_init.2.1 555 = .ok (.aload_n 0, 1) := by decide +kernel
theorem d_M_init_556 : decode m_M_init.2.1 556 = .ok (.bipush 8, 2) := by decide +kernel
theorem d_M_init_558 : decode m_M_init.2.1 558 = .ok (.newarray .int, 2) := by decide +kernel
theorem d_M_init_560 : decode m_M_init.2.1 560 = .ok (.putfield 158, 3) := by decide +kernel
theorem d_M_init_563 : decode m_M_init.2.1 563 = .ok (.aload_n 0, 1) := by decide +kernel
theorem d_M_init_564 : decode m_M_init.2.1 564 = .ok (.bipush 8, 2) := by decide +kernel
theorem d_M_init_566 : decode m_M_init.2.1 566 = .ok (.newarray .int, 2) := by decide +kernel
theorem d_M_init_568 : decode m_M_init.2.1 568 = .ok (.putfield 161, 3) := by decide +kernel
theorem d_M_init_571 : decode m_M_init.2.1 571 = .ok (.aload_n 0, 1) := by decide +kernel
theorem d_M_init_572 : decode m_M_init.2.1 572 = .ok (.bipush 48, 2) := by decide +kernel
theorem d_M_init_574 : decode m_M_init.2.1 574 = .ok (.newarray .int, 2) := by decide +kernel
theorem d_M_init_576 : decode m_M_init.2.1 576 = .ok (.putfield 164, 3) := by decide +kernel
theorem d_M_init_579 : decode m_M_init.2.1 579 = .ok (.aload_n 0, 1) := by decide +kernel
theorem d_M_init_580 : decode m_M_init.2.1 580 = .ok (.getfield 26, 3) := by decide +kernel
theorem d_M_init_583 : decode m_M_init.2.1 583 = .ok (.iconst 0, 1) := by decide +kernel
theorem d_M_init_584 : decode m_M_init.2.1 584 = .ok (.bipush 12, 2) := by decide +kernel
theorem d_M_init_586 : decode m_M_init.2.1 586 = .ok (.iastore, 1) := by decide +kernel
theorem d_M_init_587 : decode m_M_init.2.1 587 = .ok (.aload_n 0, 1) := by decide +kernel
theorem d_M_init_588 : decode m_M_init.2.1 588 = .ok (.getfield 26, 3) := by decide +kernel
theorem d_M_init_591 : decode m_M_init.2.1 591 = .ok (.iconst 1, 1) := by decide +kernel
theorem d_M_init_592 : decode m_M_init.2.1 592 = .ok (.iconst 1, 1) := by decide +kernel
theorem d_M_init_593 : decode m_M_init.2.1 593 = .ok (.iastore, 1) := by decide +kernel
theorem d_M_init_594 : decode m_M_init.2.1 594 = .ok (.return_, 1) := by decide +kernel
theorem b_M_init_0 {E : EV} {d : Nat} {Q : Option AV → St → Prop} {σ : St} (hF : Fix σ) (h : WP E m_M_init (d + 1) 12 [(0, aP 42)] [] (wr (al σ 20 26) 42 1 (nx σ)) Q) : WP E m_M_init (d + 1) 0 [(0, aP 42)] [] σ Q := by
  refine s_aload_n 0 d_M_init_0 rfl rfl ?_
  refine s_objInit d_M_init_1 lo_M_7 lo_inst lo_code (by decide) (Nat.le_of_ble_eq_true rfl) ?_
  refine s_aload_n 0 d_M_init_4 rfl rfl ?_
  refine s_bipush d_M_init_5 (by decide) ?_
  refine s_newarray (kd := 20) d_M_init_7 (by decide) ac_20 (by decide) ?_
  refine s_putf 1 rfl d_M_init_9 fl_M_13 (fun C T h => by cases h; exact Or.inr ⟨rfl, rfl, rfl, fk_M_13⟩) rfl (Or.inr (Or.inr (Or.inr (Or.inr ⟨_, rfl⟩)))) (fun h => nomatch h) (sf_42 hF.al_) ?_
  exact h
theorem e_M_init {E : EV} {d : Nat} {Q : Option AV → St → Prop} {σ : St} (hF : Fix σ) (h : WP E m_M_init (d + 1) 12 [(0, aP 42)] [] (wr (al σ 20 26) 42 1 (nx σ)) Q) : WM E m_M_init (d + 1) [aP 42] σ Q := s_meth (by decide) (Nat.le_of_ble_eq_true rfl) rfl (b_M_init_0 hF h)
theorem b_M_init_12 {E : EV} {d : Nat} {Q : Option AV → St → Prop} {σ : St} (hF : Fix σ) (h : WP E m_M_init (d + 1) 20 [(0, aP 42)] [] (wr (al σ 20 26) 42 2 (nx σ)) Q) : WP E m_M_init (d + 1) 12 [(0, aP 42)] [] σ Q := by
  refine s_aload_n 0 d_M_init_12 rfl rfl ?_
  refine s_bipush d_M_init_13 (by decide) ?_
  refine s_newarray (kd := 20) d_M_init_15 (by decide) ac_20 (by decide) ?_
  refine s_putf 2 rfl d_M_init_17 fl_M_17 (fun C T h => by cases h; exact Or.inr ⟨rfl, rfl, rfl, fk_M_17⟩) rfl (Or.inr (Or.inr (Or.inr (Or.inr ⟨_, rfl⟩)))) (fun h => nomatch h) (sf_42 hF.al_) ?_
  exact h
theorem b_M_init_20 {E : EV} {d : Nat} {Q : Option AV → St → Prop} {σ : St} (hF : Fix σ) (h : WP E m_M_init (d + 1) 28 [(0, aP 42)] [] (wr (al σ 20 26) 42 3 (nx σ)) Q) : WP E m_M_init (d + 1) 20 [(0, aP 42)] [] σ Q := by
  refine s_aload_n 0 d_M_init_20 rfl rfl ?_
  refine s_bipush d_M_init_21 (by decide) ?_
  refine s_newarray (kd := 20) d_M_init_23 (by decide) ac_20 (by decide) ?_
  refine s_putf 3 rfl d_M_init_25 fl_M_20 (fun C T h => by cases h; exact Or.inr ⟨rfl, rfl, rfl, fk_M_20⟩) rfl (Or.inr (Or.inr (Or.inr (Or.inr ⟨_, rfl⟩)))) (fun h => nomatch h) (sf_42 hF.al_) ?_
  exact h
theorem b_M_init_28 {E : EV} {d : Nat} {Q : Option AV → St → Prop} {σ : St} (hF : Fix σ) (h : WP E m_M_init (d + 1) 36 [(0, aP 42)] [] (wr (al σ 20 26) 42 4 (nx σ)) Q) : WP E m_M_init (d + 1) 28 [(0, aP 42)] [] σ Q := by
  refine s_aload_n 0 d_M_init_28 rfl rfl ?_
  refine s_bipush d_M_init_29 (by decide) ?_
  refine s_newarray (kd := 20) d_M_init_31 (by decide) ac_20 (by decide) ?_
  refine s_putf 4 rfl d_M_init_33 fl_M_23 (fun C T h => by cases h; exact Or.inr ⟨rfl, rfl, rfl, fk_M_23⟩) rfl (Or.inr (Or.inr (Or.inr (Or.inr ⟨_, rfl⟩)))) (fun h => nomatch h) (sf_42 hF.al_) ?_
  exact h
theorem b_M_init_36 {E : EV} {d : Nat} {Q : Option AV → St → Prop} {σ : St} (hF : Fix σ) (h : WP E m_M_init (d + 1) 45 [(0, aP 42)] [] (wr (al σ 20 683) 42 5 (nx σ)) Q) : WP E m_M_init (d + 1) 36 [(0, aP 42)] [] σ Q := by
  refine s_aload_n 0 d_M_init_36 rfl rfl ?_
  refine s_sipush d_M_init_37 (by decide) ?_
  refine s_newarray (kd := 20) d_M_init_40 (by decide) ac_20 (by decide) ?_
  refine s_putf 5 rfl d_M_init_42 fl_M_26 (fun C T h => by cases h; exact Or.inr ⟨rfl, rfl, rfl, fk_M_26⟩) rfl (Or.inr (Or.inr (Or.inr (Or.inr ⟨_, rfl⟩)))) (fun h => nomatch h) (sf_42 hF.al_) ?_
  exact h
theorem b_M_init_45 {E : EV} {d : Nat} {Q : Option AV → St → Prop} {σ : St} (hF : Fix σ) (h : WP E m_M_init (d + 1) 54 [(0, aP 42)] [] (wr (al σ 20 683) 42 6 (nx σ)) Q) : WP E m_M_init (d + 1) 45 [(0, aP 42)] [] σ Q := by
  refine s_aload_n 0 d_M_init_45 rfl rfl ?_
  refine s_sipush d_M_init_46 (by decide) ?_
  refine s_newarray (kd := 20) d_M_init_49 (by decide) ac_20 (by decide) ?_
  refine s_putf 6 rfl d_M_init_51 fl_M_29 (fun C T h => by cases h; exact Or.inr ⟨rfl, rfl, rfl, fk_M_29⟩) rfl (Or.inr (Or.inr (Or.inr (Or.inr ⟨_, rfl⟩)))) (fun h => nomatch h) (sf_42 hF.al_) ?_
  exact h
theorem b_M_init_54 {E : EV} {d : Nat} {Q : Option AV → St → Prop} {σ : St} (hF : Fix σ) (h : WP E m_M_init (d + 1) 63 [(0, aP 42)] [] (wr (al σ 20 8196) 42 7 (nx σ)) Q) : WP E m_M_init (d + 1) 54 [(0, aP 42)] [] σ Q := by
  refine s_aload_n 0 d_M_init_54 rfl rfl ?_
  refine s_sipush d_M_init_55 (by decide) ?_
  refine s_newarray (kd := 20) d_M_init_58 (by decide) ac_20 (by decide) ?_
  refine s_putf 7 rfl d_M_init_60 fl_M_32 (fun C T h => by cases h; exact Or.inr ⟨rfl, rfl, rfl, fk_M_32⟩) rfl (Or.inr (Or.inr (Or.inr (Or.inr ⟨_, rfl⟩)))) (fun h => nomatch h) (sf_42 hF.al_) ?_
  exact h
theorem b_M_init_63 {E : EV} {d : Nat} {Q : Option AV → St → Prop} {σ : St} (hF : Fix σ) (h : WP E m_M_init (d + 1) 71 [(0, aP 42)] [] (wr (al σ 20 24) 42 9 (nx σ)) Q) : WP E m_M_init (d + 1) 63 [(0, aP 42)] [] σ Q := by
  refine s_aload_n 0 d_M_init_63 rfl rfl ?_
  refine s_bipush d_M_init_64 (by decide) ?_
  refine s_newarray (kd := 20) d_M_init_66 (by decide) ac_20 (by decide) ?_
  refine s_putf 9 rfl d_M_init_68 fl_M_35 (fun C T h => by cases h; exact Or.inr ⟨rfl, rfl, rfl, fk_M_35⟩) rfl (Or.inr (Or.inr (Or.inr (Or.inr ⟨_, rfl⟩)))) (fun h => nomatch h) (sf_42 hF.al_) ?_
  exact h
theorem b_M_init_71 {E : EV} {d : Nat} {Q : Option AV → St → Prop} {σ : St} (hF : Fix σ) (h : WP E m_M_init (d + 1) 79 [(0, aP 42)] [] (wr (al σ 20 48) 42 11 (nx σ)) Q) : WP E m_M_init (d + 1) 71 [(0, aP 42)] [] σ Q := by
  refine s_aload_n 0 d_M_init_71 rfl rfl ?_
  refine s_bipush d_M_init_72 (by decide) ?_
  refine s_newarray (kd := 20) d_M_init_74 (by decide) ac_20 (by decide) ?_
  refine s_putf 11 rfl d_M_init_76 fl_M_38 (fun C T h => by cases h; exact Or.inr ⟨rfl, rfl, rfl, fk_M_38⟩) rfl (Or.inr (Or.inr (Or.inr (Or.inr ⟨_, rfl⟩)))) (fun h => nomatch h) (sf_42 hF.al_) ?_
  exact h
theorem b_M_init_79 {E : EV} {d : Nat} {Q : Option AV → St → Prop} {σ : St} (hF : Fix σ) (h : WP E m_M_init (d + 1) 87 [(0, aP 42)] [] (wr (al σ 20 24) 42 13 (nx σ)) Q) : WP E m_M_init (d + 1) 79 [(0, aP 42)] [] σ Q := by
  refine s_aload_n 0 d_M_init_79 rfl rfl ?_
  refine s_bipush d_M_init_80 (by decide) ?_
  refine s_newarray (kd := 20) d_M_init_82 (by decide) ac_20 (by decide) ?_
  refine s_putf 13 rfl d_M_init_84 fl_M_41 (fun C T h => by cases h; exact Or.inr ⟨rfl, rfl, rfl, fk_M_41⟩) rfl (Or.inr (Or.inr (Or.inr (Or.inr ⟨_, rfl⟩)))) (fun h => nomatch h) (sf_42 hF.al_) ?_
  exact h
theorem b_M_init_87 {E : EV} {d : Nat} {Q : Option AV → St → Prop} {σ : St} (hF : Fix σ) (h : WP E m_M_init (d + 1) 95 [(0, aP 42)] [] (wr (al σ 20 24) 42 14 (nx σ)) Q) : WP E m_M_init (d + 1) 87 [(0, aP 42)] [] σ Q := by
  refine s_aload_n 0 d_M_init_87 rfl rfl ?_
  refine s_bipush d_M_init_88 (by decide) ?_
  refine s_newarray (kd := 20) d_M_init_90 (by decide) ac_20 (by decide) ?_
  refine s_putf 14 rfl d_M_init_92 fl_M_44 (fun C T h => by cases h; exact Or.inr ⟨rfl, rfl, rfl, fk_M_44⟩) rfl (Or.inr (Or.inr (Or.inr (Or.inr ⟨_, rfl⟩)))) (fun h => nomatch h) (sf_42 hF.al_) ?_
  exact h
theorem b_M_init_95 {E : EV} {d : Nat} {Q : Option AV → St → Prop} {σ : St} (hF : Fix σ) (h : WP E m_M_init (d + 1) 103 [(0, aP 42)] [] (wr (al σ 20 24) 42 15 (nx σ)) Q) : WP E m_M_init (d + 1) 95 [(0, aP 42)] [] σ Q := by
  refine s_aload_n 0 d_M_init_95 rfl rfl ?_
  refine s_bipush d_M_init_96 (by decide) ?_
  refine s_newarray (kd := 20) d_M_init_98 (by decide) ac_20 (by decide) ?_
  refine s_putf 15 rfl d_M_init_100 fl_M_47 (fun C T h => by cases h; exact Or.inr ⟨rfl, rfl, rfl, fk_M_47⟩) rfl (Or.inr (Or.inr (Or.inr (Or.inr ⟨_, rfl⟩)))) (fun h => nomatch h) (sf_42 hF.al_) ?_
  exact h
theorem b_M_init_103 {E : EV} {d : Nat} {Q : Option AV → St → Prop} {σ : St} (hF : Fix σ) (h : WP E m_M_init (d + 1) 111 [(0, aP 42)] [] (wr (al σ 22 12) 42 18 (nx σ)) Q) : WP E m_M_init (d + 1) 103 [(0, aP 42)] [] σ Q := by
  refine s_aload_n 0 d_M_init_103 rfl rfl ?_
  refine s_bipush d_M_init_104 (by decide) ?_
  refine s_newarray (kd := 22) d_M_init_106 (by decide) ac_22 (by decide) ?_
  refine s_putf 18 rfl d_M_init_108 fl_M_50 (fun C T h => by cases h; exact Or.inr ⟨rfl, rfl, rfl, fk_M_50⟩) rfl (Or.inr (Or.inr (Or.inr (Or.inr ⟨_, rfl⟩)))) (fun h => nomatch h) (sf_42 hF.al_) ?_
  exact h
theorem b_M_init_111 {E : EV} {d : Nat} {Q : Option AV → St → Prop} {σ : St} (hF : Fix σ) (h : WP E m_M_init (d + 1) 119 [(0, aP 42)] [] (wr (al σ 22 12) 42 19 (nx σ)) Q) : WP E m_M_init (d + 1) 111 [(0, aP 42)] [] σ Q := by
  refine s_aload_n 0 d_M_init_111 rfl rfl ?_
  refine s_bipush d_M_init_112 (by decide) ?_
  refine s_newarray (kd := 22) d_M_init_114 (by decide) ac_22 (by decide) ?_
  refine s_putf 19 rfl d_M_init_116 fl_M_54 (fun C T h => by cases h; exact Or.inr ⟨rfl, rfl, rfl, fk_M_54⟩) rfl (Or.inr (Or.inr (Or.inr (Or.inr ⟨_, rfl⟩)))) (fun h => nomatch h) (sf_42 hF.al_) ?_
  exact h
theorem b_M_init_119 {E : EV} {d : Nat} {Q : Option AV → St → Prop} {σ : St} (hF : Fix σ) (h : WP E m_M_init (d + 1) 127 [(0, aP 42)] [] (wr (al σ 22 12) 42 20 (nx σ)) Q) : WP E m_M_init (d + 1) 119 [(0, aP 42)] [] σ Q := by
  refine s_aload_n 0 d_M_init_119 rfl rfl ?_
  refine s_bipush d_M_init_120 (by decide) ?_
  refine s_newarray (kd := 22) d_M_init_122 (by decide) ac_22 (by decide) ?_
  refine s_putf 20 rfl d_M_init_124 fl_M_57 (fun C T h => by cases h; exact Or.inr ⟨rfl, rfl, rfl, fk_M_57⟩) rfl (Or.inr (Or.inr (Or.inr (Or.inr ⟨_, rfl⟩)))) (fun h => nomatch h) (sf_42 hF.al_) ?_
  exact h
theorem b_M_init_127 {E : EV} {d : Nat} {Q : Option AV → St → Prop} {σ : St} (hF : Fix σ) (h : WP E m_M_init (d + 1) 135 [(0, aP 42)] [] (wr (al σ 22 12) 42 21 (nx σ)) Q) : WP E m_M_init (d + 1) 127 [(0, aP 42)] [] σ Q := by
  refine s_aload_n 0 d_M_init_127 rfl rfl ?_
  refine s_bipush d_M_init_128 (by decide) ?_
  refine s_newarray (kd := 22) d_M_init_130 (by decide) ac_22 (by decide) ?_
  refine s_putf 21 rfl d_M_init_132 fl_M_60 (fun C T h => by cases h; exact Or.inr ⟨rfl, rfl, rfl, fk_M_60⟩) rfl (Or.inr (Or.inr (Or.inr (Or.inr ⟨_, rfl⟩)))) (fun h => nomatch h) (sf_42 hF.al_) ?_
  exact h
theorem b_M_init_135 {E : EV} {d : Nat} {Q : Option AV → St → Prop} {σ : St} (hF : Fix σ) (h : WP E m_M_init (d + 1) 143 [(0, aP 42)] [] (wr (al σ 22 12) 42 22 (nx σ)) Q) : WP E m_M_init (d + 1) 135 [(0, aP 42)] [] σ Q := by
  refine s_aload_n 0 d_M_init_135 rfl rfl ?_
  refine s_bipush d_M_init_136 (by decide) ?_
  refine s_newarray (kd := 22) d_M_init_138 (by decide) ac_22 (by decide) ?_
  refine s_putf 22 rfl d_M_init_140 fl_M_63 (fun C T h => by cases h; exact Or.inr ⟨rfl, rfl, rfl, fk_M_63⟩) rfl (Or.inr (Or.inr (Or.inr (Or.inr ⟨_, rfl⟩)))) (fun h => nomatch h) (sf_42 hF.al_) ?_
  exact h
theorem b_M_init_143 {E : EV} {d : Nat} {Q : Option AV → St → Prop} {σ : St} (hF : Fix σ) (h : WP E m_M_init (d + 1) 151 [(0, aP 42)] [] (wr (al σ 22 12) 42 23 (nx σ)) Q) : WP E m_M_init (d + 1) 143 [(0, aP 42)] [] σ Q := by
  refine s_aload_n 0 d_M_init_143 rfl rfl ?_
  refine s_bipush d_M_init_144 (by decide) ?_
  refine s_newarray (kd := 22) d_M_init_146 (by decide) ac_22 (by decide) ?_
  refine s_putf 23 rfl d_M_init_148 fl_M_66 (fun C T h => by cases h; exact Or.inr ⟨rfl, rfl, rfl, fk_M_66⟩) rfl (Or.inr (Or.inr (Or.inr (Or.inr ⟨_, rfl⟩)))) (fun h => nomatch h) (sf_42 hF.al_) ?_
  exact h
theorem b_M_init_151 {E : EV} {d : Nat} {Q : Option AV → St → Prop} {σ : St} (hF : Fix σ) (h : WP E m_M_init (d + 1) 159 [(0, aP 42)] [] (wr (al σ 20 24) 42 24 (nx σ)) Q) : WP E m_M_init (d + 1) 151 [(0, aP 42)] [] σ Q := by
  refine s_aload_n 0 d_M_init_151 rfl rfl ?_
  refine s_bipush d_M_init_152 (by decide) ?_
  refine s_newarray (kd := 20) d_M_init_154 (by decide) ac_20 (by decide) ?_
  refine s_putf 24 rfl d_M_init_156 fl_M_69 (fun C T h => by cases h; exact Or.inr ⟨rfl, rfl, rfl, fk_M_69⟩) rfl (Or.inr (Or.inr (Or.inr (Or.inr ⟨_, rfl⟩)))) (fun h => nomatch h) (sf_42 hF.al_) ?_
  exact h
theorem b_M_init_159 {E : EV} {d : Nat} {Q : Option AV → St → Prop} {σ : St} (hF : Fix σ) (h : WP E m_M_init (d + 1) 167 [(0, aP 42)] [] (wr (al σ 20 24) 42 25 (nx σ)) Q) : WP E m_M_init (d + 1) 159 [(0, aP 42)] [] σ Q := by
  refine s_aload_n 0 d_M_init_159 rfl rfl ?_
  refine s_bipush d_M_init_160 (by decide) ?_
  refine s_newarray (kd := 20) d_M_init_162 (by decide) ac_20 (by decide) ?_
  refine s_putf 25 rfl d_M_init_164 fl_M_72 (fun C T h => by cases h; exact Or.inr ⟨rfl, rfl, rfl, fk_M_72⟩) rfl (Or.inr (Or.inr (Or.inr (Or.inr ⟨_, rfl⟩)))) (fun h => nomatch h) (sf_42 hF.al_) ?_
  exact h
theorem b_M_init_167 {E : EV} {d : Nat} {Q : Option AV → St → Prop} {σ : St} (hF : Fix σ) (h : WP E m_M_init (d + 1) 175 [(0, aP 42)] [] (wr (al σ 20 24) 42 26 (nx σ)) Q) : WP E m_M_init (d + 1) 167 [(0, aP 42)] [] σ Q := by
  refine s_aload_n 0 d_M_init_167 rfl rfl ?_
  refine s_bipush d_M_init_168 (by decide) ?_
  refine s_newarray (kd := 20) d_M_init_170 (by decide) ac_20 (by decide) ?_
  refine s_putf 26 rfl d_M_init_172 fl_M_75 (fun C T h => by cases h; exact Or.inr ⟨rfl, rfl, rfl, fk_M_75⟩) rfl (Or.inr (Or.inr (Or.inr (Or.inr ⟨_, rfl⟩)))) (fun h => nomatch h) (sf_42 hF.al_) ?_
  exact h
theorem b_M_init_175 {E : EV} {d : Nat} {Q : Option AV → St → Prop} {σ : St} (hF : Fix σ) (h : WP E m_M_init (d + 1) 184 [(0, aP 42)] [] (wr (al σ 20 2600) 42 28 (nx σ)) Q) : WP E m_M_init (d + 1) 175 [(0, aP 42)] [] σ Q := by
  refine s_aload_n 0 d_M_init_175 rfl rfl ?_
  refine s_sipush d_M_init_176 (by decide) ?_
  refine s_newarray (kd := 20) d_M_init_179 (by decide) ac_20 (by decide) ?_
  refine s_putf 28 rfl d_M_init_181 fl_M_78 (fun C T h => by cases h; exact Or.inr ⟨rfl, rfl, rfl, fk_M_78⟩) rfl (Or.inr (Or.inr (Or.inr (Or.inr ⟨_, rfl⟩)))) (fun h => nomatch h) (sf_42 hF.al_) ?_
  exact h
theorem b_M_init_184 {E : EV} {d : Nat} {Q : Option AV → St → Prop} {σ : St} (hF : Fix σ) (h : WP E m_M_init (d + 1) 192 [(0, aP 42)] [] (wr (al σ 20 24) 42 30 (nx σ)) Q) : WP E m_M_init (d + 1) 184 [(0, aP 42)] [] σ Q := by
  refine s_aload_n 0 d_M_init_184 rfl rfl ?_
  refine s_bipush d_M_init_185 (by decide) ?_
  refine s_newarray (kd := 20) d_M_init_187 (by decide) ac_20 (by decide) ?_
  refine s_putf 30 rfl d_M_init_189 fl_M_81 (fun C T h => by cases h; exact Or.inr ⟨rfl, rfl, rfl, fk_M_81⟩) rfl (Or.inr (Or.inr (Or.inr (Or.inr ⟨_, rfl⟩)))) (fun h => nomatch h) (sf_42 hF.al_) ?_
  exact h
theorem b_M_init_192 {E : EV} {d : Nat} {Q : Option AV → St → Prop} {σ : St} (hF : Fix σ) (h : WP E m_M_init (d + 1) 200 [(0, aP 42)] [] (wr (al σ 20 24) 42 31 (nx σ)) Q) : WP E m_M_init (d + 1) 192 [(0, aP 42)] [] σ Q := by
  refine s_aload_n 0 d_M_init_192 rfl rfl ?_
  refine s_bipush d_M_init_193 (by decide) ?_
  refine s_newarray (kd := 20) d_M_init_195 (by decide) ac_20 (by decide) ?_
  refine s_putf 31 rfl d_M_init_197 fl_M_84 (fun C T h => by cases h; exact Or.inr ⟨rfl, rfl, rfl, fk_M_84⟩) rfl (Or.inr (Or.inr (Or.inr (Or.inr ⟨_, rfl⟩)))) (fun h => nomatch h) (sf_42 hF.al_) ?_
  exact h
theorem b_M_init_200 {E : EV} {d : Nat} {Q : Option AV → St → Prop} {σ : St} (hF : Fix σ) (h : WP E m_M_init (d + 1) 208 [(0, aP 42)] [] (wr (al σ 20 24) 42 32 (nx σ)) Q) : WP E m_M_init (d + 1) 200 [(0, aP 42)] [] σ Q := by
  refine s_aload_n 0 d_M_init_200 rfl rfl ?_
  refine s_bipush d_M_init_201 (by decide) ?_
  refine s_newarray (kd := 20) d_M_init_203 (by decide) ac_20 (by decide) ?_
  refine s_putf 32 rfl d_M_init_205 fl_M_87 (fun C T h => by cases h; exact Or.inr ⟨rfl, rfl, rfl, fk_M_87⟩) rfl (Or.inr (Or.inr (Or.inr (Or.inr ⟨_, rfl⟩)))) (fun h => nomatch h) (sf_42 hF.al_) ?_
  exact h
theorem b_M_init_208 {E : EV} {d : Nat} {Q : Option AV → St → Prop} {σ : St} (hF : Fix σ) (h : WP E m_M_init (d + 1) 216 [(0, aP 42)] [] (wr (al σ 23 24) 42 33 (nx σ)) Q) : WP E m_M_init (d + 1) 208 [(0, aP 42)] [] σ Q := by
  refine s_aload_n 0 d_M_init_208 rfl rfl ?_
  refine s_bipush d_M_init_209 (by decide) ?_
  refine s_newarray (kd := 23) d_M_init_211 (by decide) ac_23 (by decide) ?_
  refine s_putf 33 rfl d_M_init_213 fl_M_90 (fun C T h => by cases h; exact Or.inr ⟨rfl, rfl, rfl, fk_M_90⟩) rfl (Or.inr (Or.inr (Or.inr (Or.inr ⟨_, rfl⟩)))) (fun h => nomatch h) (sf_42 hF.al_) ?_
  exact h
theorem b_M_init_216 {E : EV} {d : Nat} {Q : Option AV → St → Prop} {σ : St} (hF : Fix σ) (h : WP E m_M_init (d + 1) 225 [(0, aP 42)] [] (wr (al σ 20 3084) 42 34 (nx σ)) Q) : WP E m_M_init (d + 1) 216 [(0, aP 42)] [] σ Q := by
  refine s_aload_n 0 d_M_init_216 rfl rfl ?_
  refine s_sipush d_M_init_217 (by decide) ?_
  refine s_newarray (kd := 20) d_M_init_220 (by decide) ac_20 (by decide) ?_
  refine s_putf 34 rfl d_M_init_222 fl_M_94 (fun C T h => by cases h; exact Or.inr ⟨rfl, rfl, rfl, fk_M_94⟩) rfl (Or.inr (Or.inr (Or.inr (Or.inr ⟨_, rfl⟩)))) (fun h => nomatch h) (sf_42 hF.al_) ?_
  exact h
theorem b_M_init_225 {E : EV} {d : Nat} {Q : Option AV → St → Prop} {σ : St} (hF : Fix σ) (h : WP E m_M_init (d + 1) 233 [(0, aP 42)] [] (wr (al σ 20 7) 42 35 (nx σ)) Q) : WP E m_M_init (d + 1) 225 [(0, aP 42)] [] σ Q := by
  refine s_aload_n 0 d_M_init_225 rfl rfl ?_
  refine s_bipush d_M_init_226 (by decide) ?_
  refine s_newarray (kd := 20) d_M_init_228 (by decide) ac_20 (by decide) ?_
  refine s_putf 35 rfl d_M_init_230 fl_M_97 (fun C T h => by cases h; exact Or.inr ⟨rfl, rfl, rfl, fk_M_97⟩) rfl (Or.inr (Or.inr (Or.inr (Or.inr ⟨_, rfl⟩)))) (fun h => nomatch h) (sf_42 hF.al_) ?_
  exact h
theorem b_M_init_233 {E : EV} {d : Nat} {Q : Option AV → St → Prop} {σ : St} (hF : Fix σ) (h : WP E m_M_init (d + 1) 241 [(0, aP 42)] [] (wr (al σ 20 8) 42 36 (nx σ)) Q) : WP E m_M_init (d + 1) 233 [(0, aP 42)] [] σ Q := by
  refine s_aload_n 0 d_M_init_233 rfl rfl ?_
  refine s_bipush d_M_init_234 (by decide) ?_
  refine s_newarray (kd := 20) d_M_init_236 (by decide) ac_20 (by decide) ?_
  refine s_putf 36 rfl d_M_init_238 fl_M_100 (fun C T h => by cases h; exact Or.inr ⟨rfl, rfl, rfl, fk_M_100⟩) rfl (Or.inr (Or.inr (Or.inr (Or.inr ⟨_, rfl⟩)))) (fun h => nomatch h) (sf_42 hF.al_) ?_
  exact h
theorem b_M_init_241 {E : EV} {d : Nat} {Q : Option AV → St → Prop} {σ : St} (hF : Fix σ) (h : WP E m_M_init (d + 1) 249 [(0, aP 42)] [] (wr (al σ 20 24) 42 37 (nx σ)) Q) : WP E m_M_init (d + 1) 241 [(0, aP 42)] [] σ Q := by
  refine s_aload_n 0 d_M_init_241 rfl rfl ?_
  refine s_bipush d_M_init_242 (by decide) ?_
  refine s_newarray (kd := 20) d_M_init_244 (by decide) ac_20 (by decide) ?_
  refine s_putf 37 rfl d_M_init_246 fl_M_103 (fun C T h => by cases h; exact Or.inr ⟨rfl, rfl, rfl, fk_M_103⟩) rfl (Or.inr (Or.inr (Or.inr (Or.inr ⟨_, rfl⟩)))) (fun h => nomatch h) (sf_42 hF.al_) ?_
  exact h
theorem b_M_init_249 {E : EV} {d : Nat} {Q : Option AV → St → Prop} {σ : St} (hF : Fix σ) (h : WP E m_M_init (d + 1) 257 [(0, aP 42)] [] (wr (al σ 20 10) 42 38 (nx σ)) Q) : WP E m_M_init (d + 1) 249 [(0, aP 42)] [] σ Q := by
  refine s_aload_n 0 d_M_init_249 rfl rfl ?_
  refine s_bipush d_M_init_250 (by decide) ?_
  refine s_newarray (kd := 20) d_M_init_252 (by decide) ac_20 (by decide) ?_
  refine s_putf 38 rfl d_M_init_254 fl_M_106 (fun C T h => by cases h; exact Or.inr ⟨rfl, rfl, rfl, fk_M_106⟩) rfl (Or.inr (Or.inr (Or.inr (Or.inr ⟨_, rfl⟩)))) (fun h => nomatch h) (sf_42 hF.al_) ?_
  exact h
theorem b_M_init_257 {E : EV} {d : Nat} {Q : Option AV → St → Prop} {σ : St} (hF : Fix σ) (h : WP E m_M_init (d + 1) 265 [(0, aP 42)] [] (wr (al σ 20 24) 42 40 (nx σ)) Q) : WP E m_M_init (d + 1) 257 [(0, aP 42)] [] σ Q := by
  refine s_aload_n 0 d_M_init_257 rfl rfl ?_
  refine s_bipush d_M_init_258 (by decide) ?_
  refine s_newarray (kd := 20) d_M_init_260 (by decide) ac_20 (by decide) ?_
  refine s_putf 40 rfl d_M_init_262 fl_M_109 (fun C T h => by cases h; exact Or.inr ⟨rfl, rfl, rfl, fk_M_109⟩) rfl (Or.inr (Or.inr (Or.inr (Or.inr ⟨_, rfl⟩)))) (fun h => nomatch h) (sf_42 hF.al_) ?_
  exact h
theorem b_M_init_265 {E : EV} {d : Nat} {Q : Option AV → St → Prop} {σ : St} (hF : Fix σ) (h : WP E m_M_init (d + 1) 273 [(0, aP 42)] [] (wr (al σ 20 80) 42 44 (nx σ)) Q) : WP E m_M_init (d + 1) 265 [(0, aP 42)] [] σ Q := by
  refine s_aload_n 0 d_M_init_265 rfl rfl ?_
  refine s_bipush d_M_init_266 (by decide) ?_
  refine s_newarray (kd := 20) d_M_init_268 (by decide) ac_20 (by decide) ?_
  refine s_putf 44 rfl d_M_init_270 fl_M_112 (fun C T h => by cases h; exact Or.inr ⟨rfl, rfl, rfl, fk_M_112⟩) rfl (Or.inr (Or.inr (Or.inr (Or.inr ⟨_, rfl⟩)))) (fun h => nomatch h) (sf_42 hF.al_) ?_
  exact h
theorem b_M_init_273 {E : EV} {d : Nat} {Q : Option AV → St → Prop} {σ : St} (hF : Fix σ) (h : WP E m_M_init (d + 1) 282 [(0, aP 42)] [] (wr (al σ 20 400) 42 46 (nx σ)) Q) : WP E m_M_init (d + 1) 273 [(0, aP 42)] [] σ Q := by
  refine s_aload_n 0 d_M_init_273 rfl rfl ?_
  refine s_sipush d_M_init_274 (by decide) ?_
  refine s_newarray (kd := 20) d_M_init_277 (by decide) ac_20 (by decide) ?_
  refine s_putf 46 rfl d_M_init_279 fl_M_115 (fun C T h => by cases h; exact Or.inr ⟨rfl, rfl, rfl, fk_M_115⟩) rfl (Or.inr (Or.inr (Or.inr (Or.inr ⟨_, rfl⟩)))) (fun h => nomatch h) (sf_42 hF.al_) ?_
  exact h
theorem b_M_init_282 {E : EV} {d : Nat} {Q : Option AV → St → Prop} {σ : St} (h : (inb (al σ 21 29) (nx σ) 21 0) ∧ WP E m_M_init (d + 1) 292 [(0, aP 42)] [aP (nx σ), aP 42] (wr (al σ 21 29) (nx σ) 0 115) Q) : WP E m_M_init (d + 1) 282 [(0, aP 42)] [] σ Q := by
  refine s_aload_n 0 d_M_init_282 rfl rfl ?_
  refine s_bipush d_M_init_283 (by decide) ?_
  refine s_newarray (kd := 21) d_M_init_285 (by decide) ac_21 (by decide) ?_
  refine s_dup d_M_init_287 (Nat.ne_of_beq_eq_false rfl) ?_
  refine s_iconst d_M_init_288 ?_
  refine s_bipush d_M_init_289 (by decide) ?_
  obtain ⟨g1, h⟩ := h
  refine s_bastore (Or.inl ⟨rfl, (by decide)⟩) d_M_init_291 g1 ?_
  exact h
theorem b_M_init_292 {E : EV} {d : Nat} {Q : Option AV → St → Prop} {σ : St} (s0 s1 : Int) (h : (inb σ s1 21 1) ∧ WP E m_M_init (d + 1) 297 [(0, aP 42)] [aP s1, aP s0] (wr σ s1 1 105) Q) : WP E m_M_init (d + 1) 292 [(0, aP 42)] [aP s1, aP s0] σ Q := by
  refine s_dup d_M_init_292 (Nat.ne_of_beq_eq_false rfl) ?_
  refine s_iconst d_M_init_293 ?_
  refine s_bipush d_M_init_294 (by decide) ?_
  obtain ⟨g1, h⟩ := h
  refine s_bastore (Or.inl ⟨rfl, (by decide)⟩) d_M_init_296 g1 ?_
  exact h
theorem b_M_init_297 {E : EV} {d : Nat} {Q : Option AV → St → Prop} {σ : St} (s0 s1 : Int) (h : (inb σ s1 21 2) ∧ WP E m_M_init (d + 1) 302 [(0, aP 42)] [aP s1, aP s0] (wr σ s1 2 100) Q) : WP E m_M_init (d + 1) 297 [(0, aP 42)] [aP s1, aP s0] σ Q := by
  refine s_dup d_M_init_297 (Nat.ne_of_beq_eq_false rfl) ?_
  refine s_iconst d_M_init_298 ?_
  refine s_bipush d_M_init_299 (by decide) ?_
  obtain ⟨g1, h⟩ := h
  refine s_bastore (Or.inl ⟨rfl, (by decide)⟩) d_M_init_301 g1 ?_
  exact h
theorem b_M_init_302 {E : EV} {d : Nat} {Q : Option AV → St → Prop} {σ : St} (s0 s1 : Int) (h : (inb σ s1 21 3) ∧ WP E m_M_init (d + 1) 307 [(0, aP 42)] [aP s1, aP s0] (wr σ s1 3 101) Q) : WP E m_M_init (d + 1) 302 [(0, aP 42)] [aP s1, aP s0] σ Q := by
  refine s_dup d_M_init_302 (Nat.ne_of_beq_eq_false rfl) ?_
  refine s_iconst d_M_init_303 ?_
  refine s_bipush d_M_init_304 (by decide) ?_
  obtain ⟨g1, h⟩ := h
  refine s_bastore (Or.inl ⟨rfl, (by decide)⟩) d_M_init_306 g1 ?_
  exact h
theorem b_M_init_307 {E : EV} {d : Nat} {Q : Option AV → St → Prop} {σ : St} (s0 s1 : Int) (h : (inb σ s1 21 4) ∧ WP E m_M_init (d + 1) 311 [(0, aP 42)] [aP s1, aP s0] (wr σ s1 4 0) Q) : WP E m_M_init (d + 1) 307 [(0, aP 42)] [aP s1, aP s0] σ Q := by
  refine s_dup d_M_init_307 (Nat.ne_of_beq_eq_false rfl) ?_
  refine s_iconst d_M_init_308 ?_
  refine s_iconst d_M_init_309 ?_
  obtain ⟨g1, h⟩ := h
  refine s_bastore (Or.inl ⟨rfl, (by decide)⟩) d_M_init_310 g1 ?_
  exact h
theorem b_M_init_311 {E : EV} {d : Nat} {Q : Option AV → St → Prop} {σ : St} (s0 s1 : Int) (h : (inb σ s1 21 5) ∧ WP E m_M_init (d + 1) 316 [(0, aP 42)] [aP s1, aP s0] (wr σ s1 5 103) Q) : WP E m_M_init (d + 1) 311 [(0, aP 42)] [aP s1, aP s0] σ Q := by
  refine s_dup d_M_init_311 (Nat.ne_of_beq_eq_false rfl) ?_
  refine s_iconst d_M_init_312 ?_
  refine s_bipush d_M_init_313 (by decide) ?_
  obtain ⟨g1, h⟩ := h
  refine s_bastore (Or.inl ⟨rfl, (by decide)⟩) d_M_init_315 g1 ?_
  exact h
theorem b_M_init_316 {E : EV} {d : Nat} {Q : Option AV → St → Prop} {σ : St} (s0 s1 : Int) (h : (inb σ s1 21 6) ∧ WP E m_M_init (d + 1) 322 [(0, aP 42)] [aP s1, aP s0] (wr σ s1 6 97) Q) : WP E m_M_init (d + 1) 316 [(0, aP 42)] [aP s1, aP s0] σ Q := by
  refine s_dup d_M_init_316 (Nat.ne_of_beq_eq_false rfl) ?_
  refine s_bipush d_M_init_317 (by decide) ?_
  refine s_bipush d_M_init_319 (by decide) ?_
  obtain ⟨g1, h⟩ := h
  refine s_bastore (Or.inl ⟨rfl, (by decide)⟩) d_M_init_321 g1 ?_
  exact h
theorem b_M_init_322 {E : EV} {d : Nat} {Q : Option AV → St → Prop} {σ : St} (s0 s1 : Int) (h : (inb σ s1 21 7) ∧ WP E m_M_init (d + 1) 328 [(0, aP 42)] [aP s1, aP s0] (wr σ s1 7 112) Q) : WP E m_M_init (d + 1) 322 [(0, aP 42)] [aP s1, aP s0] σ Q := by
  refine s_dup d_M_init_322 (Nat.ne_of_beq_eq_false rfl) ?_
  refine s_bipush d_M_init_323 (by decide) ?_
  refine s_bipush d_M_init_325 (by decide) ?_
  obtain ⟨g1, h⟩ := h
  refine s_bastore (Or.inl ⟨rfl, (by decide)⟩) d_M_init_327 g1 ?_
  exact h
theorem b_M_init_328 {E : EV} {d : Nat} {Q : Option AV → St → Prop} {σ : St} (s0 s1 : Int) (h : (inb σ s1 21 8) ∧ WP E m_M_init (d + 1) 333 [(0, aP 42)] [aP s1, aP s0] (wr σ s1 8 0) Q) : WP E m_M_init (d + 1) 328 [(0, aP 42)] [aP s1, aP s0] σ Q := by
  refine s_dup d_M_init_328 (Nat.ne_of_beq_eq_false rfl) ?_
  refine s_bipush d_M_init_329 (by decide) ?_
  refine s_iconst d_M_init_331 ?_
  obtain ⟨g1, h⟩ := h
  refine s_bastore (Or.inl ⟨rfl, (by decide)⟩) d_M_init_332 g1 ?_
  exact h
theorem b_M_init_333 {E : EV} {d : Nat} {Q : Option AV → St → Prop} {σ : St} (s0 s1 : Int) (h : (inb σ s1 21 9) ∧ WP E m_M_init (d + 1) 339 [(0, aP 42)] [aP s1, aP s0] (wr σ s1 9 115) Q) : WP E m_M_init (d + 1) 333 [(0, aP 42)] [aP s1, aP s0] σ Q := by
  refine s_dup d_M_init_333 (Nat.ne_of_beq_eq_false rfl) ?_
  refine s_bipush d_M_init_334 (by decide) ?_
  refine s_bipush d_M_init_336 (by decide) ?_
  obtain ⟨g1, h⟩ := h
  refine s_bastore (Or.inl ⟨rfl, (by decide)⟩) d_M_init_338 g1 ?_
  exact h
theorem b_M_init_339 {E : EV} {d : Nat} {Q : Option AV → St → Prop} {σ : St} (s0 s1 : Int) (h : (inb σ s1 21 10) ∧ WP E m_M_init (d + 1) 345 [(0, aP 42)] [aP s1, aP s0] (wr σ s1 10 105) Q) : WP E m_M_init (d + 1) 339 [(0, aP 42)] [aP s1, aP s0] σ Q := by
  refine s_dup d_M_init_339 (Nat.ne_of_beq_eq_false rfl) ?_
  refine s_bipush d_M_init_340 (by decide) ?_
  refine s_bipush d_M_init_342 (by decide) ?_
  obtain ⟨g1, h⟩ := h
  refine s_bastore (Or.inl ⟨rfl, (by decide)⟩) d_M_init_344 g1 ?_
  exact h
theorem b_M_init_345 {E : EV} {d : Nat} {Q : Option AV → St → Prop} {σ : St} (s0 s1 : Int) (h : (inb σ s1 21 11) ∧ WP E m_M_init (d + 1) 351 [(0, aP 42)] [aP s1, aP s0] (wr σ s1 11 103) Q) : WP E m_M_init (d + 1) 345 [(0, aP 42)] [aP s1, aP s0] σ Q := by
  refine s_dup d_M_init_345 (Nat.ne_of_beq_eq_false rfl) ?_
  refine s_bipush d_M_init_346 (by decide) ?_
  refine s_bipush d_M_init_348 (by decide) ?_
  obtain ⟨g1, h⟩ := h
  refine s_bastore (Or.inl ⟨rfl, (by decide)⟩) d_M_init_350 g1 ?_
  exact h
theorem b_M_init_351 {E : EV} {d : Nat} {Q : Option AV → St → Prop} {σ : St} (s0 s1 : Int) (h : (inb σ s1 21 12) ∧ WP E m_M_init (d + 1) 357 [(0, aP 42)] [aP s1, aP s0] (wr σ s1 12 110) Q) : WP E m_M_init (d + 1) 351 [(0, aP 42)] [aP s1, aP s0] σ Q := by
  refine s_dup d_M_init_351 (Nat.ne_of_beq_eq_false rfl) ?_
  refine s_bipush d_M_init_352 (by decide) ?_
  refine s_bipush d_M_init_354 (by decide) ?_
  obtain ⟨g1, h⟩ := h
  refine s_bastore (Or.inl ⟨rfl, (by decide)⟩) d_M_init_356 g1 ?_
  exact h
theorem b_M_init_357 {E : EV} {d : Nat} {Q : Option AV → St → Prop} {σ : St} (s0 s1 : Int) (h : (inb σ s1 21 13) ∧ WP E m_M_init (d + 1) 362 [(0, aP 42)] [aP s1, aP s0] (wr σ s1 13 0) Q) : WP E m_M_init (d + 1) 357 [(0, aP 42)] [aP s1, aP s0] σ Q := by
  refine s_dup d_M_init_357 (Nat.ne_of_beq_eq_false rfl) ?_
  refine s_bipush d_M_init_358 (by decide) ?_
  refine s_iconst d_M_init_360 ?_
  obtain ⟨g1, h⟩ := h
  refine s_bastore (Or.inl ⟨rfl, (by decide)⟩) d_M_init_361 g1 ?_
  exact h
theorem b_M_init_362 {E : EV} {d : Nat} {Q : Option AV → St → Prop} {σ : St} (s0 s1 : Int) (h : (inb σ s1 21 14) ∧ WP E m_M_init (d + 1) 368 [(0, aP 42)] [aP s1, aP s0] (wr σ s1 14 99) Q) : WP E m_M_init (d + 1) 362 [(0, aP 42)] [aP s1, aP s0] σ Q := by
  refine s_dup d_M_init_362 (Nat.ne_of_beq_eq_false rfl) ?_
  refine s_bipush d_M_init_363 (by decide) ?_
  refine s_bipush d_M_init_365 (by decide) ?_
  obtain ⟨g1, h⟩ := h
  refine s_bastore (Or.inl ⟨rfl, (by decide)⟩) d_M_init_367 g1 ?_
  exact h
theorem b_M_init_368 {E : EV} {d : Nat} {Q : Option AV → St → Prop} {σ : St} (s0 s1 : Int) (h : (inb σ s1 21 15) ∧ WP E m_M_init (d + 1) 374 [(0, aP 42)] [aP s1, aP s0] (wr σ s1 15 111) Q) : WP E m_M_init (d + 1) 368 [(0, aP 42)] [aP s1, aP s0] σ Q := by
  refine s_dup d_M_init_368 (Nat.ne_of_beq_eq_false rfl) ?_
  refine s_bipush d_M_init_369 (by decide) ?_
  refine s_bipush d_M_init_371 (by decide) ?_
  obtain ⟨g1, h⟩ := h
  refine s_bastore (Or.inl ⟨rfl, (by decide)⟩) d_M_init_373 g1 ?_
  exact h
theorem b_M_init_374 {E : EV} {d : Nat} {Q : Option AV → St → Prop} {σ : St} (s0 s1 : Int) (h : (inb σ s1 21 16) ∧ WP E m_M_init (d + 1) 380 [(0, aP 42)] [aP s1, aP s0] (wr σ s1 16 114) Q) : WP E m_M_init (d + 1) 374 [(0, aP 42)] [aP s1, aP s0] σ Q := by
  refine s_dup d_M_init_374 (Nat.ne_of_beq_eq_false rfl) ?_
  refine s_bipush d_M_init_375 (by decide) ?_
  refine s_bipush d_M_init_377 (by decide) ?_
  obtain ⟨g1, h⟩ := h
  refine s_bastore (Or.inl ⟨rfl, (by decide)⟩) d_M_init_379 g1 ?_
  exact h
theorem b_M_init_380 {E : EV} {d : Nat} {Q : Option AV → St → Prop} {σ : St} (s0 s1 : Int) (h : (inb σ s1 21 17) ∧ WP E m_M_init (d + 1) 386 [(0, aP 42)] [aP s1, aP s0] (wr σ s1 17 101) Q) : WP E m_M_init (d + 1) 380 [(0, aP 42)] [aP s1, aP s0] σ Q := by
  refine s_dup d_M_init_380 (Nat.ne_of_beq_eq_false rfl) ?_
  refine s_bipush d_M_init_381 (by decide) ?_
  refine s_bipush d_M_init_383 (by decide) ?_
  obtain ⟨g1, h⟩ := h
  refine s_bastore (Or.inl ⟨rfl, (by decide)⟩) d_M_init_385 g1 ?_
  exact h
theorem b_M_init_386 {E : EV} {d : Nat} {Q : Option AV → St → Prop} {σ : St} (s0 s1 : Int) (h : (inb σ s1 21 18) ∧ WP E m_M_init (d + 1) 391 [(0, aP 42)] [aP s1, aP s0] (wr σ s1 18 0) Q) : WP E m_M_init (d + 1) 386 [(0, aP 42)] [aP s1, aP s0] σ Q := by
  refine s_dup d_M_init_386 (Nat.ne_of_beq_eq_false rfl) ?_
  refine s_bipush d_M_init_387 (by decide) ?_
  refine s_iconst d_M_init_389 ?_
  obtain ⟨g1, h⟩ := h
  refine s_bastore (Or.inl ⟨rfl, (by decide)⟩) d_M_init_390 g1 ?_
  exact h
theorem b_M_init_391 {E : EV} {d : Nat} {Q : Option AV → St → Prop} {σ : St} (s0 s1 : Int) (h : (inb σ s1 21 19) ∧ WP E m_M_init (d + 1) 397 [(0, aP 42)] [aP s1, aP s0] (wr σ s1 19 108) Q) : WP E m_M_init (d + 1) 391 [(0, aP 42)] [aP s1, aP s0] σ Q := by
  refine s_dup d_M_init_391 (Nat.ne_of_beq_eq_false rfl) ?_
  refine s_bipush d_M_init_392 (by decide) ?_
  refine s_bipush d_M_init_394 (by decide) ?_
  obtain ⟨g1, h⟩ := h
  refine s_bastore (Or.inl ⟨rfl, (by decide)⟩) d_M_init_396 g1 ?_
  exact h
theorem b_M_init_397 {E : EV} {d : Nat} {Q : Option AV → St → Prop} {σ : St} (s0 s1 : Int) (h : (inb σ s1 21 20) ∧ WP E m_M_init (d + 1) 403 [(0, aP 42)] [aP s1, aP s0] (wr σ s1 20 105) Q) : WP E m_M_init (d + 1) 397 [(0, aP 42)] [aP s1, aP s0] σ Q := by
  refine s_dup d_M_init_397 (Nat.ne_of_beq_eq_false rfl) ?_
  refine s_bipush d_M_init_398 (by decide) ?_
  refine s_bipush d_M_init_400 (by decide) ?_
  obtain ⟨g1, h⟩ := h
  refine s_bastore (Or.inl ⟨rfl, (by decide)⟩) d_M_init_402 g1 ?_
  exact h
theorem b_M_init_403 {E : EV} {d : Nat} {Q : Option AV → St → Prop} {σ : St} (s0 s1 : Int) (h : (inb σ s1 21 21) ∧ WP E m_M_init (d + 1) 409 [(0, aP 42)] [aP s1, aP s0] (wr σ s1 21 110) Q) : WP E m_M_init (d + 1) 403 [(0, aP 42)] [aP s1, aP s0] σ Q := by
  refine s_dup d_M_init_403 (Nat.ne_of_beq_eq_false rfl) ?_
  refine s_bipush d_M_init_404 (by decide) ?_
  refine s_bipush d_M_init_406 (by decide) ?_
  obtain ⟨g1, h⟩ := h
  refine s_bastore (Or.inl ⟨rfl, (by decide)⟩) d_M_init_408 g1 ?_
  exact h
theorem b_M_init_409 {E : EV} {d : Nat} {Q : Option AV → St → Prop} {σ : St} (s0 s1 : Int) (h : (inb σ s1 21 22) ∧ WP E m_M_init (d + 1) 415 [(0, aP 42)] [aP s1, aP s0] (wr σ s1 22 101) Q) : WP E m_M_init (d + 1) 409 [(0, aP 42)] [aP s1, aP s0] σ Q := by
  refine s_dup d_M_init_409 (Nat.ne_of_beq_eq_false rfl) ?_
  refine s_bipush d_M_init_410 (by decide) ?_
  refine s_bipush d_M_init_412 (by decide) ?_
  obtain ⟨g1, h⟩ := h
  refine s_bastore (Or.inl ⟨rfl, (by decide)⟩) d_M_init_414 g1 ?_
  exact h
theorem b_M_init_415 {E : EV} {d : Nat} {Q : Option AV → St → Prop} {σ : St} (s0 s1 : Int) (h : (inb σ s1 21 23) ∧ WP E m_M_init (d + 1) 420 [(0, aP 42)] [aP s1, aP s0] (wr σ s1 23 0) Q) : WP E m_M_init (d + 1) 415 [(0, aP 42)] [aP s1, aP s0] σ Q := by
  refine s_dup d_M_init_415 (Nat.ne_of_beq_eq_false rfl) ?_
  refine s_bipush d_M_init_416 (by decide) ?_
  refine s_iconst d_M_init_418 ?_
  obtain ⟨g1, h⟩ := h
  refine s_bastore (Or.inl ⟨rfl, (by decide)⟩) d_M_init_419 g1 ?_
  exact h
theorem b_M_init_420 {E : EV} {d : Nat} {Q : Option AV → St → Prop} {σ : St} (s0 s1 : Int) (h : (inb σ s1 21 24) ∧ WP E m_M_init (d + 1) 426 [(0, aP 42)] [aP s1, aP s0] (wr σ s1 24 108) Q) : WP E m_M_init (d + 1) 420 [(0, aP 42)] [aP s1, aP s0] σ Q := by
  refine s_dup d_M_init_420 (Nat.ne_of_beq_eq_false rfl) ?_
  refine s_bipush d_M_init_421 (by decide) ?_
  refine s_bipush d_M_init_423 (by decide) ?_
  obtain ⟨g1, h⟩ := h
  refine s_bastore (Or.inl ⟨rfl, (by decide)⟩) d_M_init_425 g1 ?_
  exact h
theorem b_M_init_426 {E : EV} {d : Nat} {Q : Option AV → St → Prop} {σ : St} (s0 s1 : Int) (h : (inb σ s1 21 25) ∧ WP E m_M_init (d + 1) 432 [(0, aP 42)] [aP s1, aP s0] (wr σ s1 25 101) Q) : WP E m_M_init (d + 1) 426 [(0, aP 42)] [aP s1, aP s0] σ Q := by
  refine s_dup d_M_init_426 (Nat.ne_of_beq_eq_false rfl) ?_
  refine s_bipush d_M_init_427 (by decide) ?_
  refine s_bipush d_M_init_429 (by decide) ?_
  obtain ⟨g1, h⟩ := h
  refine s_bastore (Or.inl ⟨rfl, (by decide)⟩) d_M_init_431 g1 ?_
  exact h
theorem b_M_init_432 {E : EV} {d : Nat} {Q : Option AV → St → Prop} {σ : St} (s0 s1 : Int) (h : (inb σ s1 21 26) ∧ WP E m_M_init (d + 1) 438 [(0, aP 42)] [aP s1, aP s0] (wr σ s1 26 102) Q) : WP E m_M_init (d + 1) 432 [(0, aP 42)] [aP s1, aP s0] σ Q := by
  refine s_dup d_M_init_432 (Nat.ne_of_beq_eq_false rfl) ?_
  refine s_bipush d_M_init_433 (by decide) ?_
  refine s_bipush d_M_init_435 (by decide) ?_
  obtain ⟨g1, h⟩ := h
  refine s_bastore (Or.inl ⟨rfl, (by decide)⟩) d_M_init_437 g1 ?_
  exact h
theorem b_M_init_438 {E : EV} {d : Nat} {Q : Option AV → St → Prop} {σ : St} (s0 s1 : Int) (h : (inb σ s1 21 27) ∧ WP E m_M_init (d + 1) 444 [(0, aP 42)] [aP s1, aP s0] (wr σ s1 27 116) Q) : WP E m_M_init (d + 1) 438 [(0, aP 42)] [aP s1, aP s0] σ Q := by
  refine s_dup d_M_init_438 (Nat.ne_of_beq_eq_false rfl) ?_
  refine s_bipush d_M_init_439 (by decide) ?_
  refine s_bipush d_M_init_441 (by decide) ?_
  obtain ⟨g1, h⟩ := h
  refine s_bastore (Or.inl ⟨rfl, (by decide)⟩) d_M_init_443 g1 ?_
  exact h
theorem b_M_init_444 {E : EV} {d : Nat} {Q : Option AV → St → Prop} {σ : St} (s0 s1 : Int) (h : (inb σ s1 21 28) ∧ WP E m_M_init (d + 1) 449 [(0, aP 42)] [aP s1, aP s0] (wr σ s1 28 0) Q) : WP E m_M_init (d + 1) 444 [(0, aP 42)] [aP s1, aP s0] σ Q := by
  refine s_dup d_M_init_444 (Nat.ne_of_beq_eq_false rfl) ?_
  refine s_bipush d_M_init_445 (by decide) ?_
  refine s_iconst d_M_init_447 ?_
  obtain ⟨g1, h⟩ := h
  refine s_bastore (Or.inl ⟨rfl, (by decide)⟩) d_M_init_448 g1 ?_
  exact h
theorem b_M_init_449 {E : EV} {d : Nat} {Q : Option AV → St → Prop} {σ : St} (s0 s1 : Int) (h : (sh σ s0 = some (10, 74)) ∧ WP E m_M_init (d + 1) 452 [(0, aP 42)] [] (wr σ s0 48 s1) Q) : WP E m_M_init (d + 1) 449 [(0, aP 42)] [aP s1, aP s0] σ Q := by
  obtain ⟨g1, h⟩ := h
  refine s_putf 48 rfl d_M_init_449 fl_M_118 (fun C T h => by cases h; exact Or.inr ⟨rfl, rfl, rfl, fk_M_118⟩) rfl (Or.inr (Or.inr (Or.inr (Or.inr ⟨_, rfl⟩)))) (fun h => nomatch h) g1 ?_
  exact h
theorem b_M_init_452 {E : EV} {d : Nat} {Q : Option AV → St → Prop} {σ : St} (hF : Fix σ) (h : WP E m_M_init (d + 1) 460 [(0, aP 42)] [] (wr (al σ 20 26) 42 54 (nx σ)) Q) : WP E m_M_init (d + 1) 452 [(0, aP 42)] [] σ Q := by
  refine s_aload_n 0 d_M_init_452 rfl rfl ?_
  refine s_bipush d_M_init_453 (by decide) ?_
  refine s_newarray (kd := 20) d_M_init_455 (by decide) ac_20 (by decide) ?_
  refine s_putf 54 rfl d_M_init_457 fl_M_122 (fun C T h => by cases h; exact Or.inr ⟨rfl, rfl, rfl, fk_M_122⟩) rfl (Or.inr (Or.inr (Or.inr (Or.inr ⟨_, rfl⟩)))) (fun h => nomatch h) (sf_42 hF.al_) ?_
  exact h
theorem b_M_init_460 {E : EV} {d : Nat} {Q : Option AV → St → Prop} {σ : St} (hF : Fix σ) (h : WP E m_M_init (d + 1) 468 [(0, aP 42)] [] (wr (al σ 20 26) 42 55 (nx σ)) Q) : WP E m_M_init (d + 1) 460 [(0, aP 42)] [] σ Q := by
  refine s_aload_n 0 d_M_init_460 rfl rfl ?_
  refine s_bipush d_M_init_461 (by decide) ?_
  refine s_newarray (kd := 20) d_M_init_463 (by decide) ac_20 (by decide) ?_
  refine s_putf 55 rfl d_M_init_465 fl_M_125 (fun C T h => by cases h; exact Or.inr ⟨rfl, rfl, rfl, fk_M_125⟩) rfl (Or.inr (Or.inr (Or.inr (Or.inr ⟨_, rfl⟩)))) (fun h => nomatch h) (sf_42 hF.al_) ?_
  exact h
theorem b_M_init_468 {E : EV} {d : Nat} {Q : Option AV → St → Prop} {σ : St} (hF : Fix σ) (h : WP E m_M_init (d + 1) 476 [(0, aP 42)] [] (wr (al σ 20 26) 42 56 (nx σ)) Q) : WP E m_M_init (d + 1) 468 [(0, aP 42)] [] σ Q := by
  refine s_aload_n 0 d_M_init_468 rfl rfl ?_
  refine s_bipush d_M_init_469 (by decide) ?_
  refine s_newarray (kd := 20) d_M_init_471 (by decide) ac_20 (by decide) ?_
  refine s_putf 56 rfl d_M_init_473 fl_M_128 (fun C T h => by cases h; exact Or.inr ⟨rfl, rfl, rfl, fk_M_128⟩) rfl (Or.inr (Or.inr (Or.inr (Or.inr ⟨_, rfl⟩)))) (fun h => nomatch h) (sf_42 hF.al_) ?_
  exact h
theorem b_M_init_476 {E : EV} {d : Nat} {Q : Option AV → St → Prop} {σ : St} (hF : Fix σ) (h : WP E m_M_init (d + 1) 484 [(0, aP 42)] [] (wr (al σ 20 26) 42 57 (nx σ)) Q) : WP E m_M_init (d + 1) 476 [(0, aP 42)] [] σ Q := by
  refine s_aload_n 0 d_M_init_476 rfl rfl ?_
  refine s_bipush d_M_init_477 (by decide) ?_
  refine s_newarray (kd := 20) d_M_init_479 (by decide) ac_20 (by decide) ?_
  refine s_putf 57 rfl d_M_init_481 fl_M_131 (fun C T h => by cases h; exact Or.inr ⟨rfl, rfl, rfl, fk_M_131⟩) rfl (Or.inr (Or.inr (Or.inr (Or.inr ⟨_, rfl⟩)))) (fun h => nomatch h) (sf_42 hF.al_) ?_
  exact h
theorem b_M_init_484 {E : EV} {d : Nat} {Q : Option AV → St → Prop} {σ : St} (hF : Fix σ) (h : WP E m_M_init (d + 1) 493 [(0, aP 42)] [] (wr (al σ 20 200) 42 59 (nx σ)) Q) : WP E m_M_init (d + 1) 484 [(0, aP 42)] [] σ Q := by
  refine s_aload_n 0 d_M_init_484 rfl rfl ?_
  refine s_sipush d_M_init_485 (by decide) ?_
  refine s_newarray (kd := 20) d_M_init_488 (by decide) ac_20 (by decide) ?_
  refine s_putf 59 rfl d_M_init_490 fl_M_134 (fun C T h => by cases h; exact Or.inr ⟨rfl, rfl, rfl, fk_M_134⟩) rfl (Or.inr (Or.inr (Or.inr (Or.inr ⟨_, rfl⟩)))) (fun h => nomatch h) (sf_42 hF.al_) ?_
  exact h
theorem b_M_init_493 {E : EV} {d : Nat} {Q : Option AV → St → Prop} {σ : St} (hF : Fix σ) (h : WP E m_M_init (d + 1) 502 [(0, aP 42)] [] (wr (al σ 20 200) 42 60 (nx σ)) Q) : WP E m_M_init (d + 1) 493 [(0, aP 42)] [] σ Q := by
  refine s_aload_n 0 d_M_init_493 rfl rfl ?_
  refine s_sipush d_M_init_494 (by decide) ?_
  refine s_newarray (kd := 20) d_M_init_497 (by decide) ac_20 (by decide) ?_
  refine s_putf 60 rfl d_M_init_499 fl_M_137 (fun C T h => by cases h; exact Or.inr ⟨rfl, rfl, rfl, fk_M_137⟩) rfl (Or.inr (Or.inr (Or.inr (Or.inr ⟨_, rfl⟩)))) (fun h => nomatch h) (sf_42 hF.al_) ?_
  exact h
theorem b_M_init_502 {E : EV} {d : Nat} {Q : Option AV → St → Prop} {σ : St} (hF : Fix σ) (h : WP E m_M_init (d + 1) 511 [(0, aP 42)] [] (wr (al σ 20 200) 42 61 (nx σ)) Q) : WP E m_M_init (d + 1) 502 [(0, aP 42)] [] σ Q := by
  refine s_aload_n 0 d_M_init_502 rfl rfl ?_
  refine s_sipush d_M_init_503 (by decide) ?_
  refine s_newarray (kd := 20) d_M_init_506 (by decide) ac_20 (by decide) ?_
  refine s_putf 61 rfl d_M_init_508 fl_M_140 (fun C T h => by cases h; exact Or.inr ⟨rfl, rfl, rfl, fk_M_140⟩) rfl (Or.inr (Or.inr (Or.inr (Or.inr ⟨_, rfl⟩)))) (fun h => nomatch h) (sf_42 hF.al_) ?_
  exact h
theorem b_M_init_511 {E : EV} {d : Nat} {Q : Option AV → St → Prop} {σ : St} (hF : Fix σ) (h : WP E m_M_init (d + 1) 520 [(0, aP 42)] [] (wr (al σ 20 200) 42 62 (nx σ)) Q) : WP E m_M_init (d + 1) 511 [(0, aP 42)] [] σ Q := by
  refine s_aload_n 0 d_M_init_511 rfl rfl ?_
  refine s_sipush d_M_init_512 (by decide) ?_
  refine s_newarray (kd := 20) d_M_init_515 (by decide) ac_20 (by decide) ?_
  refine s_putf 62 rfl d_M_init_517 fl_M_143 (fun C T h => by cases h; exact Or.inr ⟨rfl, rfl, rfl, fk_M_143⟩) rfl (Or.inr (Or.inr (Or.inr (Or.inr ⟨_, rfl⟩)))) (fun h => nomatch h) (sf_42 hF.al_) ?_
  exact h
theorem b_M_init_520 {E : EV} {d : Nat} {Q : Option AV → St → Prop} {σ : St} (hF : Fix σ) (h : WP E m_M_init (d + 1) 529 [(0, aP 42)] [] (wr (al σ 20 200) 42 63 (nx σ)) Q) : WP E m_M_init (d + 1) 520 [(0, aP 42)] [] σ Q := by
  refine s_aload_n 0 d_M_init_520 rfl rfl ?_
  refine s_sipush d_M_init_521 (by decide) ?_
  refine s_newarray (kd := 20) d_M_init_524 (by decide) ac_20 (by decide) ?_
  refine s_putf 63 rfl d_M_init_526 fl_M_146 (fun C T h => by cases h; exact Or.inr ⟨rfl, rfl, rfl, fk_M_146⟩) rfl (Or.inr (Or.inr (Or.inr (Or.inr ⟨_, rfl⟩)))) (fun h => nomatch h) (sf_42 hF.al_) ?_
  exact h
theorem b_M_init_529 {E : EV} {d : Nat} {Q : Option AV → St → Prop} {σ : St} (hF : Fix σ) (h : WP E m_M_init (d + 1) 538 [(0, aP 42)] [] (wr (al σ 20 200) 42 64 (nx σ)) Q) : WP E m_M_init (d + 1) 529 [(0, aP 42)] [] σ Q := by
  refine s_aload_n 0 d_M_init_529 rfl rfl ?_
  refine s_sipush d_M_init_530 (by decide) ?_
  refine s_newarray (kd := 20) d_M_init_533 (by decide) ac_20 (by decide) ?_
  refine s_putf 64 rfl d_M_init_535 fl_M_149 (fun C T h => by cases h; exact Or.inr ⟨rfl, rfl, rfl, fk_M_149⟩) rfl (Or.inr (Or.inr (Or.inr (Or.inr ⟨_, rfl⟩)))) (fun h => nomatch h) (sf_42 hF.al_) ?_
  exact h
theorem b_M_init_538 {E : EV} {d : Nat} {Q : Option AV → St → Prop} {σ : St} (hF : Fix σ) (h : WP E m_M_init (d + 1) 547 [(0, aP 42)] [] (wr (al σ 20 200) 42 65 (nx σ)) Q) : WP E m_M_init (d + 1) 538 [(0, aP 42)] [] σ Q := by
  refine s_aload_n 0 d_M_init_538 rfl rfl ?_
  refine s_sipush d_M_init_539 (by decide) ?_
  refine s_newarray (kd := 20) d_M_init_542 (by decide) ac_20 (by decide) ?_
  refine s_putf 65 rfl d_M_init_544 fl_M_152 (fun C T h => by cases h; exact Or.inr ⟨rfl, rfl, rfl, fk_M_152⟩) rfl (Or.inr (Or.inr (Or.inr (Or.inr ⟨_, rfl⟩)))) (fun h => nomatch h) (sf_42 hF.al_) ?_
  exact h
theorem b_M_init_547 {E : EV} {d : Nat} {Q : Option AV → St → Prop} {σ : St} (hF : Fix σ) (h : WP E m_M_init (d + 1) 555 [(0, aP 42)] [] (wr (al σ 20 8) 42 67 (nx σ)) Q) : WP E m_M_init (d + 1) 547 [(0, aP 42)] [] σ Q := by
  refine s_aload_n 0 d_M_init_547 rfl rfl ?_
  refine s_bipush d_M_init_548 (by decide) ?_
  refine s_newarray (kd := 20) d_M_init_550 (by decide) ac_20 (by decide) ?_
  refine s_putf 67 rfl d_M_init_552 fl_M_155 (fun C T h => by cases h; exact Or.inr ⟨rfl, rfl, rfl, fk_M_155⟩) rfl (Or.inr (Or.inr (Or.inr (Or.inr ⟨_, rfl⟩)))) (fun h => nomatch h) (sf_42 hF.al_) ?_
  exact h
theorem b_M_init_555 {E : EV} {d : Nat} {Q : Option AV → St → Prop} {σ : St} (hF : Fix σ) (h : WP E m_M_init (d + 1) 563 [(0, aP 42)] [] (wr (al σ 20 8) 42 68 (nx σ)) Q) : WP E m_M_init (d + 1) 555 [(0, aP 42)] [] σ Q := by
  refine s_aload_n 0 d_M_init_555 rfl rfl ?_
  refine s_bipush d_M_init_556 (by decide) ?_
  refine s_newarray (kd := 20) d_M_init_558 (by decide) ac_20 (by decide) ?_
  refine s_putf 68 rfl d_M_init_560 fl_M_158 (fun C T h => by cases h; exact Or.inr ⟨rfl, rfl, rfl, fk_M_158⟩) rfl (Or.inr (Or.inr (Or.inr (Or.inr ⟨_, rfl⟩)))) (fun h => nomatch h) (sf_42 hF.al_) ?_
  exact h
theorem b_M_init_563 {E : EV} {d : Nat} {Q : Option AV → St → Prop} {σ : St} (hF : Fix σ) (h : WP E m_M_init (d + 1) 571 [(0, aP 42)] [] (wr (al σ 20 8) 42 69 (nx σ)) Q) : WP E m_M_init (d + 1) 563 [(0, aP 42)] [] σ Q := by
  refine s_aload_n 0 d_M_init_563 rfl rfl ?_
  refine s_bipush d_M_init_564 (by decide) ?_
  refine s_newarray (kd := 20) d_M_init_566 (by decide) ac_20 (by decide) ?_
  refine s_putf 69 rfl d_M_init_568 fl_M_161 (fun C T h => by cases h; exact Or.inr ⟨rfl, rfl, rfl, fk_M_161⟩) rfl (Or.inr (Or.inr (Or.inr (Or.inr ⟨_, rfl⟩)))) (fun h => nomatch h) (sf_42 hF.al_) ?_
  exact h
theorem b_M_init_571 {E : EV} {d : Nat} {Q : Option AV → St → Prop} {σ : St} (hF : Fix σ) (h : WP E m_M_init (d + 1) 579 [(0, aP 42)] [] (wr (al σ 20 48) 42 73 (nx σ)) Q) : WP E m_M_init (d + 1) 571 [(0, aP 42)] [] σ Q := by
  refine s_aload_n 0 d_M_init_571 rfl rfl ?_
  refine s_bipush d_M_init_572 (by decide) ?_
  refine s_newarray (kd := 20) d_M_init_574 (by decide) ac_20 (by decide) ?_
  refine s_putf 73 rfl d_M_init_576 fl_M_164 (fun C T h => by cases h; exact Or.inr ⟨rfl, rfl, rfl, fk_M_164⟩) rfl (Or.inr (Or.inr (Or.inr (Or.inr ⟨_, rfl⟩)))) (fun h => nomatch h) (sf_42 hF.al_) ?_
  exact h
theorem b_M_init_579 {E : EV} {d : Nat} {Q : Option AV → St → Prop} {σ : St} (hF : Fix σ) (h : Q none (wr (wr σ 47 0 12) 47 1 1)) : WP E m_M_init (d + 1) 579 [(0, aP 42)] [] σ Q := by
  refine s_aload_n 0 d_M_init_579 rfl rfl ?_
  refine s_getF (v := 47) d_M_init_580 fl_M_26 rfl (sf_42 hF) (ff_32 hF) ?_
  refine s_iconst d_M_init_583 ?_
  refine s_bipush d_M_init_584 (by decide) ?_
  refine s_iastore d_M_init_586 ⟨_, sf_47 hF, by decide, by decide, by decide⟩ ?_
  refine s_aload_n 0 d_M_init_587 rfl rfl ?_
  refine s_getF (v := 47) d_M_init_588 fl_M_26 rfl (sf_42 (hF.wa (a := 47) (by decide))) (ff_32 (hF.wa (a := 47) (by decide))) ?_
  refine s_iconst d_M_init_591 ?_
  refine s_iconst d_M_init_592 ?_
  refine s_iastore d_M_init_593 ⟨_, sf_47 (hF.wa (a := 47) (by decide)), by decide, by decide, by decide⟩ ?_
  exact s_return d_M_init_594 rfl h
theorem d_M_box_0 : decode m_M_box.2.1 0 = .ok (.aload_n 0, 1) := by decide +kernel
theorem d_M_box_1 : decode m_M_box.2.1 1 = .ok (.iload_n 1, 1) := by decide +kernel
theorem d_M_box_2 : decode m_M_box.2.1 2 = .ok (.iload_n 2, 1) := by decide +kernel
theorem d_M_box_3 : decode m_M_box.2.1 3 = .ok (.iload_n 3, 1) := by decide +kernel
theorem d_M_box_4 : decode m_M_box.2.1 4 = .ok (.invokevirtual 257, 3) := by decide +kernel
theorem d_M_box_7 : decode m_M_box.2.1 7 = .ok (.istore 6, 2) := by decide +kernel
theorem d_M_box_9 : decode m_M_box.2.1 9 = .ok (.iload 6, 2) := by decide +kernel
theorem d_M_box_11 : decode m_M_box.2.1 11 = .ok (.iconst (-1), 1) := by decide +kernel
theorem d_M_box_12 : decode m_M_box.2.1 12 = .ok (.if_icmp .eq 23, 3) := by decide +kernel
theorem d_M_box_15 : decode m_M_box.2.1 15 = .ok (.iload 4, 2) := by decide +kernel
theorem d_M_box_17 : decode m_M_box.2.1 17 = .ok (.iconst 0, 1) := by decide +kernel
theorem d_M_box_18 : decode m_M_box.2.1 18 = .ok (.iconst 4, 1) := by decide +kernel
theorem d_M_box_19 : decode m_M_box.2.1 19 = .ok (.invokestatic 167, 3) := by decide +kernel
theorem d_M_box_22 : decode m_M_box.2.1 22 = .ok (.ifCond .eq 13, 3) := by decide +kernel
theorem d_M_box_25 : decode m_M_box.2.1 25 = .ok (.iload 5, 2) := by decide +kernel
theorem d_M_box_27 : decode m_M_box.2.1 27 = .ok (.iconst 0, 1) := by decide +kernel
theorem d_M_box_28 : decode m_M_box.2.1 28 = .ok (.iconst 1, 1) := by decide +kernel
theorem d_M_box_29 : decode m_M_box.2.1 29 = .ok (.invokestatic 167, 3) := by decide +kernel
theorem d_M_box_32 : decode m_M_box.2.1 32 = .ok (.ifCond .ne 7, 3) := by decide +kernel
theorem d_M_box_35 : decode m_M_box.2.1 35 = .ok (.ldc2_w 261, 3) := by decide +kernel
theorem d_M_box_38 : decode m_M_box.2.1 38 = .ok (.lreturn, 1) := by decide +kernel
theorem d_M_box_39 : decode m_M_box.2.1 39 = .ok (.aload_n 0, 1) := by decide +kernel
theorem d_M_box_40 : decode m_M_box.2.1 40 = .ok (.invokevirtual 263, 3) := by decide +kernel
theorem d_M_box_43 : decode m_M_box.2.1 43 = .ok (.aload_n 0, 1) := by decide +kernel
theorem d_M_box_44 : decode m_M_box.2.1 44 = .ok (.iload 6, 2) := by decide +kernel
theorem d_M_box_46 : decode m_M_box.2.1 46 = .ok (.iload 4, 2) := by decide +kernel
theorem d_M_box_48 : decode m_M_box.2.1 48 = .ok (.aload_n 0, 1) := by decide +kernel
theorem d_M_box_49 : decode m_M_box.2.1 49 = .ok (.iload_n 1, 1) := by decide +kernel
theorem d_M_box_50 : decode m_M_box.2.1 50 = .ok (.invokevirtual 266, 3) := by decide +kernel
theorem d_M_box_53 : decode m_M_box.2.1 53 = .ok (.invokevirtual 269, 3) := by decide +kernel
theorem d_M_box_56 : decode m_M_box.2.1 56 = .ok (.aload_n 0, 1) := by decide +kernel
theorem d_M_box_57 : decode m_M_box.2.1 57 = .ok (.iload 5, 2) := by decide +kernel
theorem d_M_box_59 : decode m_M_box.2.1 59 = .ok (.invokevirtual 273, 3) := by decide +kernel
theorem d_M_box_62 : decode m_M_box.2.1 62 = .ok (.lreturn, 1) := by decide +kernel
theorem b_M_box_0 {E : EV} {d : Nat} {Q : Option AV → St → Prop} {σ : St} (x1 x2 x3 x4 x5 : Int) (hF : Fix σ) (h : (WMi E m_M_takesSign d [aP 42, aI x1, aI x2, aI x3] σ (fun v1 σ1 => Fix σ1 ∧ (rI v1) ∧ ((v1 = (-1) → Q (some (aL (-1))) σ1) ∧ (¬ v1 = (-1) → (WMi E m_M_in d [aI x4, aI 0, aI 4] σ1 (fun v3 σ3 => Fix σ3 ∧ (rI v3) ∧ ((v3 = 0 → Q (some (aL (-1))) σ3) ∧ (¬ v3 = 0 → (WMi E m_M_in d [aI x5, aI 0, aI 1] σ3 (fun v5 σ5 => Fix σ5 ∧ (rI v5) ∧ ((¬ v5 = 0 → (WMv E m_M_places d [aP 42] σ5 (fun σ7 => Fix σ7 ∧ (WMi E m_M_isLeft d [aP 42, aI x1] σ7 (fun v8 σ8 => Fix σ8 ∧ (WMv E m_M_boxOf d [aP 42, aI v1, aI x4, aI v8] σ8 (fun σ9 => Fix σ9 ∧ (WMl E m_M_term d [aP 42, aI x5] σ9 (fun v10 σ10 => Q (some (aL v10)) σ10))))))))) ∧ (v5 = 0 → Q (some (aL (-1))) σ5))))))))))))) : WP E m_M_box (d + 1) 0 [(0, aP 42), (1, aI x1), (2, aI x2), (3, aI x3), (4, aI x4), (5, aI x5)] [] σ Q := by
  refine s_aload_n 0 d_M_box_0 rfl rfl ?_
  refine s_iload_n 1 d_M_box_1 rfl rfl ?_
  refine s_iload_n 2 d_M_box_2 rfl rfl ?_
  refine s_iload_n 3 d_M_box_3 rfl rfl ?_
  refine s_callV (as := [aI x1, aI x2, aI x3]) (ci := 10) d_M_box_4 ok_M_takesSign lk_M_257 io_M_takesSign so_M_takesSign (by decide) rfl rfl rfl (Nat.le_of_ble_eq_true rfl) rfl (sf_42 hF) (WM.mono h ?_)
  rintro _ σ1 ⟨v1, rfl, hp, h⟩
  obtain ⟨hF1, h⟩ := h
  show WP E m_M_box (d + 1) 7 [(0, aP 42), (1, aI x1), (2, aI x2), (3, aI x3), (4, aI x4), (5, aI x5)] [aI v1] σ1 Q
  refine s_istore d_M_box_7 (by decide) rfl ?_
  refine s_iload 0 d_M_box_9 rfl ?_
  refine s_iconst d_M_box_11 ?_
  obtain ⟨g2, h⟩ := h
  refine s_icmp_eq d_M_box_12 rfl g2 (by decide) (fun c => ?_) (fun c => ?_)
  · have h := h.1 c
    refine s_ldc2 (v := -1) d_M_box_35 ll_M_261 (by decide) ?_
    exact s_lreturn d_M_box_38 rfl h
  · have h := h.2 c
    refine s_iload 5 d_M_box_15 rfl ?_
    refine s_iconst d_M_box_17 ?_
    refine s_iconst d_M_box_18 ?_
    refine s_callS (as := [aI x4, aI 0, aI 4]) d_M_box_19 ok_M_in lk_M_167 to_M_in rfl (Nat.le_of_ble_eq_true rfl) rfl (WM.mono h ?_)
    rintro _ σ3 ⟨v3, rfl, hp, h⟩
    obtain ⟨hF3, h⟩ := h
    show WP E m_M_box (d + 1) 22 [(6, aI v1), (0, aP 42), (1, aI x1), (2, aI x2), (3, aI x3), (4, aI x4), (5, aI x5)] [aI v3] σ3 Q
    obtain ⟨g4, h⟩ := h
    refine s_if_eq d_M_box_22 rfl g4 (fun c => ?_) (fun c => ?_)
    · have h := h.1 c
      refine s_ldc2 (v := -1) d_M_box_35 ll_M_261 (by decide) ?_
      exact s_lreturn d_M_box_38 rfl h
    · have h := h.2 c
      refine s_iload 6 d_M_box_25 rfl ?_
      refine s_iconst d_M_box_27 ?_
      refine s_iconst d_M_box_28 ?_
      refine s_callS (as := [aI x5, aI 0, aI 1]) d_M_box_29 ok_M_in lk_M_167 to_M_in rfl (Nat.le_of_ble_eq_true rfl) rfl (WM.mono h ?_)
      rintro _ σ5 ⟨v5, rfl, hp, h⟩
      obtain ⟨hF5, h⟩ := h
      show WP E m_M_box (d + 1) 32 [(6, aI v1), (0, aP 42), (1, aI x1), (2, aI x2), (3, aI x3), (4, aI x4), (5, aI x5)] [aI v5] σ5 Q
      obtain ⟨g6, h⟩ := h
      refine s_if_ne d_M_box_32 rfl g6 (fun c => ?_) (fun c => ?_)
      · have h := h.1 c
        refine s_aload_n 1 d_M_box_39 rfl rfl ?_
        refine s_callV (as := []) (ci := 10) d_M_box_40 ok_M_places lk_M_263 io_M_places so_M_places (by decide) rfl rfl rfl (Nat.le_of_ble_eq_true rfl) rfl (sf_42 hF5) (WM.mono h ?_)
        rintro _ σ7 ⟨rfl, hp, h⟩
        obtain ⟨hF7, h⟩ := h
        show WP E m_M_box (d + 1) 43 [(6, aI v1), (0, aP 42), (1, aI x1), (2, aI x2), (3, aI x3), (4, aI x4), (5, aI x5)] [] σ7 Q
        refine s_aload_n 1 d_M_box_43 rfl rfl ?_
        refine s_iload 0 d_M_box_44 rfl ?_
        refine s_iload 5 d_M_box_46 rfl ?_
        refine s_aload_n 1 d_M_box_48 rfl rfl ?_
        refine s_iload_n 2 d_M_box_49 rfl rfl ?_
        refine s_callV (as := [aI x1]) (ci := 10) d_M_box_50 ok_M_isLeft lk_M_266 io_M_isLeft so_M_isLeft (by decide) rfl rfl rfl (Nat.le_of_ble_eq_true rfl) rfl (sf_42 hF7) (WM.mono h ?_)
        rintro _ σ8 ⟨v8, rfl, hp, h⟩
        obtain ⟨hF8, h⟩ := h
        show WP E m_M_box (d + 1) 53 [(6, aI v1), (0, aP 42), (1, aI x1), (2, aI x2), (3, aI x3), (4, aI x4), (5, aI x5)] [aI v8, aI x4, aI v1, aP 42] σ8 Q
        refine s_callV (as := [aI v1, aI x4, aI v8]) (ci := 10) d_M_box_53 ok_M_boxOf lk_M_269 io_M_boxOf so_M_boxOf (by decide) rfl rfl rfl (Nat.le_of_ble_eq_true rfl) rfl (sf_42 hF8) (WM.mono h ?_)
        rintro _ σ9 ⟨rfl, hp, h⟩
        obtain ⟨hF9, h⟩ := h
        show WP E m_M_box (d + 1) 56 [(6, aI v1), (0, aP 42), (1, aI x1), (2, aI x2), (3, aI x3), (4, aI x4), (5, aI x5)] [] σ9 Q
        refine s_aload_n 1 d_M_box_56 rfl rfl ?_
        refine s_iload 6 d_M_box_57 rfl ?_
        refine s_callV (as := [aI x5]) (ci := 10) d_M_box_59 ok_M_term lk_M_273 io_M_term so_M_term (by decide) rfl rfl rfl (Nat.le_of_ble_eq_true rfl) rfl (sf_42 hF9) (WM.mono h ?_)
        rintro _ σ10 ⟨v10, rfl, hp, h⟩
        show WP E m_M_box (d + 1) 62 [(6, aI v1), (0, aP 42), (1, aI x1), (2, aI x2), (3, aI x3), (4, aI x4), (5, aI x5)] [aL v10] σ10 Q
        exact s_lreturn d_M_box_62 rfl h
      · have h := h.2 c
        refine s_ldc2 (v := -1) d_M_box_35 ll_M_261 (by decide) ?_
        exact s_lreturn d_M_box_38 rfl h
theorem e_M_box {E : EV} {d : Nat} {Q : Option AV → St → Prop} {σ : St} (x1 x2 x3 x4 x5 : Int) (hF : Fix σ) (h : (WMi E m_M_takesSign d [aP 42, aI x1, aI x2, aI x3] σ (fun v1 σ1 => Fix σ1 ∧ (rI v1) ∧ ((v1 = (-1) → Q (some (aL (-1))) σ1) ∧ (¬ v1 = (-1) → (WMi E m_M_in d [aI x4, aI 0, aI 4] σ1 (fun v3 σ3 => Fix σ3 ∧ (rI v3) ∧ ((v3 = 0 → Q (some (aL (-1))) σ3) ∧ (¬ v3 = 0 → (WMi E m_M_in d [aI x5, aI 0, aI 1] σ3 (fun v5 σ5 => Fix σ5 ∧ (rI v5) ∧ ((¬ v5 = 0 → (WMv E m_M_places d [aP 42] σ5 (fun σ7 => Fix σ7 ∧ (WMi E m_M_isLeft d [aP 42, aI x1] σ7 (fun v8 σ8 => Fix σ8 ∧ (WMv E m_M_boxOf d [aP 42, aI v1, aI x4, aI v8] σ8 (fun σ9 => Fix σ9 ∧ (WMl E m_M_term d [aP 42, aI x5] σ9 (fun v10 σ10 => Q (some (aL v10)) σ10))))))))) ∧ (v5 = 0 → Q (some (aL (-1))) σ5))))))))))))) : WM E m_M_box (d + 1) [aP 42, aI x1, aI x2, aI x3, aI x4, aI x5] σ Q := s_meth (by decide) (Nat.le_of_ble_eq_true rfl) rfl (b_M_box_0 x1 x2 x3 x4 x5 hF h)
theorem d_M_takesSign_0 : decode m_M_takesSign.2.1 0 = .ok (.aload_n 0, 1) := by decide +kernel
theorem d_M_takesSign_1 : decode m_M_takesSign.2.1 1 = .ok (.iload_n 1, 1) := by decide +kernel
theorem d_M_takesSign_2 : decode m_M_takesSign.2.1 2 = .ok (.iload_n 2, 1) := by decide +kernel
theorem d_M_takesSign_3 : decode m_M_takesSign.2.1 3 = .ok (.invokevirtual 206, 3) := by decide +kernel
theorem d_M_takesSign_6 : decode m_M_takesSign.2.1 6 = .ok (.ifCond .eq 7, 3) := by decide +kernel
theorem d_M_takesSign_9 : decode m_M_takesSign.2.1 9 = .ok (.iload_n 3, 1) := by decide +kernel
theorem d_M_takesSign_10 : decode m_M_takesSign.2.1 10 = .ok (.ifCond .ge 5, 3) := by decide +kernel
theorem d_M_takesSign_13 : decode m_M_takesSign.2.1 13 = .ok (.iconst (-1), 1) := by decide +kernel
theorem d_M_takesSign_14 : decode m_M_takesSign.2.1 14 = .ok (.ireturn, 1) := by decide +kernel
theorem d_M_takesSign_15 : decode m_M_takesSign.2.1 15 = .ok (.aload_n 0, 1) := by decide +kernel
theorem d_M_takesSign_16 : decode m_M_takesSign.2.1 16 = .ok (.iload_n 1, 1) := by decide +kernel
theorem d_M_takesSign_17 : decode m_M_takesSign.2.1 17 = .ok (.iload_n 2, 1) := by decide +kernel
theorem d_M_takesSign_18 : decode m_M_takesSign.2.1 18 = .ok (.invokevirtual 210, 3) := by decide +kernel
theorem d_M_takesSign_21 : decode m_M_takesSign.2.1 21 = .ok (.aload_n 0, 1) := by decide +kernel
theorem d_M_takesSign_22 : decode m_M_takesSign.2.1 22 = .ok (.iload_n 3, 1) := by decide +kernel
theorem d_M_takesSign_23 : decode m_M_takesSign.2.1 23 = .ok (.invokevirtual 214, 3) := by decide +kernel
theorem d_M_takesSign_26 : decode m_M_takesSign.2.1 26 = .ok (.ireturn, 1) := by decide +kernel
theorem b_M_takesSign_0 {E : EV} {d : Nat} {Q : Option AV → St → Prop} {σ : St} (x1 x2 x3 : Int) (hF : Fix σ) (h : (WMi E m_M_isSquare d [aP 42, aI x1, aI x2] σ (fun v1 σ1 => Fix σ1 ∧ (rI v1) ∧ ((v1 = 0 → Q (some (aI (-1))) σ1) ∧ (¬ v1 = 0 → (rI x3) ∧ ((0 ≤ x3 → (WMv E m_M_takes d [aP 42, aI x1, aI x2] σ1 (fun σ4 => Fix σ4 ∧ (WMi E m_M_nodeOf d [aP 42, aI x3] σ4 (fun v5 σ5 => Q (some (aI v5)) σ5))))) ∧ (¬ 0 ≤ x3 → Q (some (aI (-1))) σ1))))))) : WP E m_M_takesSign (d + 1) 0 [(0, aP 42), (1, aI x1), (2, aI x2), (3, aI x3)] [] σ Q := by
  refine s_aload_n 0 d_M_takesSign_0 rfl rfl ?_
  refine s_iload_n 1 d_M_takesSign_1 rfl rfl ?_
  refine s_iload_n 2 d_M_takesSign_2 rfl rfl ?_
  refine s_callV (as := [aI x1, aI x2]) (ci := 10) d_M_takesSign_3 ok_M_isSquare lk_M_206 io_M_isSquare so_M_isSquare (by decide) rfl rfl rfl (Nat.le_of_ble_eq_true rfl) rfl (sf_42 hF) (WM.mono h ?_)
  rintro _ σ1 ⟨v1, rfl, hp, h⟩
  obtain ⟨hF1, h⟩ := h
  show WP E m_M_takesSign (d + 1) 6 [(0, aP 42), (1, aI x1), (2, aI x2), (3, aI x3)] [aI v1] σ1 Q
  obtain ⟨g2, h⟩ := h
  refine s_if_eq d_M_takesSign_6 rfl g2 (fun c => ?_) (fun c => ?_)
  · have h := h.1 c
    refine s_iconst d_M_takesSign_13 ?_
    exact s_ireturn d_M_takesSign_14 rfl h
  · have h := h.2 c
    refine s_iload_n 3 d_M_takesSign_9 rfl rfl ?_
    obtain ⟨g3, h⟩ := h
    refine s_if_ge d_M_takesSign_10 rfl g3 (fun c => ?_) (fun c => ?_)
    · have h := h.1 c
      refine s_aload_n 0 d_M_takesSign_15 rfl rfl ?_
      refine s_iload_n 1 d_M_takesSign_16 rfl rfl ?_
      refine s_iload_n 2 d_M_takesSign_17 rfl rfl ?_
      refine s_callV (as := [aI x1, aI x2]) (ci := 10) d_M_takesSign_18 ok_M_takes lk_M_210 io_M_takes so_M_takes (by decide) rfl rfl rfl (Nat.le_of_ble_eq_true rfl) rfl (sf_42 hF1) (WM.mono h ?_)
      rintro _ σ4 ⟨rfl, hp, h⟩
      obtain ⟨hF4, h⟩ := h
      show WP E m_M_takesSign (d + 1) 21 [(0, aP 42), (1, aI x1), (2, aI x2), (3, aI x3)] [] σ4 Q
      refine s_aload_n 0 d_M_takesSign_21 rfl rfl ?_
      refine s_iload_n 3 d_M_takesSign_22 rfl rfl ?_
      refine s_callV (as := [aI x3]) (ci := 10) d_M_takesSign_23 ok_M_nodeOf lk_M_214 io_M_nodeOf so_M_nodeOf (by decide) rfl rfl rfl (Nat.le_of_ble_eq_true rfl) rfl (sf_42 hF4) (WM.mono h ?_)
      rintro _ σ5 ⟨v5, rfl, hp, h⟩
      show WP E m_M_takesSign (d + 1) 26 [(0, aP 42), (1, aI x1), (2, aI x2), (3, aI x3)] [aI v5] σ5 Q
      exact s_ireturn d_M_takesSign_26 rfl h
    · have h := h.2 c
      refine s_iconst d_M_takesSign_13 ?_
      exact s_ireturn d_M_takesSign_14 rfl h
theorem e_M_takesSign {E : EV} {d : Nat} {Q : Option AV → St → Prop} {σ : St} (x1 x2 x3 : Int) (hF : Fix σ) (h : (WMi E m_M_isSquare d [aP 42, aI x1, aI x2] σ (fun v1 σ1 => Fix σ1 ∧ (rI v1) ∧ ((v1 = 0 → Q (some (aI (-1))) σ1) ∧ (¬ v1 = 0 → (rI x3) ∧ ((0 ≤ x3 → (WMv E m_M_takes d [aP 42, aI x1, aI x2] σ1 (fun σ4 => Fix σ4 ∧ (WMi E m_M_nodeOf d [aP 42, aI x3] σ4 (fun v5 σ5 => Q (some (aI v5)) σ5))))) ∧ (¬ 0 ≤ x3 → Q (some (aI (-1))) σ1))))))) : WM E m_M_takesSign (d + 1) [aP 42, aI x1, aI x2, aI x3] σ Q := s_meth (by decide) (Nat.le_of_ble_eq_true rfl) rfl (b_M_takesSign_0 x1 x2 x3 hF h)
theorem d_M_isSquare_0 : decode m_M_isSquare.2.1 0 = .ok (.aload_n 0, 1) := by decide +kernel
theorem d_M_isSquare_1 : decode m_M_isSquare.2.1 1 = .ok (.iload_n 1, 1) := by decide +kernel
theorem d_M_isSquare_2 : decode m_M_isSquare.2.1 2 = .ok (.invokevirtual 174, 3) := by decide +kernel
theorem d_M_isSquare_5 : decode m_M_isSquare.2.1 5 = .ok (.ifCond .eq 22, 3) := by decide +kernel
theorem d_M_isSquare_8 : decode m_M_isSquare.2.1 8 = .ok (.iload_n 2, 1) := by decide +kernel
theorem d_M_isSquare_9 : decode m_M_isSquare.2.1 9 = .ok (.iconst 0, 1) := by decide +kernel
theorem d_M_isSquare_10 : decode m_M_isSquare.2.1 10 = .ok (.aload_n 0, 1) := by decide +kernel
theorem d_M_isSquare_11 : decode m_M_isSquare.2.1 11 = .ok (.iload_n 1, 1) := by decide +kernel
theorem d_M_isSquare_12 : decode m_M_isSquare.2.1 12 = .ok (.invokevirtual 178, 3) := by decide +kernel
theorem d_M_isSquare_15 : decode m_M_isSquare.2.1 15 = .ok (.iconst 1, 1) := by decide +kernel
theorem d_M_isSquare_16 : decode m_M_isSquare.2.1 16 = .ok (.isub, 1) := by decide +kernel
theorem d_M_isSquare_17 : decode m_M_isSquare.2.1 17 = .ok (.invokestatic 167, 3) := by decide +kernel
theorem d_M_isSquare_20 : decode m_M_isSquare.2.1 20 = .ok (.ifCond .eq 7, 3) := by decide +kernel
theorem d_M_isSquare_23 : decode m_M_isSquare.2.1 23 = .ok (.iconst 1, 1) := by decide +kernel
theorem d_M_isSquare_24 : decode m_M_isSquare.2.1 24 = .ok (.goto 4, 3) := by decide +kernel
theorem d_M_isSquare_27 : decode m_M_isSquare.2.1 27 = .ok (.iconst 0, 1) := by decide +kernel
theorem d_M_isSquare_28 : decode m_M_isSquare.2.1 28 = .ok (.ireturn, 1) := by decide +kernel
theorem b_M_isSquare_0 {E : EV} {d : Nat} {Q : Option AV → St → Prop} {σ : St} (x1 x2 : Int) (hF : Fix σ) (h : (WMi E m_M_isLine d [aP 42, aI x1] σ (fun v1 σ1 => Fix σ1 ∧ (rI v1) ∧ ((v1 = 0 → Q (some (aI 0)) σ1) ∧ (¬ v1 = 0 → (WMi E m_M_squaresOf d [aP 42, aI x1] σ1 (fun v3 σ3 => (WMi E m_M_in d [aI x2, aI 0, aI (v3 - 1)] σ3 (fun v4 σ4 => (rI v4) ∧ ((v4 = 0 → Q (some (aI 0)) σ4) ∧ (¬ v4 = 0 → Q (some (aI 1)) σ4))))))))))) : WP E m_M_isSquare (d + 1) 0 [(0, aP 42), (1, aI x1), (2, aI x2)] [] σ Q := by
  refine s_aload_n 0 d_M_isSquare_0 rfl rfl ?_
  refine s_iload_n 1 d_M_isSquare_1 rfl rfl ?_
  refine s_callV (as := [aI x1]) (ci := 10) d_M_isSquare_2 ok_M_isLine lk_M_174 io_M_isLine so_M_isLine (by decide) rfl rfl rfl (Nat.le_of_ble_eq_true rfl) rfl (sf_42 hF) (WM.mono h ?_)
  rintro _ σ1 ⟨v1, rfl, hp, h⟩
  obtain ⟨hF1, h⟩ := h
  show WP E m_M_isSquare (d + 1) 5 [(0, aP 42), (1, aI x1), (2, aI x2)] [aI v1] σ1 Q
  obtain ⟨g2, h⟩ := h
  refine s_if_eq d_M_isSquare_5 rfl g2 (fun c => ?_) (fun c => ?_)
  · have h := h.1 c
    refine s_iconst d_M_isSquare_27 ?_
    exact s_zreturn d_M_isSquare_28 rfl (by decide) h
  · have h := h.2 c
    refine s_iload_n 2 d_M_isSquare_8 rfl rfl ?_
    refine s_iconst d_M_isSquare_9 ?_
    refine s_aload_n 0 d_M_isSquare_10 rfl rfl ?_
    refine s_iload_n 1 d_M_isSquare_11 rfl rfl ?_
    refine s_callV (as := [aI x1]) (ci := 10) d_M_isSquare_12 ok_M_squaresOf lk_M_178 io_M_squaresOf so_M_squaresOf (by decide) rfl rfl rfl (Nat.le_of_ble_eq_true rfl) rfl (sf_42 hF1) (WM.mono h ?_)
    rintro _ σ3 ⟨v3, rfl, hp, h⟩
    show WP E m_M_isSquare (d + 1) 15 [(0, aP 42), (1, aI x1), (2, aI x2)] [aI v3, aI 0, aI x2] σ3 Q
    refine s_iconst d_M_isSquare_15 ?_
    refine s_isub d_M_isSquare_16 ?_
    refine s_callS (as := [aI x2, aI 0, aI (v3 - 1)]) d_M_isSquare_17 ok_M_in lk_M_167 to_M_in rfl (Nat.le_of_ble_eq_true rfl) rfl (WM.mono h ?_)
    rintro _ σ4 ⟨v4, rfl, hp, h⟩
    show WP E m_M_isSquare (d + 1) 20 [(0, aP 42), (1, aI x1), (2, aI x2)] [aI v4] σ4 Q
    obtain ⟨g5, h⟩ := h
    refine s_if_eq d_M_isSquare_20 rfl g5 (fun c => ?_) (fun c => ?_)
    · have h := h.1 c
      refine s_iconst d_M_isSquare_27 ?_
      exact s_zreturn d_M_isSquare_28 rfl (by decide) h
    · have h := h.2 c
      refine s_iconst d_M_isSquare_23 ?_
      refine s_goto d_M_isSquare_24 rfl ?_
      exact s_zreturn d_M_isSquare_28 rfl (by decide) h
theorem e_M_isSquare {E : EV} {d : Nat} {Q : Option AV → St → Prop} {σ : St} (x1 x2 : Int) (hF : Fix σ) (h : (WMi E m_M_isLine d [aP 42, aI x1] σ (fun v1 σ1 => Fix σ1 ∧ (rI v1) ∧ ((v1 = 0 → Q (some (aI 0)) σ1) ∧ (¬ v1 = 0 → (WMi E m_M_squaresOf d [aP 42, aI x1] σ1 (fun v3 σ3 => (WMi E m_M_in d [aI x2, aI 0, aI (v3 - 1)] σ3 (fun v4 σ4 => (rI v4) ∧ ((v4 = 0 → Q (some (aI 0)) σ4) ∧ (¬ v4 = 0 → Q (some (aI 1)) σ4))))))))))) : WM E m_M_isSquare (d + 1) [aP 42, aI x1, aI x2] σ Q := s_meth (by decide) (Nat.le_of_ble_eq_true rfl) rfl (b_M_isSquare_0 x1 x2 hF h)
theorem d_M_isLine_0 : decode m_M_isLine.2.1 0 = .ok (.iload_n 1, 1) := by decide +kernel
theorem d_M_isLine_1 : decode m_M_isLine.2.1 1 = .ok (.iconst 0, 1) := by decide +kernel
theorem d_M_isLine_2 : decode m_M_isLine.2.1 2 = .ok (.aload_n 0, 1) := by decide +kernel
theorem d_M_isLine_3 : decode m_M_isLine.2.1 3 = .ok (.getfield 26, 3) := by decide +kernel
theorem d_M_isLine_6 : decode m_M_isLine.2.1 6 = .ok (.iconst 2, 1) := by decide +kernel
theorem d_M_isLine_7 : decode m_M_isLine.2.1 7 = .ok (.iaload, 1) := by decide +kernel
theorem d_M_isLine_8 : decode m_M_isLine.2.1 8 = .ok (.iconst 1, 1) := by decide +kernel
theorem d_M_isLine_9 : decode m_M_isLine.2.1 9 = .ok (.isub, 1) := by decide +kernel
theorem d_M_isLine_10 : decode m_M_isLine.2.1 10 = .ok (.invokestatic 167, 3) := by decide +kernel
theorem d_M_isLine_13 : decode m_M_isLine.2.1 13 = .ok (.ireturn, 1) := by decide +kernel
theorem b_M_isLine_0 {E : EV} {d : Nat} {Q : Option AV → St → Prop} {σ : St} (x1 : Int) (hF : Fix σ) (h : (WMi E m_M_in d [aI x1, aI 0, aI ((σ.1 47 2) - 1)] σ (fun v1 σ1 => (v1 = 0 ∨ v1 = 1) ∧ Q (some (aI v1)) σ1))) : WP E m_M_isLine (d + 1) 0 [(0, aP 42), (1, aI x1)] [] σ Q := by
  refine s_iload_n 1 d_M_isLine_0 rfl rfl ?_
  refine s_iconst d_M_isLine_1 ?_
  refine s_aload_n 0 d_M_isLine_2 rfl rfl ?_
  refine s_getF (v := 47) d_M_isLine_3 fl_M_26 rfl (sf_42 hF) (ff_32 hF) ?_
  refine s_iconst d_M_isLine_6 ?_
  refine s_ialoadv (v := σ.1 47 2) d_M_isLine_7 ⟨_, sf_47 hF, by decide, by decide, by decide⟩ rfl ?_
  refine s_iconst d_M_isLine_8 ?_
  refine s_isub d_M_isLine_9 ?_
  refine s_callS (as := [aI x1, aI 0, aI ((σ.1 47 2) - 1)]) d_M_isLine_10 ok_M_in lk_M_167 to_M_in rfl (Nat.le_of_ble_eq_true rfl) rfl (WM.mono h ?_)
  rintro _ σ1 ⟨v1, rfl, hp, h⟩
  show WP E m_M_isLine (d + 1) 13 [(0, aP 42), (1, aI x1)] [aI v1] σ1 Q
  obtain ⟨g2, h⟩ := h
  exact s_zreturn d_M_isLine_13 rfl g2 h
theorem e_M_isLine {E : EV} {d : Nat} {Q : Option AV → St → Prop} {σ : St} (x1 : Int) (hF : Fix σ) (h : (WMi E m_M_in d [aI x1, aI 0, aI ((σ.1 47 2) - 1)] σ (fun v1 σ1 => (v1 = 0 ∨ v1 = 1) ∧ Q (some (aI v1)) σ1))) : WM E m_M_isLine (d + 1) [aP 42, aI x1] σ Q := s_meth (by decide) (Nat.le_of_ble_eq_true rfl) rfl (b_M_isLine_0 x1 hF h)
theorem d_M_in_0 : decode m_M_in.2.1 0 = .ok (.iload_n 0, 1) := by decide +kernel
theorem d_M_in_1 : decode m_M_in.2.1 1 = .ok (.iload_n 1, 1) := by decide +kernel
theorem d_M_in_2 : decode m_M_in.2.1 2 = .ok (.if_icmp .lt 12, 3) := by decide +kernel
theorem d_M_in_5 : decode m_M_in.2.1 5 = .ok (.iload_n 0, 1) := by decide +kernel
theorem d_M_in_6 : decode m_M_in.2.1 6 = .ok (.iload_n 2, 1) := by decide +kernel
theorem d_M_in_7 : decode m_M_in.2.1 7 = .ok (.if_icmp .gt 7, 3) := by decide +kernel
theorem d_M_in_10 : decode m_M_in.2.1 10 = .ok (.iconst 1, 1) := by decide +kernel
theorem d_M_in_11 : decode m_M_in.2.1 11 = .ok (.goto 4, 3) := by decide +kernel
theorem d_M_in_14 : decode m_M_in.2.1 14 = .ok (.iconst 0, 1) := by decide +kernel
theorem d_M_in_15 : decode m_M_in.2.1 15 = .ok (.ireturn, 1) := by decide +kernel
theorem b_M_in_0 {E : EV} {d : Nat} {Q : Option AV → St → Prop} {σ : St} (x0 x1 x2 : Int) (h : (rI x0) ∧ (rI x1) ∧ ((x0 < x1 → Q (some (aI 0)) σ) ∧ (¬ x0 < x1 → (rI x0) ∧ (rI x2) ∧ ((x2 < x0 → Q (some (aI 0)) σ) ∧ (¬ x2 < x0 → Q (some (aI 1)) σ))))) : WP E m_M_in d 0 [(0, aI x0), (1, aI x1), (2, aI x2)] [] σ Q := by
  refine s_iload_n 0 d_M_in_0 rfl rfl ?_
  refine s_iload_n 1 d_M_in_1 rfl rfl ?_
  obtain ⟨g1, h⟩ := h
  obtain ⟨g2, h⟩ := h
  refine s_icmp_lt d_M_in_2 rfl g1 g2 (fun c => ?_) (fun c => ?_)
  · have h := h.1 c
    refine s_iconst d_M_in_14 ?_
    exact s_zreturn d_M_in_15 rfl (by decide) h
  · have h := h.2 c
    refine s_iload_n 0 d_M_in_5 rfl rfl ?_
    refine s_iload_n 2 d_M_in_6 rfl rfl ?_
    obtain ⟨g3, h⟩ := h
    obtain ⟨g4, h⟩ := h
    refine s_icmp_gt d_M_in_7 rfl g3 g4 (fun c => ?_) (fun c => ?_)
    · have h := h.1 c
      refine s_iconst d_M_in_14 ?_
      exact s_zreturn d_M_in_15 rfl (by decide) h
    · have h := h.2 c
      refine s_iconst d_M_in_10 ?_
      refine s_goto d_M_in_11 rfl ?_
      exact s_zreturn d_M_in_15 rfl (by decide) h
theorem e_M_in {E : EV} {d : Nat} {Q : Option AV → St → Prop} {σ : St} (x0 x1 x2 : Int) (h : (rI x0) ∧ (rI x1) ∧ ((x0 < x1 → Q (some (aI 0)) σ) ∧ (¬ x0 < x1 → (rI x0) ∧ (rI x2) ∧ ((x2 < x0 → Q (some (aI 0)) σ) ∧ (¬ x2 < x0 → Q (some (aI 1)) σ))))) : WM E m_M_in d [aI x0, aI x1, aI x2] σ Q := s_meth (by decide) (Nat.le_of_ble_eq_true rfl) rfl (b_M_in_0 x0 x1 x2 h)
theorem d_M_squaresOf_0 : decode m_M_squaresOf.2.1 0 = .ok (.aload_n 0, 1) := by decide +kernel
theorem d_M_squaresOf_1 : decode m_M_squaresOf.2.1 1 = .ok (.getfield 26, 3) := by decide +kernel
theorem d_M_squaresOf_4 : decode m_M_squaresOf.2.1 4 = .ok (.iconst 3, 1) := by decide +kernel
theorem d_M_squaresOf_5 : decode m_M_squaresOf.2.1 5 = .ok (.sipush 170, 3) := by decide +kernel
theorem d_M_squaresOf_8 : decode m_M_squaresOf.2.1 8 = .ok (.iload_n 1, 1) := by decide +kernel
theorem d_M_squaresOf_9 : decode m_M_squaresOf.2.1 9 = .ok (.imul, 1) := by decide +kernel
theorem d_M_squaresOf_10 : decode m_M_squaresOf.2.1 10 = .ok (.iadd, 1) := by decide +kernel
theorem d_M_squaresOf_11 : decode m_M_squaresOf.2.1 11 = .ok (.iaload, 1) := by decide +kernel
theorem d_M_squaresOf_12 : decode m_M_squaresOf.2.1 12 = .ok (.ireturn, 1) := by decide +kernel
theorem b_M_squaresOf_0 {E : EV} {d : Nat} {Q : Option AV → St → Prop} {σ : St} (x1 : Int) (hF : Fix σ) (h : (0 ≤ (3 + (170 * x1)) ∧ (3 + (170 * x1)) < 683) ∧ Q (some (aI (σ.1 47 (3 + (170 * x1))))) σ) : WP E m_M_squaresOf d 0 [(0, aP 42), (1, aI x1)] [] σ Q := by
  refine s_aload_n 0 d_M_squaresOf_0 rfl rfl ?_
  refine s_getF (v := 47) d_M_squaresOf_1 fl_M_26 rfl (sf_42 hF) (ff_32 hF) ?_
  refine s_iconst d_M_squaresOf_4 ?_
  refine s_sipush d_M_squaresOf_5 (by decide) ?_
  refine s_iload_n 1 d_M_squaresOf_8 rfl rfl ?_
  refine s_imul d_M_squaresOf_9 ?_
  refine s_iadd d_M_squaresOf_10 ?_
  obtain ⟨g1, h⟩ := h
  refine s_ialoadv (v := σ.1 47 (3 + (170 * x1))) d_M_squaresOf_11 ⟨_, sf_47 hF, g1.1, g1.2, by have := g1.2; omega⟩ rfl ?_
  exact s_ireturn d_M_squaresOf_12 rfl h
theorem e_M_squaresOf {E : EV} {d : Nat} {Q : Option AV → St → Prop} {σ : St} (x1 : Int) (hF : Fix σ) (h : (0 ≤ (3 + (170 * x1)) ∧ (3 + (170 * x1)) < 683) ∧ Q (some (aI (σ.1 47 (3 + (170 * x1))))) σ) : WM E m_M_squaresOf d [aP 42, aI x1] σ Q := s_meth (by decide) (Nat.le_of_ble_eq_true rfl) rfl (b_M_squaresOf_0 x1 hF h)
theorem d_M_takes_0 : decode m_M_takes.2.1 0 = .ok (.iload_n 1, 1) := by decide +kernel
theorem d_M_takes_1 : decode m_M_takes.2.1 1 = .ok (.iload_n 2, 1) := by decide +kernel
theorem d_M_takes_2 : decode m_M_takes.2.1 2 = .ok (.invokestatic 185, 3) := by decide +kernel
theorem d_M_takes_5 : decode m_M_takes.2.1 5 = .ok (.istore_n 3, 1) := by decide +kernel
theorem d_M_takes_6 : decode m_M_takes.2.1 6 = .ok (.aload_n 0, 1) := by decide +kernel
theorem d_M_takes_7 : decode m_M_takes.2.1 7 = .ok (.aload_n 0, 1) := by decide +kernel
theorem d_M_takes_8 : decode m_M_takes.2.1 8 = .ok (.getfield 26, 3) := by decide +kernel
theorem d_M_takes_11 : decode m_M_takes.2.1 11 = .ok (.iload_n 3, 1) := by decide +kernel
theorem d_M_takes_12 : decode m_M_takes.2.1 12 = .ok (.iaload, 1) := by decide +kernel
theorem d_M_takes_13 : decode m_M_takes.2.1 13 = .ok (.putfield 189, 3) := by decide +kernel
theorem d_M_takes_16 : decode m_M_takes.2.1 16 = .ok (.iconst 0, 1) := by decide +kernel
theorem d_M_takes_17 : decode m_M_takes.2.1 17 = .ok (.istore 4, 2) := by decide +kernel
theorem d_M_takes_19 : decode m_M_takes.2.1 19 = .ok (.iload 4, 2) := by decide +kernel
theorem d_M_takes_21 : decode m_M_takes.2.1 21 = .ok (.aload_n 0, 1) := by decide +kernel
theorem d_M_takes_22 : decode m_M_takes.2.1 22 = .ok (.getfield 189, 3) := by decide +kernel
theorem d_M_takes_25 : decode m_M_takes.2.1 25 = .ok (.if_icmp .ge 27, 3) := by decide +kernel
theorem d_M_takes_28 : decode m_M_takes.2.1 28 = .ok (.aload_n 0, 1) := by decide +kernel
theorem d_M_takes_29 : decode m_M_takes.2.1 29 = .ok (.getfield 35, 3) := by decide +kernel
theorem d_M_takes_32 : decode m_M_takes.2.1 32 = .ok (.iload 4, 2) := by decide +kernel
theorem d_M_takes_34 : decode m_M_takes.2.1 34 = .ok (.aload_n 0, 1) := by decide +kernel
theorem d_M_takes_35 : decode m_M_takes.2.1 35 = .ok (.getfield 26, 3) := by decide +kernel
theorem d_M_takes_38 : decode m_M_takes.2.1 38 = .ok (.iload_n 3, 1) := by decide +kernel
theorem d_M_takes_39 : decode m_M_takes.2.1 39 = .ok (.iconst 1, 1) := by decide +kernel
theorem d_M_takes_40 : decode m_M_takes.2.1 40 = .ok (.iadd, 1) := by decide +kernel
theorem d_M_takes_41 : decode m_M_takes.2.1 41 = .ok (.iload 4, 2) := by decide +kernel
theorem d_M_takes_43 : decode m_M_takes.2.1 43 = .ok (.iadd, 1) := by decide +kernel
theorem d_M_takes_44 : decode m_M_takes.2.1 44 = .ok (.iaload, 1) := by decide +kernel
theorem d_M_takes_45 : decode m_M_takes.2.1 45 = .ok (.iastore, 1) := by decide +kernel
theorem d_M_takes_46 : decode m_M_takes.2.1 46 = .ok (.iinc 4 1, 3) := by decide +kernel
theorem d_M_takes_49 : decode m_M_takes.2.1 49 = .ok (.goto (-30), 3) := by decide +kernel
theorem d_M_takes_52 : decode m_M_takes.2.1 52 = .ok (.return_, 1) := by decide +kernel
theorem b_M_takes_0 {E : EV} {d : Nat} {Q : Option AV → St → Prop} {σ : St} (x1 x2 : Int) (hF : Fix σ) (h : (WMi E m_M_placeOf d [aI x1, aI x2] σ (fun v1 σ1 => Fix σ1 ∧ (0 ≤ v1 ∧ v1 < 683) ∧ WP E m_M_takes (d + 1) 19 [(0, aP 42), (3, aI v1), (4, aI 0)] [] (wr σ1 42 10 (σ1.1 47 v1)) Q))) : WP E m_M_takes (d + 1) 0 [(0, aP 42), (1, aI x1), (2, aI x2)] [] σ Q := by
  refine s_iload_n 1 d_M_takes_0 rfl rfl ?_
  refine s_iload_n 2 d_M_takes_1 rfl rfl ?_
  refine s_callS (as := [aI x1, aI x2]) d_M_takes_2 ok_M_placeOf lk_M_185 to_M_placeOf rfl (Nat.le_of_ble_eq_true rfl) rfl (WM.mono h ?_)
  rintro _ σ1 ⟨v1, rfl, hp, h⟩
  obtain ⟨hF1, h⟩ := h
  show WP E m_M_takes (d + 1) 5 [(0, aP 42), (1, aI x1), (2, aI x2)] [aI v1] σ1 Q
  refine s_istore_n d_M_takes_5 rfl (by decide) rfl ?_
  refine s_aload_n 1 d_M_takes_6 rfl rfl ?_
  refine s_aload_n 1 d_M_takes_7 rfl rfl ?_
  refine s_getF (v := 47) d_M_takes_8 fl_M_26 rfl (sf_42 hF1) (ff_32 hF1) ?_
  refine s_iload_n 0 d_M_takes_11 rfl rfl ?_
  obtain ⟨g2, h⟩ := h
  refine s_ialoadv (v := σ1.1 47 v1) d_M_takes_12 ⟨_, sf_47 hF1, g2.1, g2.2, by have := g2.2; omega⟩ rfl ?_
  refine s_putf 10 rfl d_M_takes_13 fl_M_189 (fun C T h => by cases h; exact Or.inl rfl) rfl (Or.inl rfl) (fun h => nomatch h) (sf_42 hF1) ?_
  refine s_iconst d_M_takes_16 ?_
  refine s_istore d_M_takes_17 (by decide) rfl ?_
  refine wp_drop [2, 1, 0] rfl ?_
  exact h
theorem e_M_takes {E : EV} {d : Nat} {Q : Option AV → St → Prop} {σ : St} (x1 x2 : Int) (hF : Fix σ) (h : (WMi E m_M_placeOf d [aI x1, aI x2] σ (fun v1 σ1 => Fix σ1 ∧ (0 ≤ v1 ∧ v1 < 683) ∧ WP E m_M_takes (d + 1) 19 [(0, aP 42), (3, aI v1), (4, aI 0)] [] (wr σ1 42 10 (σ1.1 47 v1)) Q))) : WM E m_M_takes (d + 1) [aP 42, aI x1, aI x2] σ Q := s_meth (by decide) (Nat.le_of_ble_eq_true rfl) rfl (b_M_takes_0 x1 x2 hF h)
theorem b_M_takes_19 {E : EV} {d : Nat} {Q : Option AV → St → Prop} {σ : St} (x3 x4 : Int) (hF : Fix σ) (h : (rI x4) ∧ (rI (σ.1 42 10)) ∧ (((σ.1 42 10) ≤ x4 → Q none σ) ∧ (¬ (σ.1 42 10) ≤ x4 → (0 ≤ ((x3 + 1) + x4) ∧ ((x3 + 1) + x4) < 683) ∧ (0 ≤ x4 ∧ x4 < 24) ∧ WP E m_M_takes (d + 1) 19 [(0, aP 42), (3, aI x3), (4, aI (x4 + 1))] [] (wr σ 50 x4 (σ.1 47 ((x3 + 1) + x4))) Q))) : WP E m_M_takes (d + 1) 19 [(0, aP 42), (3, aI x3), (4, aI x4)] [] σ Q := by
  refine s_iload 2 d_M_takes_19 rfl ?_
  refine s_aload_n 0 d_M_takes_21 rfl rfl ?_
  refine s_getF (v := σ.1 42 10) d_M_takes_22 fl_M_189 rfl (sf_42 hF) rfl ?_
  obtain ⟨g1, h⟩ := h
  obtain ⟨g2, h⟩ := h
  refine s_icmp_ge d_M_takes_25 rfl g1 g2 (fun c => ?_) (fun c => ?_)
  · have h := h.1 c
    exact s_return d_M_takes_52 rfl h
  · have h := h.2 c
    refine s_aload_n 0 d_M_takes_28 rfl rfl ?_
    refine s_getF (v := 50) d_M_takes_29 fl_M_35 rfl (sf_42 hF) (ff_35 hF) ?_
    refine s_iload 2 d_M_takes_32 rfl ?_
    refine s_aload_n 0 d_M_takes_34 rfl rfl ?_
    refine s_getF (v := 47) d_M_takes_35 fl_M_26 rfl (sf_42 hF) (ff_32 hF) ?_
    refine s_iload_n 1 d_M_takes_38 rfl rfl ?_
    refine s_iconst d_M_takes_39 ?_
    refine s_iadd d_M_takes_40 ?_
    refine s_iload 2 d_M_takes_41 rfl ?_
    refine s_iadd d_M_takes_43 ?_
    obtain ⟨g3, h⟩ := h
    refine s_ialoadv (v := σ.1 47 ((x3 + 1) + x4)) d_M_takes_44 ⟨_, sf_47 hF, g3.1, g3.2, by have := g3.2; omega⟩ rfl ?_
    obtain ⟨g4, h⟩ := h
    refine s_iastore d_M_takes_45 ⟨_, sf_50 hF, g4.1, g4.2, by have := g4.2; omega⟩ ?_
    refine s_iinc 2 d_M_takes_46 rfl (by decide) rfl ?_
    refine s_goto d_M_takes_49 rfl ?_
    refine wp_drop [1, 2, 0] rfl ?_
    exact h
theorem d_M_placeOf_0 : decode m_M_placeOf.2.1 0 = .ok (.iconst 3, 1) := by decide +kernel
theorem d_M_placeOf_1 : decode m_M_placeOf.2.1 1 = .ok (.sipush 170, 3) := by decide +kernel
theorem d_M_placeOf_4 : decode m_M_placeOf.2.1 4 = .ok (.iload_n 0, 1) := by decide +kernel
theorem d_M_placeOf_5 : decode m_M_placeOf.2.1 5 = .ok (.imul, 1) := by decide +kernel
theorem d_M_placeOf_6 : decode m_M_placeOf.2.1 6 = .ok (.iadd, 1) := by decide +kernel
theorem d_M_placeOf_7 : decode m_M_placeOf.2.1 7 = .ok (.iconst 2, 1) := by decide +kernel
theorem d_M_placeOf_8 : decode m_M_placeOf.2.1 8 = .ok (.iadd, 1) := by decide +kernel
theorem d_M_placeOf_9 : decode m_M_placeOf.2.1 9 = .ok (.bipush 21, 2) := by decide +kernel
theorem d_M_placeOf_11 : decode m_M_placeOf.2.1 11 = .ok (.iload_n 1, 1) := by decide +kernel
theorem d_M_placeOf_12 : decode m_M_placeOf.2.1 12 = .ok (.imul, 1) := by decide +kernel
theorem d_M_placeOf_13 : decode m_M_placeOf.2.1 13 = .ok (.iadd, 1) := by decide +kernel
theorem d_M_placeOf_14 : decode m_M_placeOf.2.1 14 = .ok (.ireturn, 1) := by decide +kernel
theorem b_M_placeOf_0 {E : EV} {d : Nat} {Q : Option AV → St → Prop} {σ : St} (x0 x1 : Int) (h : Q (some (aI (((3 + (170 * x0)) + 2) + (21 * x1)))) σ) : WP E m_M_placeOf d 0 [(0, aI x0), (1, aI x1)] [] σ Q := by
  refine s_iconst d_M_placeOf_0 ?_
  refine s_sipush d_M_placeOf_1 (by decide) ?_
  refine s_iload_n 0 d_M_placeOf_4 rfl rfl ?_
  refine s_imul d_M_placeOf_5 ?_
  refine s_iadd d_M_placeOf_6 ?_
  refine s_iconst d_M_placeOf_7 ?_
  refine s_iadd d_M_placeOf_8 ?_
  refine s_bipush d_M_placeOf_9 (by decide) ?_
  refine s_iload_n 1 d_M_placeOf_11 rfl rfl ?_
  refine s_imul d_M_placeOf_12 ?_
  refine s_iadd d_M_placeOf_13 ?_
  exact s_ireturn d_M_placeOf_14 rfl h
theorem e_M_placeOf {E : EV} {d : Nat} {Q : Option AV → St → Prop} {σ : St} (x0 x1 : Int) (h : Q (some (aI (((3 + (170 * x0)) + 2) + (21 * x1)))) σ) : WM E m_M_placeOf d [aI x0, aI x1] σ Q := s_meth (by decide) (Nat.le_of_ble_eq_true rfl) rfl (b_M_placeOf_0 x0 x1 h)
theorem d_M_nodeOf_0 : decode m_M_nodeOf.2.1 0 = .ok (.iload_n 1, 1) := by decide +kernel
theorem d_M_nodeOf_1 : decode m_M_nodeOf.2.1 1 = .ok (.istore_n 2, 1) := by decide +kernel
theorem d_M_nodeOf_2 : decode m_M_nodeOf.2.1 2 = .ok (.iconst 0, 1) := by decide +kernel
theorem d_M_nodeOf_3 : decode m_M_nodeOf.2.1 3 = .ok (.istore_n 3, 1) := by decide +kernel
theorem d_M_nodeOf_4 : decode m_M_nodeOf.2.1 4 = .ok (.iload_n 3, 1) := by decide +kernel
theorem d_M_nodeOf_5 : decode m_M_nodeOf.2.1 5 = .ok (.aload_n 0, 1) := by decide +kernel
theorem d_M_nodeOf_6 : decode m_M_nodeOf.2.1 6 = .ok (.getfield 189, 3) := by decide +kernel
theorem d_M_nodeOf_9 : decode m_M_nodeOf.2.1 9 = .ok (.if_icmp .ge 33, 3) := by decide +kernel
theorem d_M_nodeOf_12 : decode m_M_nodeOf.2.1 12 = .ok (.aload_n 0, 1) := by decide +kernel
theorem d_M_nodeOf_13 : decode m_M_nodeOf.2.1 13 = .ok (.getfield 35, 3) := by decide +kernel
theorem d_M_nodeOf_16 : decode m_M_nodeOf.2.1 16 = .ok (.iload_n 3, 1) := by decide +kernel
theorem d_M_nodeOf_17 : decode m_M_nodeOf.2.1 17 = .ok (.iaload, 1) := by decide +kernel
theorem d_M_nodeOf_18 : decode m_M_nodeOf.2.1 18 = .ok (.invokestatic 199, 3) := by decide +kernel
theorem d_M_nodeOf_21 : decode m_M_nodeOf.2.1 21 = .ok (.ifCond .ne 6, 3) := by decide +kernel
theorem d_M_nodeOf_24 : decode m_M_nodeOf.2.1 24 = .ok (.goto 12, 3) := by decide +kernel
theorem d_M_nodeOf_27 : decode m_M_nodeOf.2.1 27 = .ok (.iload_n 2, 1) := by decide +kernel
theorem d_M_nodeOf_28 : decode m_M_nodeOf.2.1 28 = .ok (.ifCond .ne 5, 3) := by decide +kernel
theorem d_M_nodeOf_31 : decode m_M_nodeOf.2.1 31 = .ok (.iload_n 3, 1) := by decide +kernel
theorem d_M_nodeOf_32 : decode m_M_nodeOf.2.1 32 = .ok (.ireturn, 1) := by decide +kernel
theorem d_M_nodeOf_33 : decode m_M_nodeOf.2.1 33 = .ok (.iinc 2 (-1), 3) := by decide +kernel
theorem d_M_nodeOf_36 : decode m_M_nodeOf.2.1 36 = .ok (.iinc 3 1, 3) := by decide +kernel
theorem d_M_nodeOf_39 : decode m_M_nodeOf.2.1 39 = .ok (.goto (-35), 3) := by decide +kernel
theorem d_M_nodeOf_42 : decode m_M_nodeOf.2.1 42 = .ok (.iconst (-1), 1) := by decide +kernel
theorem d_M_nodeOf_43 : decode m_M_nodeOf.2.1 43 = .ok (.ireturn, 1) := by decide +kernel
theorem b_M_nodeOf_0 {E : EV} {d : Nat} {Q : Option AV → St → Prop} {σ : St} (x1 : Int) (h : WP E m_M_nodeOf (d + 1) 4 [(0, aP 42), (2, aI x1), (3, aI 0)] [] σ Q) : WP E m_M_nodeOf (d + 1) 0 [(0, aP 42), (1, aI x1)] [] σ Q := by
  refine s_iload_n 1 d_M_nodeOf_0 rfl rfl ?_
  refine s_istore_n d_M_nodeOf_1 rfl (by decide) rfl ?_
  refine s_iconst d_M_nodeOf_2 ?_
  refine s_istore_n d_M_nodeOf_3 rfl (by decide) rfl ?_
  refine wp_drop [2, 1, 0] rfl ?_
  exact h
theorem e_M_nodeOf {E : EV} {d : Nat} {Q : Option AV → St → Prop} {σ : St} (x1 : Int) (h : WP E m_M_nodeOf (d + 1) 4 [(0, aP 42), (2, aI x1), (3, aI 0)] [] σ Q) : WM E m_M_nodeOf (d + 1) [aP 42, aI x1] σ Q := s_meth (by decide) (Nat.le_of_ble_eq_true rfl) rfl (b_M_nodeOf_0 x1 h)
theorem b_M_nodeOf_4 {E : EV} {d : Nat} {Q : Option AV → St → Prop} {σ : St} (x2 x3 : Int) (hF : Fix σ) (h : (rI x3) ∧ (rI (σ.1 42 10)) ∧ (((σ.1 42 10) ≤ x3 → Q (some (aI (-1))) σ) ∧ (¬ (σ.1 42 10) ≤ x3 → (0 ≤ x3 ∧ x3 < 24) ∧ (WMi E m_M_isSign d [aI (σ.1 50 x3)] σ (fun v4 σ4 => (rI v4) ∧ ((¬ v4 = 0 → (rI x2) ∧ ((¬ x2 = 0 → WP E m_M_nodeOf (d + 1) 36 [(0, aP 42), (2, aI (x2 + (-1))), (3, aI x3)] [] σ4 Q) ∧ (x2 = 0 → Q (some (aI x3)) σ4))) ∧ (v4 = 0 → WP E m_M_nodeOf (d + 1) 36 [(0, aP 42), (2, aI x2), (3, aI x3)] [] σ4 Q))))))) : WP E m_M_nodeOf (d + 1) 4 [(0, aP 42), (2, aI x2), (3, aI x3)] [] σ Q := by
  refine s_iload_n 2 d_M_nodeOf_4 rfl rfl ?_
  refine s_aload_n 0 d_M_nodeOf_5 rfl rfl ?_
  refine s_getF (v := σ.1 42 10) d_M_nodeOf_6 fl_M_189 rfl (sf_42 hF) rfl ?_
  obtain ⟨g1, h⟩ := h
  obtain ⟨g2, h⟩ := h
  refine s_icmp_ge d_M_nodeOf_9 rfl g1 g2 (fun c => ?_) (fun c => ?_)
  · have h := h.1 c
    refine s_iconst d_M_nodeOf_42 ?_
    exact s_ireturn d_M_nodeOf_43 rfl h
  · have h := h.2 c
    refine s_aload_n 0 d_M_nodeOf_12 rfl rfl ?_
    refine s_getF (v := 50) d_M_nodeOf_13 fl_M_35 rfl (sf_42 hF) (ff_35 hF) ?_
    refine s_iload_n 2 d_M_nodeOf_16 rfl rfl ?_
    obtain ⟨g3, h⟩ := h
    refine s_ialoadv (v := σ.1 50 x3) d_M_nodeOf_17 ⟨_, sf_50 hF, g3.1, g3.2, by have := g3.2; omega⟩ rfl ?_
    refine s_callS (as := [aI (σ.1 50 x3)]) d_M_nodeOf_18 ok_M_isSign lk_M_199 to_M_isSign rfl (Nat.le_of_ble_eq_true rfl) rfl (WM.mono h ?_)
    rintro _ σ4 ⟨v4, rfl, hp, h⟩
    show WP E m_M_nodeOf (d + 1) 21 [(0, aP 42), (2, aI x2), (3, aI x3)] [aI v4] σ4 Q
    obtain ⟨g5, h⟩ := h
    refine s_if_ne d_M_nodeOf_21 rfl g5 (fun c => ?_) (fun c => ?_)
    · have h := h.1 c
      refine s_iload_n 1 d_M_nodeOf_27 rfl rfl ?_
      obtain ⟨g6, h⟩ := h
      refine s_if_ne d_M_nodeOf_28 rfl g6 (fun c => ?_) (fun c => ?_)
      · have h := h.1 c
        refine s_iinc 1 d_M_nodeOf_33 rfl (by decide) rfl ?_
        refine wp_drop [1, 0, 2] rfl ?_
        exact h
      · have h := h.2 c
        refine s_iload_n 2 d_M_nodeOf_31 rfl rfl ?_
        exact s_ireturn d_M_nodeOf_32 rfl h
    · have h := h.2 c
      refine s_goto d_M_nodeOf_24 rfl ?_
      exact h
theorem b_M_nodeOf_36 {E : EV} {d : Nat} {Q : Option AV → St → Prop} {σ : St} (x2 x3 : Int) (h : WP E m_M_nodeOf (d + 1) 4 [(0, aP 42), (2, aI x2), (3, aI (x3 + 1))] [] σ Q) : WP E m_M_nodeOf (d + 1) 36 [(0, aP 42), (2, aI x2), (3, aI x3)] [] σ Q := by
  refine s_iinc 2 d_M_nodeOf_36 rfl (by decide) rfl ?_
  refine s_goto d_M_nodeOf_39 rfl ?_
  refine wp_drop [1, 2, 0] rfl ?_
  exact h
theorem d_M_isSign_0 : decode m_M_isSign.2.1 0 = .ok (.iload_n 0, 1) := by decide +kernel
theorem d_M_isSign_1 : decode m_M_isSign.2.1 1 = .ok (.sipush 200, 3) := by decide +kernel
theorem d_M_isSign_4 : decode m_M_isSign.2.1 4 = .ok (.if_icmp .ge 7, 3) := by decide +kernel
theorem d_M_isSign_7 : decode m_M_isSign.2.1 7 = .ok (.iconst 1, 1) := by decide +kernel
theorem d_M_isSign_8 : decode m_M_isSign.2.1 8 = .ok (.goto 4, 3) := by decide +kernel
theorem d_M_isSign_11 : decode m_M_isSign.2.1 11 = .ok (.iconst 0, 1) := by decide +kernel
theorem d_M_isSign_12 : decode m_M_isSign.2.1 12 = .ok (.ireturn, 1) := by decide +kernel
theorem b_M_isSign_0 {E : EV} {d : Nat} {Q : Option AV → St → Prop} {σ : St} (x0 : Int) (h : (rI x0) ∧ ((200 ≤ x0 → Q (some (aI 0)) σ) ∧ (¬ 200 ≤ x0 → Q (some (aI 1)) σ))) : WP E m_M_isSign d 0 [(0, aI x0)] [] σ Q := by
  refine s_iload_n 0 d_M_isSign_0 rfl rfl ?_
  refine s_sipush d_M_isSign_1 (by decide) ?_
  obtain ⟨g1, h⟩ := h
  refine s_icmp_ge d_M_isSign_4 rfl g1 (by decide) (fun c => ?_) (fun c => ?_)
  · have h := h.1 c
    refine s_iconst d_M_isSign_11 ?_
    exact s_zreturn d_M_isSign_12 rfl (by decide) h
  · have h := h.2 c
    refine s_iconst d_M_isSign_7 ?_
    refine s_goto d_M_isSign_8 rfl ?_
    exact s_zreturn d_M_isSign_12 rfl (by decide) h
theorem e_M_isSign {E : EV} {d : Nat} {Q : Option AV → St → Prop} {σ : St} (x0 : Int) (h : (rI x0) ∧ ((200 ≤ x0 → Q (some (aI 0)) σ) ∧ (¬ 200 ≤ x0 → Q (some (aI 1)) σ))) : WM E m_M_isSign d [aI x0] σ Q := s_meth (by decide) (Nat.le_of_ble_eq_true rfl) rfl (b_M_isSign_0 x0 h)
theorem d_M_places_0 : decode m_M_places.2.1 0 = .ok (.aload_n 0, 1) := by decide +kernel
theorem d_M_places_1 : decode m_M_places.2.1 1 = .ok (.invokevirtual 250, 3) := by decide +kernel
theorem d_M_places_4 : decode m_M_places.2.1 4 = .ok (.istore_n 1, 1) := by decide +kernel
theorem d_M_places_5 : decode m_M_places.2.1 5 = .ok (.aload_n 0, 1) := by decide +kernel
theorem d_M_places_6 : decode m_M_places.2.1 6 = .ok (.iconst 0, 1) := by decide +kernel
theorem d_M_places_7 : decode m_M_places.2.1 7 = .ok (.putfield 238, 3) := by decide +kernel
theorem d_M_places_10 : decode m_M_places.2.1 10 = .ok (.aload_n 0, 1) := by decide +kernel
theorem d_M_places_11 : decode m_M_places.2.1 11 = .ok (.aload_n 0, 1) := by decide +kernel
theorem d_M_places_12 : decode m_M_places.2.1 12 = .ok (.getfield 26, 3) := by decide +kernel
theorem d_M_places_15 : decode m_M_places.2.1 15 = .ok (.iconst 0, 1) := by decide +kernel
theorem d_M_places_16 : decode m_M_places.2.1 16 = .ok (.iaload, 1) := by decide +kernel
theorem d_M_places_17 : decode m_M_places.2.1 17 = .ok (.i2l, 1) := by decide +kernel
theorem d_M_places_18 : decode m_M_places.2.1 18 = .ok (.iload_n 1, 1) := by decide +kernel
theorem d_M_places_19 : decode m_M_places.2.1 19 = .ok (.i2l, 1) := by decide +kernel
theorem d_M_places_20 : decode m_M_places.2.1 20 = .ok (.invokevirtual 234, 3) := by decide +kernel
theorem d_M_places_23 : decode m_M_places.2.1 23 = .ok (.aload_n 0, 1) := by decide +kernel
theorem d_M_places_24 : decode m_M_places.2.1 24 = .ok (.getfield 50, 3) := by decide +kernel
theorem d_M_places_27 : decode m_M_places.2.1 27 = .ok (.iconst 0, 1) := by decide +kernel
theorem d_M_places_28 : decode m_M_places.2.1 28 = .ok (.aload_n 0, 1) := by decide +kernel
theorem d_M_places_29 : decode m_M_places.2.1 29 = .ok (.getfield 227, 3) := by decide +kernel
theorem d_M_places_32 : decode m_M_places.2.1 32 = .ok (.lastore, 1) := by decide +kernel
theorem d_M_places_33 : decode m_M_places.2.1 33 = .ok (.aload_n 0, 1) := by decide +kernel
theorem d_M_places_34 : decode m_M_places.2.1 34 = .ok (.getfield 54, 3) := by decide +kernel
theorem d_M_places_37 : decode m_M_places.2.1 37 = .ok (.iconst 0, 1) := by decide +kernel
theorem d_M_places_38 : decode m_M_places.2.1 38 = .ok (.aload_n 0, 1) := by decide +kernel
theorem d_M_places_39 : decode m_M_places.2.1 39 = .ok (.getfield 231, 3) := by decide +kernel
theorem d_M_places_42 : decode m_M_places.2.1 42 = .ok (.lastore, 1) := by decide +kernel
theorem d_M_places_43 : decode m_M_places.2.1 43 = .ok (.aload_n 0, 1) := by decide +kernel
theorem d_M_places_44 : decode m_M_places.2.1 44 = .ok (.iconst 0, 1) := by decide +kernel
theorem d_M_places_45 : decode m_M_places.2.1 45 = .ok (.aload_n 0, 1) := by decide +kernel
theorem d_M_places_46 : decode m_M_places.2.1 46 = .ok (.getfield 26, 3) := by decide +kernel
theorem d_M_places_49 : decode m_M_places.2.1 49 = .ok (.iconst 0, 1) := by decide +kernel
theorem d_M_places_50 : decode m_M_places.2.1 50 = .ok (.iaload, 1) := by decide +kernel
theorem d_M_places_51 : decode m_M_places.2.1 51 = .ok (.i2l, 1) := by decide +kernel
theorem d_M_places_52 : decode m_M_places.2.1 52 = .ok (.ldc2_w 241, 3) := by decide +kernel
theorem d_M_places_55 : decode m_M_places.2.1 55 = .ok (.aload_n 0, 1) := by decide +kernel
theorem d_M_places_56 : decode m_M_places.2.1 56 = .ok (.getfield 26, 3) := by decide +kernel
theorem d_M_places_59 : decode m_M_places.2.1 59 = .ok (.iconst 0, 1) := by decide +kernel
theorem d_M_places_60 : decode m_M_places.2.1 60 = .ok (.iaload, 1) := by decide +kernel
theorem d_M_places_61 : decode m_M_places.2.1 61 = .ok (.i2l, 1) := by decide +kernel
theorem d_M_places_62 : decode m_M_places.2.1 62 = .ok (.ldc2_w 241, 3) := by decide +kernel
theorem d_M_places_65 : decode m_M_places.2.1 65 = .ok (.invokevirtual 246, 3) := by decide +kernel
theorem d_M_places_68 : decode m_M_places.2.1 68 = .ok (.iconst 0, 1) := by decide +kernel
theorem d_M_places_69 : decode m_M_places.2.1 69 = .ok (.istore_n 2, 1) := by decide +kernel
theorem d_M_places_70 : decode m_M_places.2.1 70 = .ok (.iload_n 2, 1) := by decide +kernel
theorem d_M_places_71 : decode m_M_places.2.1 71 = .ok (.aload_n 0, 1) := by decide +kernel
theorem d_M_places_72 : decode m_M_places.2.1 72 = .ok (.getfield 189, 3) := by decide +kernel
theorem d_M_places_75 : decode m_M_places.2.1 75 = .ok (.if_icmp .ge 238, 3) := by decide +kernel
theorem d_M_places_78 : decode m_M_places.2.1 78 = .ok (.aload_n 0, 1) := by decide +kernel
theorem d_M_places_79 : decode m_M_places.2.1 79 = .ok (.getfield 35, 3) := by decide +kernel
theorem d_M_places_82 : decode m_M_places.2.1 82 = .ok (.iload_n 2, 1) := by decide +kernel
theorem d_M_places_83 : decode m_M_places.2.1 83 = .ok (.iaload, 1) := by decide +kernel
theorem d_M_places_84 : decode m_M_places.2.1 84 = .ok (.invokestatic 199, 3) := by decide +kernel
theorem d_M_places_87 : decode m_M_places.2.1 87 = .ok (.ifCond .eq 22, 3) := by decide +kernel
theorem d_M_places_90 : decode m_M_places.2.1 90 = .ok (.aload_n 0, 1) := by decide +kernel
theorem d_M_places_91 : decode m_M_places.2.1 91 = .ok (.getfield 35, 3) := by decide +kernel
theorem d_M_places_94 : decode m_M_places.2.1 94 = .ok (.iload_n 2, 1) := by decide +kernel
theorem d_M_places_95 : decode m_M_places.2.1 95 = .ok (.iaload, 1) := by decide +kernel
theorem d_M_places_96 : decode m_M_places.2.1 96 = .ok (.bipush 100, 2) := by decide +kernel
theorem d_M_places_98 : decode m_M_places.2.1 98 = .ok (.if_icmp .lt 209, 3) := by decide +kernel
theorem d_M_places_101 : decode m_M_places.2.1 101 = .ok (.aload_n 0, 1) := by decide +kernel
theorem d_M_places_102 : decode m_M_places.2.1 102 = .ok (.iload_n 2, 1) := by decide +kernel
theorem d_M_places_103 : decode m_M_places.2.1 103 = .ok (.invokevirtual 254, 3) := by decide +kernel
theorem d_M_places_106 : decode m_M_places.2.1 106 = .ok (.goto 201, 3) := by decide +kernel
theorem d_M_places_109 : decode m_M_places.2.1 109 = .ok (.aload_n 0, 1) := by decide +kernel
theorem d_M_places_110 : decode m_M_places.2.1 110 = .ok (.getfield 35, 3) := by decide +kernel
theorem d_M_places_113 : decode m_M_places.2.1 113 = .ok (.iload_n 2, 1) := by decide +kernel
theorem d_M_places_114 : decode m_M_places.2.1 114 = .ok (.iaload, 1) := by decide +kernel
theorem d_M_places_115 : decode m_M_places.2.1 115 = .ok (.sipush 300, 3) := by decide +kernel
theorem d_M_places_118 : decode m_M_places.2.1 118 = .ok (.if_icmp .ge 7, 3) := by decide +kernel
theorem d_M_places_121 : decode m_M_places.2.1 121 = .ok (.iconst 1, 1) := by decide +kernel
theorem d_M_places_122 : decode m_M_places.2.1 122 = .ok (.goto 4, 3) := by decide +kernel
theorem d_M_places_125 : decode m_M_places.2.1 125 = .ok (.iconst 0, 1) := by decide +kernel
theorem d_M_places_126 : decode m_M_places.2.1 126 = .ok (.istore_n 3, 1) := by decide +kernel
theorem d_M_places_127 : decode m_M_places.2.1 127 = .ok (.iload_n 3, 1) := by decide +kernel
theorem d_M_places_128 : decode m_M_places.2.1 128 = .ok (.ifCond .eq 12, 3) := by decide +kernel
theorem d_M_places_131 : decode m_M_places.2.1 131 = .ok (.aload_n 0, 1) := by decide +kernel
theorem d_M_places_132 : decode m_M_places.2.1 132 = .ok (.getfield 72, 3) := by decide +kernel
theorem d_M_places_135 : decode m_M_places.2.1 135 = .ok (.iload_n 2, 1) := by decide +kernel
theorem d_M_places_136 : decode m_M_places.2.1 136 = .ok (.iaload, 1) := by decide +kernel
theorem d_M_places_137 : decode m_M_places.2.1 137 = .ok (.goto 9, 3) := by decide +kernel
theorem d_M_places_140 : decode m_M_places.2.1 140 = .ok (.aload_n 0, 1) := by decide +kernel
theorem d_M_places_141 : decode m_M_places.2.1 141 = .ok (.getfield 75, 3) := by decide +kernel
theorem d_M_places_144 : decode m_M_places.2.1 144 = .ok (.iload_n 2, 1) := by decide +kernel
theorem d_M_places_145 : decode m_M_places.2.1 145 = .ok (.iaload, 1) := by decide +kernel
theorem d_M_places_146 : decode m_M_places.2.1 146 = .ok (.istore 4, 2) := by decide +kernel
theorem d_M_places_148 : decode m_M_places.2.1 148 = .ok (.iload_n 2, 1) := by decide +kernel
theorem d_M_places_149 : decode m_M_places.2.1 149 = .ok (.iconst 1, 1) := by decide +kernel
theorem d_M_places_150 : decode m_M_places.2.1 150 = .ok (.iadd, 1) := by decide +kernel
theorem d_M_places_151 : decode m_M_places.2.1 151 = .ok (.istore 5, 2) := by decide +kernel
theorem d_M_places_153 : decode m_M_places.2.1 153 = .ok (.iconst 0, 1) := by decide +kernel
theorem d_M_places_154 : decode m_M_places.2.1 154 = .ok (.istore 6, 2) := by decide +kernel
theorem d_M_places_156 : decode m_M_places.2.1 156 = .ok (.iload 6, 2) := by decide +kernel
theorem d_M_places_158 : decode m_M_places.2.1 158 = .ok (.aload_n 0, 1) := by decide +kernel
theorem d_M_places_159 : decode m_M_places.2.1 159 = .ok (.getfield 35, 3) := by decide +kernel
theorem d_M_places_162 : decode m_M_places.2.1 162 = .ok (.iload_n 2, 1) := by decide +kernel
theorem d_M_places_163 : decode m_M_places.2.1 163 = .ok (.iaload, 1) := by decide +kernel
theorem d_M_places_164 : decode m_M_places.2.1 164 = .ok (.invokestatic 182, 3) := by decide +kernel
theorem d_M_places_167 : decode m_M_places.2.1 167 = .ok (.if_icmp .ge 140, 3) := by decide +kernel
theorem d_M_places_170 : decode m_M_places.2.1 170 = .ok (.aload_n 0, 1) := by decide +kernel
theorem d_M_places_171 : decode m_M_places.2.1 171 = .ok (.getfield 69, 3) := by decide +kernel
theorem d_M_places_174 : decode m_M_places.2.1 174 = .ok (.iload 5, 2) := by decide +kernel
theorem d_M_places_176 : decode m_M_places.2.1 176 = .ok (.aload_n 0, 1) := by decide +kernel
theorem d_M_places_177 : decode m_M_places.2.1 177 = .ok (.getfield 69, 3) := by decide +kernel
theorem d_M_places_180 : decode m_M_places.2.1 180 = .ok (.iload_n 2, 1) := by decide +kernel
theorem d_M_places_181 : decode m_M_places.2.1 181 = .ok (.iaload, 1) := by decide +kernel
theorem d_M_places_182 : decode m_M_places.2.1 182 = .ok (.iastore, 1) := by decide +kernel
theorem d_M_places_183 : decode m_M_places.2.1 183 = .ok (.aload_n 0, 1) := by decide +kernel
theorem d_M_places_184 : decode m_M_places.2.1 184 = .ok (.getfield 72, 3) := by decide +kernel
theorem d_M_places_187 : decode m_M_places.2.1 187 = .ok (.iload 5, 2) := by decide +kernel
theorem d_M_places_189 : decode m_M_places.2.1 189 = .ok (.iload_n 3, 1) := by decide +kernel
theorem d_M_places_190 : decode m_M_places.2.1 190 = .ok (.ifCond .eq 8, 3) := by decide +kernel
theorem d_M_places_193 : decode m_M_places.2.1 193 = .ok (.iload 4, 2) := by decide +kernel
theorem d_M_places_195 : decode m_M_places.2.1 195 = .ok (.goto 24, 3) := by decide +kernel
theorem d_M_places_198 : decode m_M_places.2.1 198 = .ok (.aload_n 0, 1) := by decide +kernel
theorem d_M_places_199 : decode m_M_places.2.1 199 = .ok (.getfield 72, 3) := by decide +kernel
theorem d_M_places_202 : decode m_M_places.2.1 202 = .ok (.iload_n 2, 1) := by decide +kernel
theorem d_M_places_203 : decode m_M_places.2.1 203 = .ok (.iaload, 1) := by decide +kernel
theorem d_M_places_204 : decode m_M_places.2.1 204 = .ok (.aload_n 0, 1) := by decide +kernel
theorem d_M_places_205 : decode m_M_places.2.1 205 = .ok (.getfield 41, 3) := by decide +kernel
theorem d_M_places_208 : decode m_M_places.2.1 208 = .ok (.iload_n 2, 1) := by decide +kernel
theorem d_M_places_209 : decode m_M_places.2.1 209 = .ok (.iaload, 1) := by decide +kernel
theorem d_M_places_210 : decode m_M_places.2.1 210 = .ok (.iadd, 1) := by decide +kernel
theorem d_M_places_211 : decode m_M_places.2.1 211 = .ok (.aload_n 0, 1) := by decide +kernel
theorem d_M_places_212 : decode m_M_places.2.1 212 = .ok (.getfield 41, 3) := by decide +kernel
theorem d_M_places_215 : decode m_M_places.2.1 215 = .ok (.iload 5, 2) := by decide +kernel
theorem d_M_places_217 : decode m_M_places.2.1 217 = .ok (.iaload, 1) := by decide +kernel
theorem d_M_places_218 : decode m_M_places.2.1 218 = .ok (.isub, 1) := by decide +kernel
theorem d_M_places_219 : decode m_M_places.2.1 219 = .ok (.iastore, 1) := by decide +kernel
theorem d_M_places_220 : decode m_M_places.2.1 220 = .ok (.aload_n 0, 1) := by decide +kernel
theorem d_M_places_221 : decode m_M_places.2.1 221 = .ok (.getfield 75, 3) := by decide +kernel
theorem d_M_places_224 : decode m_M_places.2.1 224 = .ok (.iload 5, 2) := by decide +kernel
theorem d_M_places_226 : decode m_M_places.2.1 226 = .ok (.iload_n 3, 1) := by decide +kernel
theorem d_M_places_227 : decode m_M_places.2.1 227 = .ok (.ifCond .eq 27, 3) := by decide +kernel
theorem d_M_places_230 : decode m_M_places.2.1 230 = .ok (.aload_n 0, 1) := by decide +kernel
theorem d_M_places_231 : decode m_M_places.2.1 231 = .ok (.getfield 75, 3) := by decide +kernel
theorem d_M_places_234 : decode m_M_places.2.1 234 = .ok (.iload_n 2, 1) := by decide +kernel
theorem d_M_places_235 : decode m_M_places.2.1 235 = .ok (.iaload, 1) := by decide +kernel
theorem d_M_places_236 : decode m_M_places.2.1 236 = .ok (.aload_n 0, 1) := by decide +kernel
theorem d_M_places_237 : decode m_M_places.2.1 237 = .ok (.getfield 44, 3) := by decide +kernel
theorem d_M_places_240 : decode m_M_places.2.1 240 = .ok (.iload_n 2, 1) := by decide +kernel
theorem d_M_places_241 : decode m_M_places.2.1 241 = .ok (.iaload, 1) := by decide +kernel
theorem d_M_places_242 : decode m_M_places.2.1 242 = .ok (.iadd, 1) := by decide +kernel
theorem d_M_places_243 : decode m_M_places.2.1 243 = .ok (.aload_n 0, 1) := by decide +kernel
theorem d_M_places_244 : decode m_M_places.2.1 244 = .ok (.getfield 44, 3) := by decide +kernel
theorem d_M_places_247 : decode m_M_places.2.1 247 = .ok (.iload 5, 2) := by decide +kernel
theorem d_M_places_249 : decode m_M_places.2.1 249 = .ok (.iaload, 1) := by decide +kernel
theorem d_M_places_250 : decode m_M_places.2.1 250 = .ok (.isub, 1) := by decide +kernel
theorem d_M_places_251 : decode m_M_places.2.1 251 = .ok (.goto 5, 3) := by decide +kernel
theorem d_M_places_254 : decode m_M_places.2.1 254 = .ok (.iload 4, 2) := by decide +kernel
theorem d_M_places_256 : decode m_M_places.2.1 256 = .ok (.iastore, 1) := by decide +kernel
theorem d_M_places_257 : decode m_M_places.2.1 257 = .ok (.iload 4, 2) := by decide +kernel
theorem d_M_places_259 : decode m_M_places.2.1 259 = .ok (.iconst 2, 1) := by decide +kernel
theorem d_M_places_260 : decode m_M_places.2.1 260 = .ok (.iload_n 3, 1) := by decide +kernel
theorem d_M_places_261 : decode m_M_places.2.1 261 = .ok (.ifCond .eq 13, 3) := by decide +kernel
theorem d_M_places_264 : decode m_M_places.2.1 264 = .ok (.aload_n 0, 1) := by decide +kernel
theorem d_M_places_265 : decode m_M_places.2.1 265 = .ok (.getfield 41, 3) := by decide +kernel
theorem d_M_places_268 : decode m_M_places.2.1 268 = .ok (.iload 5, 2) := by decide +kernel
theorem d_M_places_270 : decode m_M_places.2.1 270 = .ok (.iaload, 1) := by decide +kernel
theorem d_M_places_271 : decode m_M_places.2.1 271 = .ok (.goto 10, 3) := by decide +kernel
theorem d_M_places_274 : decode m_M_places.2.1 274 = .ok (.aload_n 0, 1) := by decide +kernel
theorem d_M_places_275 : decode m_M_places.2.1 275 = .ok (.getfield 44, 3) := by decide +kernel
theorem d_M_places_278 : decode m_M_places.2.1 278 = .ok (.iload 5, 2) := by decide +kernel
theorem d_M_places_280 : decode m_M_places.2.1 280 = .ok (.iaload, 1) := by decide +kernel
theorem d_M_places_281 : decode m_M_places.2.1 281 = .ok (.aload_n 0, 1) := by decide +kernel
theorem d_M_places_282 : decode m_M_places.2.1 282 = .ok (.getfield 26, 3) := by decide +kernel
theorem d_M_places_285 : decode m_M_places.2.1 285 = .ok (.iconst 1, 1) := by decide +kernel
theorem d_M_places_286 : decode m_M_places.2.1 286 = .ok (.iaload, 1) := by decide +kernel
theorem d_M_places_287 : decode m_M_places.2.1 287 = .ok (.iadd, 1) := by decide +kernel
theorem d_M_places_288 : decode m_M_places.2.1 288 = .ok (.imul, 1) := by decide +kernel
theorem d_M_places_289 : decode m_M_places.2.1 289 = .ok (.iadd, 1) := by decide +kernel
theorem d_M_places_290 : decode m_M_places.2.1 290 = .ok (.istore 4, 2) := by decide +kernel
theorem d_M_places_292 : decode m_M_places.2.1 292 = .ok (.aload_n 0, 1) := by decide +kernel
theorem d_M_places_293 : decode m_M_places.2.1 293 = .ok (.getfield 47, 3) := by decide +kernel
theorem d_M_places_296 : decode m_M_places.2.1 296 = .ok (.iload 5, 2) := by decide +kernel
theorem d_M_places_298 : decode m_M_places.2.1 298 = .ok (.iaload, 1) := by decide +kernel
theorem d_M_places_299 : decode m_M_places.2.1 299 = .ok (.istore 5, 2) := by decide +kernel
theorem d_M_places_301 : decode m_M_places.2.1 301 = .ok (.iinc 6 1, 3) := by decide +kernel
theorem d_M_places_304 : decode m_M_places.2.1 304 = .ok (.goto (-148), 3) := by decide +kernel
theorem d_M_places_307 : decode m_M_places.2.1 307 = .ok (.iinc 2 1, 3) := by decide +kernel
theorem d_M_places_310 : decode m_M_places.2.1 310 = .ok (.goto (-240), 3) := by decide +kernel
theorem d_M_places_313 : decode m_M_places.2.1 313 = .ok (.return_, 1) := by decide +kernel
theorem b_M_places_0 {E : EV} {d : Nat} {Q : Option AV → St → Prop} {σ : St} (hF : Fix σ) (h : (WMi E m_M_greatest d [aP 42] σ (fun v1 σ1 => Fix σ1 ∧ (rI (σ1.1 47 0)) ∧ (rI v1) ∧ (WMv E m_M_tells d [aP 42, aL (σ1.1 47 0), aL v1] (wr σ1 42 27 0) (fun σ4 => Fix σ4 ∧ (rI (σ4.1 47 0)) ∧ (rI (σ4.1 47 0)) ∧ (WMv E m_M_begins d [aP 42, aI 0, aL (σ4.1 47 0), aL 2, aL (σ4.1 47 0), aL 2] (wr (wr σ4 55 0 (σ4.1 42 16)) 56 0 (σ4.1 42 17)) (fun σ7 => WP E m_M_places (d + 1) 70 [(0, aP 42), (2, aI 0)] [] σ7 Q))))))) : WP E m_M_places (d + 1) 0 [(0, aP 42)] [] σ Q := by
  refine s_aload_n 0 d_M_places_0 rfl rfl ?_
  refine s_callV (as := []) (ci := 10) d_M_places_1 ok_M_greatest lk_M_250 io_M_greatest so_M_greatest (by decide) rfl rfl rfl (Nat.le_of_ble_eq_true rfl) rfl (sf_42 hF) (WM.mono h ?_)
  rintro _ σ1 ⟨v1, rfl, hp, h⟩
  obtain ⟨hF1, h⟩ := h
  show WP E m_M_places (d + 1) 4 [(0, aP 42)] [aI v1] σ1 Q
  refine s_istore_n d_M_places_4 rfl (by decide) rfl ?_
  refine s_aload_n 1 d_M_places_5 rfl rfl ?_
  refine s_iconst d_M_places_6 ?_
  refine s_putf 27 rfl d_M_places_7 fl_M_238 (fun C T h => by cases h; exact Or.inl rfl) rfl (Or.inl rfl) (fun h => nomatch h) (sf_42 hF1) ?_
  refine s_aload_n 1 d_M_places_10 rfl rfl ?_
  refine s_aload_n 1 d_M_places_11 rfl rfl ?_
  refine s_getF (v := 47) d_M_places_12 fl_M_26 rfl (sf_42 (hF1.wf (a := 42) (k := 27) (by decide))) (ff_32 (hF1.wf (a := 42) (k := 27) (by decide))) ?_
  refine s_iconst d_M_places_15 ?_
  refine s_ialoadv (v := σ1.1 47 0) d_M_places_16 ⟨_, sf_47 (hF1.wf (a := 42) (k := 27) (by decide)), by decide, by decide, by decide⟩ rfl ?_
  obtain ⟨g2, h⟩ := h
  refine s_i2l d_M_places_17 g2 ?_
  refine s_iload_n 0 d_M_places_18 rfl rfl ?_
  obtain ⟨g3, h⟩ := h
  refine s_i2l d_M_places_19 g3 ?_
  refine s_callV (as := [aL (σ1.1 47 0), aL v1]) (ci := 10) d_M_places_20 ok_M_tells lk_M_234 io_M_tells so_M_tells (by decide) rfl rfl rfl (Nat.le_of_ble_eq_true rfl) rfl (sf_42 (hF1.wf (a := 42) (k := 27) (by decide))) (WM.mono h ?_)
  rintro _ σ4 ⟨rfl, hp, h⟩
  obtain ⟨hF4, h⟩ := h
  show WP E m_M_places (d + 1) 23 [(1, aI v1), (0, aP 42)] [] σ4 Q
  refine s_aload_n 1 d_M_places_23 rfl rfl ?_
  refine s_getF (v := 55) d_M_places_24 fl_M_50 rfl (sf_42 hF4) (ff_40 hF4) ?_
  refine s_iconst d_M_places_27 ?_
  refine s_aload_n 1 d_M_places_28 rfl rfl ?_
  refine s_getF (v := σ4.1 42 16) d_M_places_29 fl_M_227 rfl (sf_42 hF4) rfl ?_
  refine s_lastore d_M_places_32 ⟨_, sf_55 hF4, by decide, by decide, by decide⟩ ?_
  refine s_aload_n 1 d_M_places_33 rfl rfl ?_
  refine s_getF (v := 56) d_M_places_34 fl_M_54 rfl (sf_42 (hF4.wa (a := 55) (by decide))) (ff_41 (hF4.wa (a := 55) (by decide))) ?_
  refine s_iconst d_M_places_37 ?_
  refine s_aload_n 1 d_M_places_38 rfl rfl ?_
  refine s_getF (v := σ4.1 42 17) d_M_places_39 fl_M_231 rfl (sf_42 (hF4.wa (a := 55) (by decide))) rfl ?_
  refine s_lastore d_M_places_42 ⟨_, sf_56 (hF4.wa (a := 55) (by decide)), by decide, by decide, by decide⟩ ?_
  refine s_aload_n 1 d_M_places_43 rfl rfl ?_
  refine s_iconst d_M_places_44 ?_
  refine s_aload_n 1 d_M_places_45 rfl rfl ?_
  refine s_getF (v := 47) d_M_places_46 fl_M_26 rfl (sf_42 ((hF4.wa (a := 55) (by decide)).wa (a := 56) (by decide))) (ff_32 ((hF4.wa (a := 55) (by decide)).wa (a := 56) (by decide))) ?_
  refine s_iconst d_M_places_49 ?_
  refine s_ialoadv (v := σ4.1 47 0) d_M_places_50 ⟨_, sf_47 ((hF4.wa (a := 55) (by decide)).wa (a := 56) (by decide)), by decide, by decide, by decide⟩ rfl ?_
  obtain ⟨g5, h⟩ := h
  refine s_i2l d_M_places_51 g5 ?_
  refine s_ldc2 (v := 2) d_M_places_52 ll_M_241 (by decide) ?_
  refine s_aload_n 1 d_M_places_55 rfl rfl ?_
  refine s_getF (v := 47) d_M_places_56 fl_M_26 rfl (sf_42 ((hF4.wa (a := 55) (by decide)).wa (a := 56) (by decide))) (ff_32 ((hF4.wa (a := 55) (by decide)).wa (a := 56) (by decide))) ?_
  refine s_iconst d_M_places_59 ?_
  refine s_ialoadv (v := σ4.1 47 0) d_M_places_60 ⟨_, sf_47 ((hF4.wa (a := 55) (by decide)).wa (a := 56) (by decide)), by decide, by decide, by decide⟩ rfl ?_
  obtain ⟨g6, h⟩ := h
  refine s_i2l d_M_places_61 g6 ?_
  refine s_ldc2 (v := 2) d_M_places_62 ll_M_241 (by decide) ?_
  refine s_callV (as := [aI 0, aL (σ4.1 47 0), aL 2, aL (σ4.1 47 0), aL 2]) (ci := 10) d_M_places_65 ok_M_begins lk_M_246 io_M_begins so_M_begins (by decide) rfl rfl rfl (Nat.le_of_ble_eq_true rfl) rfl (sf_42 ((hF4.wa (a := 55) (by decide)).wa (a := 56) (by decide))) (WM.mono h ?_)
  rintro _ σ7 ⟨rfl, hp, h⟩
  show WP E m_M_places (d + 1) 68 [(1, aI v1), (0, aP 42)] [] σ7 Q
  refine s_iconst d_M_places_68 ?_
  refine s_istore_n d_M_places_69 rfl (by decide) rfl ?_
  refine wp_drop [2, 0] rfl ?_
  exact h
theorem e_M_places {E : EV} {d : Nat} {Q : Option AV → St → Prop} {σ : St} (hF : Fix σ) (h : (WMi E m_M_greatest d [aP 42] σ (fun v1 σ1 => Fix σ1 ∧ (rI (σ1.1 47 0)) ∧ (rI v1) ∧ (WMv E m_M_tells d [aP 42, aL (σ1.1 47 0), aL v1] (wr σ1 42 27 0) (fun σ4 => Fix σ4 ∧ (rI (σ4.1 47 0)) ∧ (rI (σ4.1 47 0)) ∧ (WMv E m_M_begins d [aP 42, aI 0, aL (σ4.1 47 0), aL 2, aL (σ4.1 47 0), aL 2] (wr (wr σ4 55 0 (σ4.1 42 16)) 56 0 (σ4.1 42 17)) (fun σ7 => WP E m_M_places (d + 1) 70 [(0, aP 42), (2, aI 0)] [] σ7 Q))))))) : WM E m_M_places (d + 1) [aP 42] σ Q := s_meth (by decide) (Nat.le_of_ble_eq_true rfl) rfl (b_M_places_0 hF h)
theorem b_M_places_70 {E : EV} {d : Nat} {Q : Option AV → St → Prop} {σ : St} (x2 : Int) (hF : Fix σ) (h : (rI x2) ∧ (rI (σ.1 42 10)) ∧ (((σ.1 42 10) ≤ x2 → Q none σ) ∧ (¬ (σ.1 42 10) ≤ x2 → (0 ≤ x2 ∧ x2 < 24) ∧ (WMi E m_M_isSign d [aI (σ.1 50 x2)] σ (fun v4 σ4 => Fix σ4 ∧ (rI v4) ∧ ((v4 = 0 → (0 ≤ x2 ∧ x2 < 24) ∧ (rI (σ4.1 50 x2)) ∧ ((300 ≤ (σ4.1 50 x2) → WP E m_M_places (d + 1) 126 [(0, aP 42), (2, aI x2)] [aI 0] σ4 Q) ∧ (¬ 300 ≤ (σ4.1 50 x2) → WP E m_M_places (d + 1) 126 [(0, aP 42), (2, aI x2)] [aI 1] σ4 Q))) ∧ (¬ v4 = 0 → (0 ≤ x2 ∧ x2 < 24) ∧ (rI (σ4.1 50 x2)) ∧ (((σ4.1 50 x2) < 100 → WP E m_M_places (d + 1) 307 [(0, aP 42), (2, aI x2)] [] σ4 Q) ∧ (¬ (σ4.1 50 x2) < 100 → (WMv E m_M_goesInside d [aP 42, aI x2] σ4 (fun σ10 => WP E m_M_places (d + 1) 307 [(0, aP 42), (2, aI x2)] [] σ10 Q))))))))))) : WP E m_M_places (d + 1) 70 [(0, aP 42), (2, aI x2)] [] σ Q := by
  refine s_iload_n 1 d_M_places_70 rfl rfl ?_
  refine s_aload_n 0 d_M_places_71 rfl rfl ?_
  refine s_getF (v := σ.1 42 10) d_M_places_72 fl_M_189 rfl (sf_42 hF) rfl ?_
  obtain ⟨g1, h⟩ := h
  obtain ⟨g2, h⟩ := h
  refine s_icmp_ge d_M_places_75 rfl g1 g2 (fun c => ?_) (fun c => ?_)
  · have h := h.1 c
    exact s_return d_M_places_313 rfl h
  · have h := h.2 c
    refine s_aload_n 0 d_M_places_78 rfl rfl ?_
    refine s_getF (v := 50) d_M_places_79 fl_M_35 rfl (sf_42 hF) (ff_35 hF) ?_
    refine s_iload_n 1 d_M_places_82 rfl rfl ?_
    obtain ⟨g3, h⟩ := h
    refine s_ialoadv (v := σ.1 50 x2) d_M_places_83 ⟨_, sf_50 hF, g3.1, g3.2, by have := g3.2; omega⟩ rfl ?_
    refine s_callS (as := [aI (σ.1 50 x2)]) d_M_places_84 ok_M_isSign lk_M_199 to_M_isSign rfl (Nat.le_of_ble_eq_true rfl) rfl (WM.mono h ?_)
    rintro _ σ4 ⟨v4, rfl, hp, h⟩
    obtain ⟨hF4, h⟩ := h
    show WP E m_M_places (d + 1) 87 [(0, aP 42), (2, aI x2)] [aI v4] σ4 Q
    obtain ⟨g5, h⟩ := h
    refine s_if_eq d_M_places_87 rfl g5 (fun c => ?_) (fun c => ?_)
    · have h := h.1 c
      refine s_aload_n 0 d_M_places_109 rfl rfl ?_
      refine s_getF (v := 50) d_M_places_110 fl_M_35 rfl (sf_42 hF4) (ff_35 hF4) ?_
      refine s_iload_n 1 d_M_places_113 rfl rfl ?_
      obtain ⟨g6, h⟩ := h
      refine s_ialoadv (v := σ4.1 50 x2) d_M_places_114 ⟨_, sf_50 hF4, g6.1, g6.2, by have := g6.2; omega⟩ rfl ?_
      refine s_sipush d_M_places_115 (by decide) ?_
      obtain ⟨g7, h⟩ := h
      refine s_icmp_ge d_M_places_118 rfl g7 (by decide) (fun c => ?_) (fun c => ?_)
      · have h := h.1 c
        refine s_iconst d_M_places_125 ?_
        exact h
      · have h := h.2 c
        refine s_iconst d_M_places_121 ?_
        refine s_goto d_M_places_122 rfl ?_
        exact h
    · have h := h.2 c
      refine s_aload_n 0 d_M_places_90 rfl rfl ?_
      refine s_getF (v := 50) d_M_places_91 fl_M_35 rfl (sf_42 hF4) (ff_35 hF4) ?_
      refine s_iload_n 1 d_M_places_94 rfl rfl ?_
      obtain ⟨g8, h⟩ := h
      refine s_ialoadv (v := σ4.1 50 x2) d_M_places_95 ⟨_, sf_50 hF4, g8.1, g8.2, by have := g8.2; omega⟩ rfl ?_
      refine s_bipush d_M_places_96 (by decide) ?_
      obtain ⟨g9, h⟩ := h
      refine s_icmp_lt d_M_places_98 rfl g9 (by decide) (fun c => ?_) (fun c => ?_)
      · have h := h.1 c
        exact h
      · have h := h.2 c
        refine s_aload_n 0 d_M_places_101 rfl rfl ?_
        refine s_iload_n 1 d_M_places_102 rfl rfl ?_
        refine s_callV (as := [aI x2]) (ci := 10) d_M_places_103 ok_M_goesInside lk_M_254 io_M_goesInside so_M_goesInside (by decide) rfl rfl rfl (Nat.le_of_ble_eq_true rfl) rfl (sf_42 hF4) (WM.mono h ?_)
        rintro _ σ10 ⟨rfl, hp, h⟩
        show WP E m_M_places (d + 1) 106 [(0, aP 42), (2, aI x2)] [] σ10 Q
        refine s_goto d_M_places_106 rfl ?_
        exact h
theorem b_M_places_126 {E : EV} {d : Nat} {Q : Option AV → St → Prop} {σ : St} (x2 s0 : Int) (hF : Fix σ) (h : (rI s0) ∧ ((s0 = 0 → (0 ≤ x2 ∧ x2 < 24) ∧ WP E m_M_places (d + 1) 146 [(0, aP 42), (2, aI x2), (3, aI s0)] [aI (σ.1 63 x2)] σ Q) ∧ (¬ s0 = 0 → (0 ≤ x2 ∧ x2 < 24) ∧ WP E m_M_places (d + 1) 146 [(0, aP 42), (2, aI x2), (3, aI s0)] [aI (σ.1 62 x2)] σ Q))) : WP E m_M_places (d + 1) 126 [(0, aP 42), (2, aI x2)] [aI s0] σ Q := by
  refine s_istore_n d_M_places_126 rfl (by decide) rfl ?_
  refine s_iload_n 0 d_M_places_127 rfl rfl ?_
  obtain ⟨g1, h⟩ := h
  refine s_if_eq d_M_places_128 rfl g1 (fun c => ?_) (fun c => ?_)
  · have h := h.1 c
    refine s_aload_n 1 d_M_places_140 rfl rfl ?_
    refine s_getF (v := 63) d_M_places_141 fl_M_75 rfl (sf_42 hF) (ff_48 hF) ?_
    refine s_iload_n 2 d_M_places_144 rfl rfl ?_
    obtain ⟨g2, h⟩ := h
    refine s_ialoadv (v := σ.1 63 x2) d_M_places_145 ⟨_, sf_63 hF, g2.1, g2.2, by have := g2.2; omega⟩ rfl ?_
    refine wp_drop [1, 2, 0] rfl ?_
    exact h
  · have h := h.2 c
    refine s_aload_n 1 d_M_places_131 rfl rfl ?_
    refine s_getF (v := 62) d_M_places_132 fl_M_72 rfl (sf_42 hF) (ff_47 hF) ?_
    refine s_iload_n 2 d_M_places_135 rfl rfl ?_
    obtain ⟨g3, h⟩ := h
    refine s_ialoadv (v := σ.1 62 x2) d_M_places_136 ⟨_, sf_62 hF, g3.1, g3.2, by have := g3.2; omega⟩ rfl ?_
    refine s_goto d_M_places_137 rfl ?_
    refine wp_drop [1, 2, 0] rfl ?_
    exact h
theorem b_M_places_146 {E : EV} {d : Nat} {Q : Option AV → St → Prop} {σ : St} (x2 x3 s0 : Int) (h : WP E m_M_places (d + 1) 156 [(0, aP 42), (2, aI x2), (3, aI x3), (4, aI s0), (5, aI (x2 + 1)), (6, aI 0)] [] σ Q) : WP E m_M_places (d + 1) 146 [(0, aP 42), (2, aI x2), (3, aI x3)] [aI s0] σ Q := by
  refine s_istore d_M_places_146 (by decide) rfl ?_
  refine s_iload_n 2 d_M_places_148 rfl rfl ?_
  refine s_iconst d_M_places_149 ?_
  refine s_iadd d_M_places_150 ?_
  refine s_istore d_M_places_151 (by decide) rfl ?_
  refine s_iconst d_M_places_153 ?_
  refine s_istore d_M_places_154 (by decide) rfl ?_
  refine wp_drop [3, 4, 5, 2, 1, 0] rfl ?_
  exact h
theorem b_M_places_156 {E : EV} {d : Nat} {Q : Option AV → St → Prop} {σ : St} (x2 x3 x4 x5 x6 : Int) (hF : Fix σ) (h : (0 ≤ x2 ∧ x2 < 24) ∧ (WMi E m_M_partsOf d [aI (σ.1 50 x2)] σ (fun v2 σ2 => Fix σ2 ∧ (rI x6) ∧ (rI v2) ∧ ((v2 ≤ x6 → WP E m_M_places (d + 1) 307 [(0, aP 42), (2, aI x2)] [] σ2 Q) ∧ (¬ v2 ≤ x6 → (0 ≤ x2 ∧ x2 < 24) ∧ (0 ≤ x5 ∧ x5 < 24) ∧ (rI x3) ∧ ((x3 = 0 → (0 ≤ x2 ∧ x2 < 24) ∧ (0 ≤ x2 ∧ x2 < 24) ∧ (0 ≤ x5 ∧ x5 < 24) ∧ WP E m_M_places (d + 1) 219 [(0, aP 42), (2, aI x2), (3, aI x3), (4, aI x4), (5, aI x5), (6, aI x6)] [aI (((σ2.1 62 x2) + (σ2.1 52 x2)) - (σ2.1 52 x5)), aI x5, aP 62] (wr σ2 61 x5 (σ2.1 61 x2)) Q) ∧ (¬ x3 = 0 → WP E m_M_places (d + 1) 219 [(0, aP 42), (2, aI x2), (3, aI x3), (4, aI x4), (5, aI x5), (6, aI x6)] [aI x4, aI x5, aP 62] (wr σ2 61 x5 (σ2.1 61 x2)) Q))))))) : WP E m_M_places (d + 1) 156 [(0, aP 42), (2, aI x2), (3, aI x3), (4, aI x4), (5, aI x5), (6, aI x6)] [] σ Q := by
  refine s_iload 5 d_M_places_156 rfl ?_
  refine s_aload_n 0 d_M_places_158 rfl rfl ?_
  refine s_getF (v := 50) d_M_places_159 fl_M_35 rfl (sf_42 hF) (ff_35 hF) ?_
  refine s_iload_n 1 d_M_places_162 rfl rfl ?_
  obtain ⟨g1, h⟩ := h
  refine s_ialoadv (v := σ.1 50 x2) d_M_places_163 ⟨_, sf_50 hF, g1.1, g1.2, by have := g1.2; omega⟩ rfl ?_
  refine s_callS (as := [aI (σ.1 50 x2)]) d_M_places_164 ok_M_partsOf lk_M_182 to_M_partsOf rfl (Nat.le_of_ble_eq_true rfl) rfl (WM.mono h ?_)
  rintro _ σ2 ⟨v2, rfl, hp, h⟩
  obtain ⟨hF2, h⟩ := h
  show WP E m_M_places (d + 1) 167 [(0, aP 42), (2, aI x2), (3, aI x3), (4, aI x4), (5, aI x5), (6, aI x6)] [aI v2, aI x6] σ2 Q
  obtain ⟨g3, h⟩ := h
  obtain ⟨g4, h⟩ := h
  refine s_icmp_ge d_M_places_167 rfl g3 g4 (fun c => ?_) (fun c => ?_)
  · have h := h.1 c
    refine wp_drop [0, 1] rfl ?_
    exact h
  · have h := h.2 c
    refine s_aload_n 0 d_M_places_170 rfl rfl ?_
    refine s_getF (v := 61) d_M_places_171 fl_M_69 rfl (sf_42 hF2) (ff_46 hF2) ?_
    refine s_iload 4 d_M_places_174 rfl ?_
    refine s_aload_n 0 d_M_places_176 rfl rfl ?_
    refine s_getF (v := 61) d_M_places_177 fl_M_69 rfl (sf_42 hF2) (ff_46 hF2) ?_
    refine s_iload_n 1 d_M_places_180 rfl rfl ?_
    obtain ⟨g5, h⟩ := h
    refine s_ialoadv (v := σ2.1 61 x2) d_M_places_181 ⟨_, sf_61 hF2, g5.1, g5.2, by have := g5.2; omega⟩ rfl ?_
    obtain ⟨g6, h⟩ := h
    refine s_iastore d_M_places_182 ⟨_, sf_61 hF2, g6.1, g6.2, by have := g6.2; omega⟩ ?_
    refine s_aload_n 0 d_M_places_183 rfl rfl ?_
    refine s_getF (v := 62) d_M_places_184 fl_M_72 rfl (sf_42 (hF2.wa (a := 61) (by decide))) (ff_47 (hF2.wa (a := 61) (by decide))) ?_
    refine s_iload 4 d_M_places_187 rfl ?_
    refine s_iload_n 2 d_M_places_189 rfl rfl ?_
    obtain ⟨g7, h⟩ := h
    refine s_if_eq d_M_places_190 rfl g7 (fun c => ?_) (fun c => ?_)
    · have h := h.1 c
      refine s_aload_n 0 d_M_places_198 rfl rfl ?_
      refine s_getF (v := 62) d_M_places_199 fl_M_72 rfl (sf_42 (hF2.wa (a := 61) (by decide))) (ff_47 (hF2.wa (a := 61) (by decide))) ?_
      refine s_iload_n 1 d_M_places_202 rfl rfl ?_
      obtain ⟨g8, h⟩ := h
      refine s_ialoadv (v := σ2.1 62 x2) d_M_places_203 ⟨_, sf_62 (hF2.wa (a := 61) (by decide)), g8.1, g8.2, by have := g8.2; omega⟩ rfl ?_
      refine s_aload_n 0 d_M_places_204 rfl rfl ?_
      refine s_getF (v := 52) d_M_places_205 fl_M_41 rfl (sf_42 (hF2.wa (a := 61) (by decide))) (ff_37 (hF2.wa (a := 61) (by decide))) ?_
      refine s_iload_n 1 d_M_places_208 rfl rfl ?_
      obtain ⟨g9, h⟩ := h
      refine s_ialoadv (v := σ2.1 52 x2) d_M_places_209 ⟨_, sf_52 (hF2.wa (a := 61) (by decide)), g9.1, g9.2, by have := g9.2; omega⟩ rfl ?_
      refine s_iadd d_M_places_210 ?_
      refine s_aload_n 0 d_M_places_211 rfl rfl ?_
      refine s_getF (v := 52) d_M_places_212 fl_M_41 rfl (sf_42 (hF2.wa (a := 61) (by decide))) (ff_37 (hF2.wa (a := 61) (by decide))) ?_
      refine s_iload 4 d_M_places_215 rfl ?_
      obtain ⟨g10, h⟩ := h
      refine s_ialoadv (v := σ2.1 52 x5) d_M_places_217 ⟨_, sf_52 (hF2.wa (a := 61) (by decide)), g10.1, g10.2, by have := g10.2; omega⟩ rfl ?_
      refine s_isub d_M_places_218 ?_
      exact h
    · have h := h.2 c
      refine s_iload 3 d_M_places_193 rfl ?_
      refine s_goto d_M_places_195 rfl ?_
      exact h
theorem b_M_places_219 {E : EV} {d : Nat} {Q : Option AV → St → Prop} {σ : St} (x2 x3 x4 x5 x6 s0 s1 s2 : Int) (h : (inb σ s0 20 s1) ∧ (sh (wr σ s0 s1 s2) 42 = some (10, 74)) ∧ (rI x3) ∧ ((x3 = 0 → WP E m_M_places (d + 1) 256 [(0, aP 42), (2, aI x2), (3, aI x3), (4, aI x4), (5, aI x5), (6, aI x6)] [aI x4, aI x5, aP ((wr σ s0 s1 s2).1 42 26)] (wr σ s0 s1 s2) Q) ∧ (¬ x3 = 0 → (sh (wr σ s0 s1 s2) 42 = some (10, 74)) ∧ (inb (wr σ s0 s1 s2) ((wr σ s0 s1 s2).1 42 26) 20 x2) ∧ (sh (wr σ s0 s1 s2) 42 = some (10, 74)) ∧ (inb (wr σ s0 s1 s2) ((wr σ s0 s1 s2).1 42 14) 20 x2) ∧ (sh (wr σ s0 s1 s2) 42 = some (10, 74)) ∧ (inb (wr σ s0 s1 s2) ((wr σ s0 s1 s2).1 42 14) 20 x5) ∧ WP E m_M_places (d + 1) 256 [(0, aP 42), (2, aI x2), (3, aI x3), (4, aI x4), (5, aI x5), (6, aI x6)] [aI ((((wr σ s0 s1 s2).1 ((wr σ s0 s1 s2).1 42 26) x2) + ((wr σ s0 s1 s2).1 ((wr σ s0 s1 s2).1 42 14) x2)) - ((wr σ s0 s1 s2).1 ((wr σ s0 s1 s2).1 42 14) x5)), aI x5, aP ((wr σ s0 s1 s2).1 42 26)] (wr σ s0 s1 s2) Q))) : WP E m_M_places (d + 1) 219 [(0, aP 42), (2, aI x2), (3, aI x3), (4, aI x4), (5, aI x5), (6, aI x6)] [aI s2, aI s1, aP s0] σ Q := by
  obtain ⟨g1, h⟩ := h
  refine s_iastore d_M_places_219 g1 ?_
  refine s_aload_n 0 d_M_places_220 rfl rfl ?_
  obtain ⟨g2, h⟩ := h
  refine s_getF (v := (wr σ s0 s1 s2).1 42 26) d_M_places_221 fl_M_75 rfl g2 rfl ?_
  refine s_iload 4 d_M_places_224 rfl ?_
  refine s_iload_n 2 d_M_places_226 rfl rfl ?_
  obtain ⟨g3, h⟩ := h
  refine s_if_eq d_M_places_227 rfl g3 (fun c => ?_) (fun c => ?_)
  · have h := h.1 c
    refine s_iload 3 d_M_places_254 rfl ?_
    exact h
  · have h := h.2 c
    refine s_aload_n 0 d_M_places_230 rfl rfl ?_
    obtain ⟨g4, h⟩ := h
    refine s_getF (v := (wr σ s0 s1 s2).1 42 26) d_M_places_231 fl_M_75 rfl g4 rfl ?_
    refine s_iload_n 1 d_M_places_234 rfl rfl ?_
    obtain ⟨g5, h⟩ := h
    refine s_ialoadv (v := (wr σ s0 s1 s2).1 ((wr σ s0 s1 s2).1 42 26) x2) d_M_places_235 g5 rfl ?_
    refine s_aload_n 0 d_M_places_236 rfl rfl ?_
    obtain ⟨g6, h⟩ := h
    refine s_getF (v := (wr σ s0 s1 s2).1 42 14) d_M_places_237 fl_M_44 rfl g6 rfl ?_
    refine s_iload_n 1 d_M_places_240 rfl rfl ?_
    obtain ⟨g7, h⟩ := h
    refine s_ialoadv (v := (wr σ s0 s1 s2).1 ((wr σ s0 s1 s2).1 42 14) x2) d_M_places_241 g7 rfl ?_
    refine s_iadd d_M_places_242 ?_
    refine s_aload_n 0 d_M_places_243 rfl rfl ?_
    obtain ⟨g8, h⟩ := h
    refine s_getF (v := (wr σ s0 s1 s2).1 42 14) d_M_places_244 fl_M_44 rfl g8 rfl ?_
    refine s_iload 4 d_M_places_247 rfl ?_
    obtain ⟨g9, h⟩ := h
    refine s_ialoadv (v := (wr σ s0 s1 s2).1 ((wr σ s0 s1 s2).1 42 14) x5) d_M_places_249 g9 rfl ?_
    refine s_isub d_M_places_250 ?_
    refine s_goto d_M_places_251 rfl ?_
    exact h
theorem b_M_places_256 {E : EV} {d : Nat} {Q : Option AV → St → Prop} {σ : St} (x2 x3 x4 x5 x6 s0 s1 s2 : Int) (h : (inb σ s0 20 s1) ∧ (rI x3) ∧ ((x3 = 0 → (sh (wr σ s0 s1 s2) 42 = some (10, 74)) ∧ (inb (wr σ s0 s1 s2) ((wr σ s0 s1 s2).1 42 14) 20 x5) ∧ WP E m_M_places (d + 1) 281 [(0, aP 42), (2, aI x2), (3, aI x3), (5, aI x5), (6, aI x6)] [aI ((wr σ s0 s1 s2).1 ((wr σ s0 s1 s2).1 42 14) x5), aI 2, aI x4] (wr σ s0 s1 s2) Q) ∧ (¬ x3 = 0 → (sh (wr σ s0 s1 s2) 42 = some (10, 74)) ∧ (inb (wr σ s0 s1 s2) ((wr σ s0 s1 s2).1 42 13) 20 x5) ∧ WP E m_M_places (d + 1) 281 [(0, aP 42), (2, aI x2), (3, aI x3), (5, aI x5), (6, aI x6)] [aI ((wr σ s0 s1 s2).1 ((wr σ s0 s1 s2).1 42 13) x5), aI 2, aI x4] (wr σ s0 s1 s2) Q))) : WP E m_M_places (d + 1) 256 [(0, aP 42), (2, aI x2), (3, aI x3), (4, aI x4), (5, aI x5), (6, aI x6)] [aI s2, aI s1, aP s0] σ Q := by
  obtain ⟨g1, h⟩ := h
  refine s_iastore d_M_places_256 g1 ?_
  refine s_iload 3 d_M_places_257 rfl ?_
  refine s_iconst d_M_places_259 ?_
  refine s_iload_n 2 d_M_places_260 rfl rfl ?_
  obtain ⟨g2, h⟩ := h
  refine s_if_eq d_M_places_261 rfl g2 (fun c => ?_) (fun c => ?_)
  · have h := h.1 c
    refine s_aload_n 0 d_M_places_274 rfl rfl ?_
    obtain ⟨g3, h⟩ := h
    refine s_getF (v := (wr σ s0 s1 s2).1 42 14) d_M_places_275 fl_M_44 rfl g3 rfl ?_
    refine s_iload 4 d_M_places_278 rfl ?_
    obtain ⟨g4, h⟩ := h
    refine s_ialoadv (v := (wr σ s0 s1 s2).1 ((wr σ s0 s1 s2).1 42 14) x5) d_M_places_280 g4 rfl ?_
    refine wp_drop [0, 1, 2, 4, 5] rfl ?_
    exact h
  · have h := h.2 c
    refine s_aload_n 0 d_M_places_264 rfl rfl ?_
    obtain ⟨g5, h⟩ := h
    refine s_getF (v := (wr σ s0 s1 s2).1 42 13) d_M_places_265 fl_M_41 rfl g5 rfl ?_
    refine s_iload 4 d_M_places_268 rfl ?_
    obtain ⟨g6, h⟩ := h
    refine s_ialoadv (v := (wr σ s0 s1 s2).1 ((wr σ s0 s1 s2).1 42 13) x5) d_M_places_270 g6 rfl ?_
    refine s_goto d_M_places_271 rfl ?_
    refine wp_drop [0, 1, 2, 4, 5] rfl ?_
    exact h
theorem b_M_places_281 {E : EV} {d : Nat} {Q : Option AV → St → Prop} {σ : St} (x2 x3 x5 x6 s0 s1 s2 : Int) (hF : Fix σ) (h : (0 ≤ x5 ∧ x5 < 24) ∧ WP E m_M_places (d + 1) 156 [(0, aP 42), (2, aI x2), (3, aI x3), (4, aI (s0 + (s1 * (s2 + (σ.1 47 1))))), (5, aI (σ.1 54 x5)), (6, aI (x6 + 1))] [] σ Q) : WP E m_M_places (d + 1) 281 [(0, aP 42), (2, aI x2), (3, aI x3), (5, aI x5), (6, aI x6)] [aI s2, aI s1, aI s0] σ Q := by
  refine s_aload_n 0 d_M_places_281 rfl rfl ?_
  refine s_getF (v := 47) d_M_places_282 fl_M_26 rfl (sf_42 hF) (ff_32 hF) ?_
  refine s_iconst d_M_places_285 ?_
  refine s_ialoadv (v := σ.1 47 1) d_M_places_286 ⟨_, sf_47 hF, by decide, by decide, by decide⟩ rfl ?_
  refine s_iadd d_M_places_287 ?_
  refine s_imul d_M_places_288 ?_
  refine s_iadd d_M_places_289 ?_
  refine s_istore d_M_places_290 (by decide) rfl ?_
  refine s_aload_n 1 d_M_places_292 rfl rfl ?_
  refine s_getF (v := 54) d_M_places_293 fl_M_47 rfl (sf_42 hF) (ff_39 hF) ?_
  refine s_iload 4 d_M_places_296 rfl ?_
  obtain ⟨g1, h⟩ := h
  refine s_ialoadv (v := σ.1 54 x5) d_M_places_298 ⟨_, sf_54 hF, g1.1, g1.2, by have := g1.2; omega⟩ rfl ?_
  refine s_istore d_M_places_299 (by decide) rfl ?_
  refine s_iinc 5 d_M_places_301 rfl (by decide) rfl ?_
  refine s_goto d_M_places_304 rfl ?_
  refine wp_drop [3, 4, 5, 2, 1, 0] rfl ?_
  exact h
theorem b_M_places_307 {E : EV} {d : Nat} {Q : Option AV → St → Prop} {σ : St} (x2 : Int) (h : WP E m_M_places (d + 1) 70 [(0, aP 42), (2, aI (x2 + 1))] [] σ Q) : WP E m_M_places (d + 1) 307 [(0, aP 42), (2, aI x2)] [] σ Q := by
  refine s_iinc 1 d_M_places_307 rfl (by decide) rfl ?_
  refine s_goto d_M_places_310 rfl ?_
  refine wp_drop [1, 0] rfl ?_
  exact h
theorem d_M_greatest_0 : decode m_M_greatest.2.1 0 = .ok (.aload_n 0, 1) := by decide +kernel
theorem d_M_greatest_1 : decode m_M_greatest.2.1 1 = .ok (.invokevirtual 220, 3) := by decide +kernel
theorem d_M_greatest_4 : decode m_M_greatest.2.1 4 = .ok (.aload_n 0, 1) := by decide +kernel
theorem d_M_greatest_5 : decode m_M_greatest.2.1 5 = .ok (.getfield 26, 3) := by decide +kernel
theorem d_M_greatest_8 : decode m_M_greatest.2.1 8 = .ok (.iconst 0, 1) := by decide +kernel
theorem d_M_greatest_9 : decode m_M_greatest.2.1 9 = .ok (.iaload, 1) := by decide +kernel
theorem d_M_greatest_10 : decode m_M_greatest.2.1 10 = .ok (.istore_n 1, 1) := by decide +kernel
theorem d_M_greatest_11 : decode m_M_greatest.2.1 11 = .ok (.aload_n 0, 1) := by decide +kernel
theorem d_M_greatest_12 : decode m_M_greatest.2.1 12 = .ok (.getfield 41, 3) := by decide +kernel
theorem d_M_greatest_15 : decode m_M_greatest.2.1 15 = .ok (.iconst 0, 1) := by decide +kernel
theorem d_M_greatest_16 : decode m_M_greatest.2.1 16 = .ok (.iaload, 1) := by decide +kernel
theorem d_M_greatest_17 : decode m_M_greatest.2.1 17 = .ok (.iload_n 1, 1) := by decide +kernel
theorem d_M_greatest_18 : decode m_M_greatest.2.1 18 = .ok (.if_icmp .le 10, 3) := by decide +kernel
theorem d_M_greatest_21 : decode m_M_greatest.2.1 21 = .ok (.aload_n 0, 1) := by decide +kernel
theorem d_M_greatest_22 : decode m_M_greatest.2.1 22 = .ok (.getfield 41, 3) := by decide +kernel
theorem d_M_greatest_25 : decode m_M_greatest.2.1 25 = .ok (.iconst 0, 1) := by decide +kernel
theorem d_M_greatest_26 : decode m_M_greatest.2.1 26 = .ok (.iaload, 1) := by decide +kernel
theorem d_M_greatest_27 : decode m_M_greatest.2.1 27 = .ok (.istore_n 1, 1) := by decide +kernel
theorem d_M_greatest_28 : decode m_M_greatest.2.1 28 = .ok (.aload_n 0, 1) := by decide +kernel
theorem d_M_greatest_29 : decode m_M_greatest.2.1 29 = .ok (.getfield 44, 3) := by decide +kernel
theorem d_M_greatest_32 : decode m_M_greatest.2.1 32 = .ok (.iconst 0, 1) := by decide +kernel
theorem d_M_greatest_33 : decode m_M_greatest.2.1 33 = .ok (.iaload, 1) := by decide +kernel
theorem d_M_greatest_34 : decode m_M_greatest.2.1 34 = .ok (.iload_n 1, 1) := by decide +kernel
theorem d_M_greatest_35 : decode m_M_greatest.2.1 35 = .ok (.if_icmp .le 12, 3) := by decide +kernel
theorem d_M_greatest_38 : decode m_M_greatest.2.1 38 = .ok (.aload_n 0, 1) := by decide +kernel
theorem d_M_greatest_39 : decode m_M_greatest.2.1 39 = .ok (.getfield 44, 3) := by decide +kernel
theorem d_M_greatest_42 : decode m_M_greatest.2.1 42 = .ok (.iconst 0, 1) := by decide +kernel
theorem d_M_greatest_43 : decode m_M_greatest.2.1 43 = .ok (.iaload, 1) := by decide +kernel
theorem d_M_greatest_44 : decode m_M_greatest.2.1 44 = .ok (.goto 4, 3) := by decide +kernel
theorem d_M_greatest_47 : decode m_M_greatest.2.1 47 = .ok (.iload_n 1, 1) := by decide +kernel
theorem d_M_greatest_48 : decode m_M_greatest.2.1 48 = .ok (.ireturn, 1) := by decide +kernel
theorem b_M_greatest_0 {E : EV} {d : Nat} {Q : Option AV → St → Prop} {σ : St} (hF : Fix σ) (h : (WMv E m_M_measures d [aP 42] σ (fun σ1 => Fix σ1 ∧ (rI (σ1.1 52 0)) ∧ (rI (σ1.1 47 0)) ∧ (((σ1.1 52 0) ≤ (σ1.1 47 0) → WP E m_M_greatest (d + 1) 28 [(0, aP 42), (1, aI (σ1.1 47 0))] [] σ1 Q) ∧ (¬ (σ1.1 52 0) ≤ (σ1.1 47 0) → WP E m_M_greatest (d + 1) 28 [(0, aP 42), (1, aI (σ1.1 52 0))] [] σ1 Q))))) : WP E m_M_greatest (d + 1) 0 [(0, aP 42)] [] σ Q := by
  refine s_aload_n 0 d_M_greatest_0 rfl rfl ?_
  refine s_callV (as := []) (ci := 10) d_M_greatest_1 ok_M_measures lk_M_220 io_M_measures so_M_measures (by decide) rfl rfl rfl (Nat.le_of_ble_eq_true rfl) rfl (sf_42 hF) (WM.mono h ?_)
  rintro _ σ1 ⟨rfl, hp, h⟩
  obtain ⟨hF1, h⟩ := h
  show WP E m_M_greatest (d + 1) 4 [(0, aP 42)] [] σ1 Q
  refine s_aload_n 0 d_M_greatest_4 rfl rfl ?_
  refine s_getF (v := 47) d_M_greatest_5 fl_M_26 rfl (sf_42 hF1) (ff_32 hF1) ?_
  refine s_iconst d_M_greatest_8 ?_
  refine s_ialoadv (v := σ1.1 47 0) d_M_greatest_9 ⟨_, sf_47 hF1, by decide, by decide, by decide⟩ rfl ?_
  refine s_istore_n d_M_greatest_10 rfl (by decide) rfl ?_
  refine s_aload_n 1 d_M_greatest_11 rfl rfl ?_
  refine s_getF (v := 52) d_M_greatest_12 fl_M_41 rfl (sf_42 hF1) (ff_37 hF1) ?_
  refine s_iconst d_M_greatest_15 ?_
  refine s_ialoadv (v := σ1.1 52 0) d_M_greatest_16 ⟨_, sf_52 hF1, by decide, by decide, by decide⟩ rfl ?_
  refine s_iload_n 0 d_M_greatest_17 rfl rfl ?_
  obtain ⟨g2, h⟩ := h
  obtain ⟨g3, h⟩ := h
  refine s_icmp_le d_M_greatest_18 rfl g2 g3 (fun c => ?_) (fun c => ?_)
  · have h := h.1 c
    refine wp_drop [1, 0] rfl ?_
    exact h
  · have h := h.2 c
    refine s_aload_n 1 d_M_greatest_21 rfl rfl ?_
    refine s_getF (v := 52) d_M_greatest_22 fl_M_41 rfl (sf_42 hF1) (ff_37 hF1) ?_
    refine s_iconst d_M_greatest_25 ?_
    refine s_ialoadv (v := σ1.1 52 0) d_M_greatest_26 ⟨_, sf_52 hF1, by decide, by decide, by decide⟩ rfl ?_
    refine s_istore_n d_M_greatest_27 rfl (by decide) rfl ?_
    refine wp_drop [1, 0] rfl ?_
    exact h
theorem e_M_greatest {E : EV} {d : Nat} {Q : Option AV → St → Prop} {σ : St} (hF : Fix σ) (h : (WMv E m_M_measures d [aP 42] σ (fun σ1 => Fix σ1 ∧ (rI (σ1.1 52 0)) ∧ (rI (σ1.1 47 0)) ∧ (((σ1.1 52 0) ≤ (σ1.1 47 0) → WP E m_M_greatest (d + 1) 28 [(0, aP 42), (1, aI (σ1.1 47 0))] [] σ1 Q) ∧ (¬ (σ1.1 52 0) ≤ (σ1.1 47 0) → WP E m_M_greatest (d + 1) 28 [(0, aP 42), (1, aI (σ1.1 52 0))] [] σ1 Q))))) : WM E m_M_greatest (d + 1) [aP 42] σ Q := s_meth (by decide) (Nat.le_of_ble_eq_true rfl) rfl (b_M_greatest_0 hF h)
theorem b_M_greatest_28 {E : EV} {d : Nat} {Q : Option AV → St → Prop} {σ : St} (x1 : Int) (hF : Fix σ) (h : (rI (σ.1 53 0)) ∧ (rI x1) ∧ (((σ.1 53 0) ≤ x1 → Q (some (aI x1)) σ) ∧ (¬ (σ.1 53 0) ≤ x1 → Q (some (aI (σ.1 53 0))) σ))) : WP E m_M_greatest (d + 1) 28 [(0, aP 42), (1, aI x1)] [] σ Q := by
  refine s_aload_n 0 d_M_greatest_28 rfl rfl ?_
  refine s_getF (v := 53) d_M_greatest_29 fl_M_44 rfl (sf_42 hF) (ff_38 hF) ?_
  refine s_iconst d_M_greatest_32 ?_
  refine s_ialoadv (v := σ.1 53 0) d_M_greatest_33 ⟨_, sf_53 hF, by decide, by decide, by decide⟩ rfl ?_
  refine s_iload_n 1 d_M_greatest_34 rfl rfl ?_
  obtain ⟨g1, h⟩ := h
  obtain ⟨g2, h⟩ := h
  refine s_icmp_le d_M_greatest_35 rfl g1 g2 (fun c => ?_) (fun c => ?_)
  · have h := h.1 c
    refine s_iload_n 1 d_M_greatest_47 rfl rfl ?_
    exact s_ireturn d_M_greatest_48 rfl h
  · have h := h.2 c
    refine s_aload_n 0 d_M_greatest_38 rfl rfl ?_
    refine s_getF (v := 53) d_M_greatest_39 fl_M_44 rfl (sf_42 hF) (ff_38 hF) ?_
    refine s_iconst d_M_greatest_42 ?_
    refine s_ialoadv (v := σ.1 53 0) d_M_greatest_43 ⟨_, sf_53 hF, by decide, by decide, by decide⟩ rfl ?_
    refine s_goto d_M_greatest_44 rfl ?_
    exact s_ireturn d_M_greatest_48 rfl h
theorem d_M_measures_0 : decode m_M_measures.2.1 0 = .ok (.aload_n 0, 1) := by decide +kernel
theorem d_M_measures_1 : decode m_M_measures.2.1 1 = .ok (.getfield 189, 3) := by decide +kernel
theorem d_M_measures_4 : decode m_M_measures.2.1 4 = .ok (.iconst 1, 1) := by decide +kernel
theorem d_M_measures_5 : decode m_M_measures.2.1 5 = .ok (.isub, 1) := by decide +kernel
theorem d_M_measures_6 : decode m_M_measures.2.1 6 = .ok (.istore_n 1, 1) := by decide +kernel
theorem d_M_measures_7 : decode m_M_measures.2.1 7 = .ok (.iload_n 1, 1) := by decide +kernel
theorem d_M_measures_8 : decode m_M_measures.2.1 8 = .ok (.ifCond .lt 269, 3) := by decide +kernel
theorem d_M_measures_11 : decode m_M_measures.2.1 11 = .ok (.aload_n 0, 1) := by decide +kernel
theorem d_M_measures_12 : decode m_M_measures.2.1 12 = .ok (.getfield 35, 3) := by decide +kernel
theorem d_M_measures_15 : decode m_M_measures.2.1 15 = .ok (.iload_n 1, 1) := by decide +kernel
theorem d_M_measures_16 : decode m_M_measures.2.1 16 = .ok (.iaload, 1) := by decide +kernel
theorem d_M_measures_17 : decode m_M_measures.2.1 17 = .ok (.invokestatic 199, 3) := by decide +kernel
theorem d_M_measures_20 : decode m_M_measures.2.1 20 = .ok (.ifCond .eq 77, 3) := by decide +kernel
theorem d_M_measures_23 : decode m_M_measures.2.1 23 = .ok (.aload_n 0, 1) := by decide +kernel
theorem d_M_measures_24 : decode m_M_measures.2.1 24 = .ok (.getfield 41, 3) := by decide +kernel
theorem d_M_measures_27 : decode m_M_measures.2.1 27 = .ok (.iload_n 1, 1) := by decide +kernel
theorem d_M_measures_28 : decode m_M_measures.2.1 28 = .ok (.aload_n 0, 1) := by decide +kernel
theorem d_M_measures_29 : decode m_M_measures.2.1 29 = .ok (.getfield 13, 3) := by decide +kernel
theorem d_M_measures_32 : decode m_M_measures.2.1 32 = .ok (.aload_n 0, 1) := by decide +kernel
theorem d_M_measures_33 : decode m_M_measures.2.1 33 = .ok (.getfield 35, 3) := by decide +kernel
theorem d_M_measures_36 : decode m_M_measures.2.1 36 = .ok (.iload_n 1, 1) := by decide +kernel
theorem d_M_measures_37 : decode m_M_measures.2.1 37 = .ok (.iaload, 1) := by decide +kernel
theorem d_M_measures_38 : decode m_M_measures.2.1 38 = .ok (.invokestatic 217, 3) := by decide +kernel
theorem d_M_measures_41 : decode m_M_measures.2.1 41 = .ok (.iaload, 1) := by decide +kernel
theorem d_M_measures_42 : decode m_M_measures.2.1 42 = .ok (.iastore, 1) := by decide +kernel
theorem d_M_measures_43 : decode m_M_measures.2.1 43 = .ok (.aload_n 0, 1) := by decide +kernel
theorem d_M_measures_44 : decode m_M_measures.2.1 44 = .ok (.getfield 44, 3) := by decide +kernel
theorem d_M_measures_47 : decode m_M_measures.2.1 47 = .ok (.iload_n 1, 1) := by decide +kernel
theorem d_M_measures_48 : decode m_M_measures.2.1 48 = .ok (.aload_n 0, 1) := by decide +kernel
theorem d_M_measures_49 : decode m_M_measures.2.1 49 = .ok (.getfield 17, 3) := by decide +kernel
theorem d_M_measures_52 : decode m_M_measures.2.1 52 = .ok (.aload_n 0, 1) := by decide +kernel
theorem d_M_measures_53 : decode m_M_measures.2.1 53 = .ok (.getfield 35, 3) := by decide +kernel
theorem d_M_measures_56 : decode m_M_measures.2.1 56 = .ok (.iload_n 1, 1) := by decide +kernel
theorem d_M_measures_57 : decode m_M_measures.2.1 57 = .ok (.iaload, 1) := by decide +kernel
theorem d_M_measures_58 : decode m_M_measures.2.1 58 = .ok (.invokestatic 217, 3) := by decide +kernel
theorem d_M_measures_61 : decode m_M_measures.2.1 61 = .ok (.iaload, 1) := by decide +kernel
theorem d_M_measures_62 : decode m_M_measures.2.1 62 = .ok (.iastore, 1) := by decide +kernel
theorem d_M_measures_63 : decode m_M_measures.2.1 63 = .ok (.aload_n 0, 1) := by decide +kernel
theorem d_M_measures_64 : decode m_M_measures.2.1 64 = .ok (.getfield 47, 3) := by decide +kernel
theorem d_M_measures_67 : decode m_M_measures.2.1 67 = .ok (.iload_n 1, 1) := by decide +kernel
theorem d_M_measures_68 : decode m_M_measures.2.1 68 = .ok (.aload_n 0, 1) := by decide +kernel
theorem d_M_measures_69 : decode m_M_measures.2.1 69 = .ok (.getfield 35, 3) := by decide +kernel
theorem d_M_measures_72 : decode m_M_measures.2.1 72 = .ok (.iload_n 1, 1) := by decide +kernel
theorem d_M_measures_73 : decode m_M_measures.2.1 73 = .ok (.iaload, 1) := by decide +kernel
theorem d_M_measures_74 : decode m_M_measures.2.1 74 = .ok (.bipush 100, 2) := by decide +kernel
theorem d_M_measures_76 : decode m_M_measures.2.1 76 = .ok (.if_icmp .ge 9, 3) := by decide +kernel
theorem d_M_measures_79 : decode m_M_measures.2.1 79 = .ok (.iload_n 1, 1) := by decide +kernel
theorem d_M_measures_80 : decode m_M_measures.2.1 80 = .ok (.iconst 1, 1) := by decide +kernel
theorem d_M_measures_81 : decode m_M_measures.2.1 81 = .ok (.iadd, 1) := by decide +kernel
theorem d_M_measures_82 : decode m_M_measures.2.1 82 = .ok (.goto 11, 3) := by decide +kernel
theorem d_M_measures_85 : decode m_M_measures.2.1 85 = .ok (.aload_n 0, 1) := by decide +kernel
theorem d_M_measures_86 : decode m_M_measures.2.1 86 = .ok (.getfield 47, 3) := by decide +kernel
theorem d_M_measures_89 : decode m_M_measures.2.1 89 = .ok (.iload_n 1, 1) := by decide +kernel
theorem d_M_measures_90 : decode m_M_measures.2.1 90 = .ok (.iconst 1, 1) := by decide +kernel
theorem d_M_measures_91 : decode m_M_measures.2.1 91 = .ok (.iadd, 1) := by decide +kernel
theorem d_M_measures_92 : decode m_M_measures.2.1 92 = .ok (.iaload, 1) := by decide +kernel
theorem d_M_measures_93 : decode m_M_measures.2.1 93 = .ok (.iastore, 1) := by decide +kernel
theorem d_M_measures_94 : decode m_M_measures.2.1 94 = .ok (.goto 177, 3) := by decide +kernel
theorem d_M_measures_97 : decode m_M_measures.2.1 97 = .ok (.aload_n 0, 1) := by decide +kernel
theorem d_M_measures_98 : decode m_M_measures.2.1 98 = .ok (.getfield 35, 3) := by decide +kernel
theorem d_M_measures_101 : decode m_M_measures.2.1 101 = .ok (.iload_n 1, 1) := by decide +kernel
theorem d_M_measures_102 : decode m_M_measures.2.1 102 = .ok (.iaload, 1) := by decide +kernel
theorem d_M_measures_103 : decode m_M_measures.2.1 103 = .ok (.sipush 300, 3) := by decide +kernel
theorem d_M_measures_106 : decode m_M_measures.2.1 106 = .ok (.if_icmp .ge 7, 3) := by decide +kernel
theorem d_M_measures_109 : decode m_M_measures.2.1 109 = .ok (.iconst 1, 1) := by decide +kernel
theorem d_M_measures_110 : decode m_M_measures.2.1 110 = .ok (.goto 4, 3) := by decide +kernel
theorem d_M_measures_113 : decode m_M_measures.2.1 113 = .ok (.iconst 0, 1) := by decide +kernel
theorem d_M_measures_114 : decode m_M_measures.2.1 114 = .ok (.istore_n 2, 1) := by decide +kernel
theorem d_M_measures_115 : decode m_M_measures.2.1 115 = .ok (.iconst 0, 1) := by decide +kernel
theorem d_M_measures_116 : decode m_M_measures.2.1 116 = .ok (.istore_n 3, 1) := by decide +kernel
theorem d_M_measures_117 : decode m_M_measures.2.1 117 = .ok (.iconst 0, 1) := by decide +kernel
theorem d_M_measures_118 : decode m_M_measures.2.1 118 = .ok (.istore 4, 2) := by decide +kernel
theorem d_M_measures_120 : decode m_M_measures.2.1 120 = .ok (.iload_n 1, 1) := by decide +kernel
theorem d_M_measures_121 : decode m_M_measures.2.1 121 = .ok (.iconst 1, 1) := by decide +kernel
theorem d_M_measures_122 : decode m_M_measures.2.1 122 = .ok (.iadd, 1) := by decide +kernel
theorem d_M_measures_123 : decode m_M_measures.2.1 123 = .ok (.istore 5, 2) := by decide +kernel
theorem d_M_measures_125 : decode m_M_measures.2.1 125 = .ok (.iconst 0, 1) := by decide +kernel
theorem d_M_measures_126 : decode m_M_measures.2.1 126 = .ok (.istore 6, 2) := by decide +kernel
theorem d_M_measures_128 : decode m_M_measures.2.1 128 = .ok (.iload 6, 2) := by decide +kernel
theorem d_M_measures_130 : decode m_M_measures.2.1 130 = .ok (.aload_n 0, 1) := by decide +kernel
theorem d_M_measures_131 : decode m_M_measures.2.1 131 = .ok (.getfield 35, 3) := by decide +kernel
theorem d_M_measures_134 : decode m_M_measures.2.1 134 = .ok (.iload_n 1, 1) := by decide +kernel
theorem d_M_measures_135 : decode m_M_measures.2.1 135 = .ok (.iaload, 1) := by decide +kernel
theorem d_M_measures_136 : decode m_M_measures.2.1 136 = .ok (.invokestatic 182, 3) := by decide +kernel
theorem d_M_measures_139 : decode m_M_measures.2.1 139 = .ok (.if_icmp .ge 92, 3) := by decide +kernel
theorem d_M_measures_142 : decode m_M_measures.2.1 142 = .ok (.iload_n 3, 1) := by decide +kernel
theorem d_M_measures_143 : decode m_M_measures.2.1 143 = .ok (.iload_n 2, 1) := by decide +kernel
theorem d_M_measures_144 : decode m_M_measures.2.1 144 = .ok (.ifCond .eq 13, 3) := by decide +kernel
theorem d_M_measures_147 : decode m_M_measures.2.1 147 = .ok (.aload_n 0, 1) := by decide +kernel
theorem d_M_measures_148 : decode m_M_measures.2.1 148 = .ok (.getfield 41, 3) := by decide +kernel
theorem d_M_measures_151 : decode m_M_measures.2.1 151 = .ok (.iload 5, 2) := by decide +kernel
theorem d_M_measures_153 : decode m_M_measures.2.1 153 = .ok (.iaload, 1) := by decide +kernel
theorem d_M_measures_154 : decode m_M_measures.2.1 154 = .ok (.goto 10, 3) := by decide +kernel
theorem d_M_measures_157 : decode m_M_measures.2.1 157 = .ok (.aload_n 0, 1) := by decide +kernel
theorem d_M_measures_158 : decode m_M_measures.2.1 158 = .ok (.getfield 44, 3) := by decide +kernel
theorem d_M_measures_161 : decode m_M_measures.2.1 161 = .ok (.iload 5, 2) := by decide +kernel
theorem d_M_measures_163 : decode m_M_measures.2.1 163 = .ok (.iaload, 1) := by decide +kernel
theorem d_M_measures_164 : decode m_M_measures.2.1 164 = .ok (.iload 6, 2) := by decide +kernel
theorem d_M_measures_166 : decode m_M_measures.2.1 166 = .ok (.ifCond .le 12, 3) := by decide +kernel
theorem d_M_measures_169 : decode m_M_measures.2.1 169 = .ok (.aload_n 0, 1) := by decide +kernel
theorem d_M_measures_170 : decode m_M_measures.2.1 170 = .ok (.getfield 26, 3) := by decide +kernel
theorem d_M_measures_173 : decode m_M_measures.2.1 173 = .ok (.iconst 1, 1) := by decide +kernel
theorem d_M_measures_174 : decode m_M_measures.2.1 174 = .ok (.iaload, 1) := by decide +kernel
theorem d_M_measures_175 : decode m_M_measures.2.1 175 = .ok (.goto 4, 3) := by decide +kernel
theorem d_M_measures_178 : decode m_M_measures.2.1 178 = .ok (.iconst 0, 1) := by decide +kernel
theorem d_M_measures_179 : decode m_M_measures.2.1 179 = .ok (.iadd, 1) := by decide +kernel
theorem d_M_measures_180 : decode m_M_measures.2.1 180 = .ok (.iadd, 1) := by decide +kernel
theorem d_M_measures_181 : decode m_M_measures.2.1 181 = .ok (.istore_n 3, 1) := by decide +kernel
theorem d_M_measures_182 : decode m_M_measures.2.1 182 = .ok (.iload_n 2, 1) := by decide +kernel
theorem d_M_measures_183 : decode m_M_measures.2.1 183 = .ok (.ifCond .eq 13, 3) := by decide +kernel
theorem d_M_measures_186 : decode m_M_measures.2.1 186 = .ok (.aload_n 0, 1) := by decide +kernel
theorem d_M_measures_187 : decode m_M_measures.2.1 187 = .ok (.getfield 44, 3) := by decide +kernel
theorem d_M_measures_190 : decode m_M_measures.2.1 190 = .ok (.iload 5, 2) := by decide +kernel
theorem d_M_measures_192 : decode m_M_measures.2.1 192 = .ok (.iaload, 1) := by decide +kernel
theorem d_M_measures_193 : decode m_M_measures.2.1 193 = .ok (.goto 10, 3) := by decide +kernel
theorem d_M_measures_196 : decode m_M_measures.2.1 196 = .ok (.aload_n 0, 1) := by decide +kernel
theorem d_M_measures_197 : decode m_M_measures.2.1 197 = .ok (.getfield 41, 3) := by decide +kernel
theorem d_M_measures_200 : decode m_M_measures.2.1 200 = .ok (.iload 5, 2) := by decide +kernel
theorem d_M_measures_202 : decode m_M_measures.2.1 202 = .ok (.iaload, 1) := by decide +kernel
theorem d_M_measures_203 : decode m_M_measures.2.1 203 = .ok (.istore 7, 2) := by decide +kernel
theorem d_M_measures_205 : decode m_M_measures.2.1 205 = .ok (.iload 7, 2) := by decide +kernel
theorem d_M_measures_207 : decode m_M_measures.2.1 207 = .ok (.iload 4, 2) := by decide +kernel
theorem d_M_measures_209 : decode m_M_measures.2.1 209 = .ok (.if_icmp .le 7, 3) := by decide +kernel
theorem d_M_measures_212 : decode m_M_measures.2.1 212 = .ok (.iload 7, 2) := by decide +kernel
theorem d_M_measures_214 : decode m_M_measures.2.1 214 = .ok (.istore 4, 2) := by decide +kernel
theorem d_M_measures_216 : decode m_M_measures.2.1 216 = .ok (.aload_n 0, 1) := by decide +kernel
theorem d_M_measures_217 : decode m_M_measures.2.1 217 = .ok (.getfield 47, 3) := by decide +kernel
theorem d_M_measures_220 : decode m_M_measures.2.1 220 = .ok (.iload 5, 2) := by decide +kernel
theorem d_M_measures_222 : decode m_M_measures.2.1 222 = .ok (.iaload, 1) := by decide +kernel
theorem d_M_measures_223 : decode m_M_measures.2.1 223 = .ok (.istore 5, 2) := by decide +kernel
theorem d_M_measures_225 : decode m_M_measures.2.1 225 = .ok (.iinc 6 1, 3) := by decide +kernel
theorem d_M_measures_228 : decode m_M_measures.2.1 228 = .ok (.goto (-100), 3) := by decide +kernel
theorem d_M_measures_231 : decode m_M_measures.2.1 231 = .ok (.aload_n 0, 1) := by decide +kernel
theorem d_M_measures_232 : decode m_M_measures.2.1 232 = .ok (.getfield 41, 3) := by decide +kernel
theorem d_M_measures_235 : decode m_M_measures.2.1 235 = .ok (.iload_n 1, 1) := by decide +kernel
theorem d_M_measures_236 : decode m_M_measures.2.1 236 = .ok (.iload_n 2, 1) := by decide +kernel
theorem d_M_measures_237 : decode m_M_measures.2.1 237 = .ok (.ifCond .eq 7, 3) := by decide +kernel
theorem d_M_measures_240 : decode m_M_measures.2.1 240 = .ok (.iload_n 3, 1) := by decide +kernel
theorem d_M_measures_241 : decode m_M_measures.2.1 241 = .ok (.goto 5, 3) := by decide +kernel
theorem d_M_measures_244 : decode m_M_measures.2.1 244 = .ok (.iload 4, 2) := by decide +kernel
theorem d_M_measures_246 : decode m_M_measures.2.1 246 = .ok (.iastore, 1) := by decide +kernel
theorem d_M_measures_247 : decode m_M_measures.2.1 247 = .ok (.aload_n 0, 1) := by decide +kernel
theorem d_M_measures_248 : decode m_M_measures.2.1 248 = .ok (.getfield 44, 3) := by decide +kernel
theorem d_M_measures_251 : decode m_M_measures.2.1 251 = .ok (.iload_n 1, 1) := by decide +kernel
theorem d_M_measures_252 : decode m_M_measures.2.1 252 = .ok (.iload_n 2, 1) := by decide +kernel
theorem d_M_measures_253 : decode m_M_measures.2.1 253 = .ok (.ifCond .eq 8, 3) := by decide +kernel
theorem d_M_measures_256 : decode m_M_measures.2.1 256 = .ok (.iload 4, 2) := by decide +kernel
theorem d_M_measures_258 : decode m_M_measures.2.1 258 = .ok (.goto 4, 3) := by decide +kernel
theorem d_M_measures_261 : decode m_M_measures.2.1 261 = .ok (.iload_n 3, 1) := by decide +kernel
theorem d_M_measures_262 : decode m_M_measures.2.1 262 = .ok (.iastore, 1) := by decide +kernel
theorem d_M_measures_263 : decode m_M_measures.2.1 263 = .ok (.aload_n 0, 1) := by decide +kernel
theorem d_M_measures_264 : decode m_M_measures.2.1 264 = .ok (.getfield 47, 3) := by decide +kernel
theorem d_M_measures_267 : decode m_M_measures.2.1 267 = .ok (.iload_n 1, 1) := by decide +kernel
theorem d_M_measures_268 : decode m_M_measures.2.1 268 = .ok (.iload 5, 2) := by decide +kernel
theorem d_M_measures_270 : decode m_M_measures.2.1 270 = .ok (.iastore, 1) := by decide +kernel
theorem d_M_measures_271 : decode m_M_measures.2.1 271 = .ok (.iinc 1 (-1), 3) := by decide +kernel
theorem d_M_measures_274 : decode m_M_measures.2.1 274 = .ok (.goto (-267), 3) := by decide +kernel
theorem d_M_measures_277 : decode m_M_measures.2.1 277 = .ok (.return_, 1) := by decide +kernel
theorem b_M_measures_0 {E : EV} {d : Nat} {Q : Option AV → St → Prop} {σ : St} (hF : Fix σ) (h : WP E m_M_measures (d + 1) 7 [(0, aP 42), (1, aI ((σ.1 42 10) - 1))] [] σ Q) : WP E m_M_measures (d + 1) 0 [(0, aP 42)] [] σ Q := by
  refine s_aload_n 0 d_M_measures_0 rfl rfl ?_
  refine s_getF (v := σ.1 42 10) d_M_measures_1 fl_M_189 rfl (sf_42 hF) rfl ?_
  refine s_iconst d_M_measures_4 ?_
  refine s_isub d_M_measures_5 ?_
  refine s_istore_n d_M_measures_6 rfl (by decide) rfl ?_
  refine wp_drop [1, 0] rfl ?_
  exact h
theorem e_M_measures {E : EV} {d : Nat} {Q : Option AV → St → Prop} {σ : St} (hF : Fix σ) (h : WP E m_M_measures (d + 1) 7 [(0, aP 42), (1, aI ((σ.1 42 10) - 1))] [] σ Q) : WM E m_M_measures (d + 1) [aP 42] σ Q := s_meth (by decide) (Nat.le_of_ble_eq_true rfl) rfl (b_M_measures_0 hF h)
theorem b_M_measures_7 {E : EV} {d : Nat} {Q : Option AV → St → Prop} {σ : St} (x1 : Int) (hF : Fix σ) (h : (rI x1) ∧ ((x1 < 0 → Q none σ) ∧ (¬ x1 < 0 → (0 ≤ x1 ∧ x1 < 24) ∧ (WMi E m_M_isSign d [aI (σ.1 50 x1)] σ (fun v3 σ3 => Fix σ3 ∧ (rI v3) ∧ ((v3 = 0 → (0 ≤ x1 ∧ x1 < 24) ∧ (rI (σ3.1 50 x1)) ∧ ((300 ≤ (σ3.1 50 x1) → WP E m_M_measures (d + 1) 114 [(0, aP 42), (1, aI x1)] [aI 0] σ3 Q) ∧ (¬ 300 ≤ (σ3.1 50 x1) → WP E m_M_measures (d + 1) 114 [(0, aP 42), (1, aI x1)] [aI 1] σ3 Q))) ∧ (¬ v3 = 0 → (0 ≤ x1 ∧ x1 < 24) ∧ (WMi E m_M_letterOf d [aI (σ3.1 50 x1)] σ3 (fun v8 σ8 => Fix σ8 ∧ (0 ≤ v8 ∧ v8 < 26) ∧ (0 ≤ x1 ∧ x1 < 24) ∧ (0 ≤ x1 ∧ x1 < 24) ∧ (WMi E m_M_letterOf d [aI (σ8.1 50 x1)] (wr σ8 52 x1 (σ8.1 43 v8)) (fun v12 σ12 => Fix σ12 ∧ (0 ≤ v12 ∧ v12 < 26) ∧ (0 ≤ x1 ∧ x1 < 24) ∧ (0 ≤ x1 ∧ x1 < 24) ∧ (rI (σ12.1 50 x1)) ∧ ((100 ≤ (σ12.1 50 x1) → (0 ≤ (x1 + 1) ∧ (x1 + 1) < 24) ∧ WP E m_M_measures (d + 1) 93 [(0, aP 42), (1, aI x1)] [aI (σ12.1 54 (x1 + 1)), aI x1, aP 54] (wr σ12 53 x1 (σ12.1 44 v12)) Q) ∧ (¬ 100 ≤ (σ12.1 50 x1) → WP E m_M_measures (d + 1) 93 [(0, aP 42), (1, aI x1)] [aI (x1 + 1), aI x1, aP 54] (wr σ12 53 x1 (σ12.1 44 v12)) Q))))))))))))) : WP E m_M_measures (d + 1) 7 [(0, aP 42), (1, aI x1)] [] σ Q := by
  refine s_iload_n 1 d_M_measures_7 rfl rfl ?_
  obtain ⟨g1, h⟩ := h
  refine s_if_lt d_M_measures_8 rfl g1 (fun c => ?_) (fun c => ?_)
  · have h := h.1 c
    exact s_return d_M_measures_277 rfl h
  · have h := h.2 c
    refine s_aload_n 0 d_M_measures_11 rfl rfl ?_
    refine s_getF (v := 50) d_M_measures_12 fl_M_35 rfl (sf_42 hF) (ff_35 hF) ?_
    refine s_iload_n 1 d_M_measures_15 rfl rfl ?_
    obtain ⟨g2, h⟩ := h
    refine s_ialoadv (v := σ.1 50 x1) d_M_measures_16 ⟨_, sf_50 hF, g2.1, g2.2, by have := g2.2; omega⟩ rfl ?_
    refine s_callS (as := [aI (σ.1 50 x1)]) d_M_measures_17 ok_M_isSign lk_M_199 to_M_isSign rfl (Nat.le_of_ble_eq_true rfl) rfl (WM.mono h ?_)
    rintro _ σ3 ⟨v3, rfl, hp, h⟩
    obtain ⟨hF3, h⟩ := h
    show WP E m_M_measures (d + 1) 20 [(0, aP 42), (1, aI x1)] [aI v3] σ3 Q
    obtain ⟨g4, h⟩ := h
    refine s_if_eq d_M_measures_20 rfl g4 (fun c => ?_) (fun c => ?_)
    · have h := h.1 c
      refine s_aload_n 0 d_M_measures_97 rfl rfl ?_
      refine s_getF (v := 50) d_M_measures_98 fl_M_35 rfl (sf_42 hF3) (ff_35 hF3) ?_
      refine s_iload_n 1 d_M_measures_101 rfl rfl ?_
      obtain ⟨g5, h⟩ := h
      refine s_ialoadv (v := σ3.1 50 x1) d_M_measures_102 ⟨_, sf_50 hF3, g5.1, g5.2, by have := g5.2; omega⟩ rfl ?_
      refine s_sipush d_M_measures_103 (by decide) ?_
      obtain ⟨g6, h⟩ := h
      refine s_icmp_ge d_M_measures_106 rfl g6 (by decide) (fun c => ?_) (fun c => ?_)
      · have h := h.1 c
        refine s_iconst d_M_measures_113 ?_
        exact h
      · have h := h.2 c
        refine s_iconst d_M_measures_109 ?_
        refine s_goto d_M_measures_110 rfl ?_
        exact h
    · have h := h.2 c
      refine s_aload_n 0 d_M_measures_23 rfl rfl ?_
      refine s_getF (v := 52) d_M_measures_24 fl_M_41 rfl (sf_42 hF3) (ff_37 hF3) ?_
      refine s_iload_n 1 d_M_measures_27 rfl rfl ?_
      refine s_aload_n 0 d_M_measures_28 rfl rfl ?_
      refine s_getF (v := 43) d_M_measures_29 fl_M_13 rfl (sf_42 hF3) (ff_28 hF3) ?_
      refine s_aload_n 0 d_M_measures_32 rfl rfl ?_
      refine s_getF (v := 50) d_M_measures_33 fl_M_35 rfl (sf_42 hF3) (ff_35 hF3) ?_
      refine s_iload_n 1 d_M_measures_36 rfl rfl ?_
      obtain ⟨g7, h⟩ := h
      refine s_ialoadv (v := σ3.1 50 x1) d_M_measures_37 ⟨_, sf_50 hF3, g7.1, g7.2, by have := g7.2; omega⟩ rfl ?_
      refine s_callS (as := [aI (σ3.1 50 x1)]) d_M_measures_38 ok_M_letterOf lk_M_217 to_M_letterOf rfl (Nat.le_of_ble_eq_true rfl) rfl (WM.mono h ?_)
      rintro _ σ8 ⟨v8, rfl, hp, h⟩
      obtain ⟨hF8, h⟩ := h
      show WP E m_M_measures (d + 1) 41 [(0, aP 42), (1, aI x1)] [aI v8, aP 43, aI x1, aP 52] σ8 Q
      obtain ⟨g9, h⟩ := h
      refine s_ialoadv (v := σ8.1 43 v8) d_M_measures_41 ⟨_, sf_43 hF8, g9.1, g9.2, by have := g9.2; omega⟩ rfl ?_
      obtain ⟨g10, h⟩ := h
      refine s_iastore d_M_measures_42 ⟨_, sf_52 hF8, g10.1, g10.2, by have := g10.2; omega⟩ ?_
      refine s_aload_n 0 d_M_measures_43 rfl rfl ?_
      refine s_getF (v := 53) d_M_measures_44 fl_M_44 rfl (sf_42 (hF8.wa (a := 52) (by decide))) (ff_38 (hF8.wa (a := 52) (by decide))) ?_
      refine s_iload_n 1 d_M_measures_47 rfl rfl ?_
      refine s_aload_n 0 d_M_measures_48 rfl rfl ?_
      refine s_getF (v := 44) d_M_measures_49 fl_M_17 rfl (sf_42 (hF8.wa (a := 52) (by decide))) (ff_29 (hF8.wa (a := 52) (by decide))) ?_
      refine s_aload_n 0 d_M_measures_52 rfl rfl ?_
      refine s_getF (v := 50) d_M_measures_53 fl_M_35 rfl (sf_42 (hF8.wa (a := 52) (by decide))) (ff_35 (hF8.wa (a := 52) (by decide))) ?_
      refine s_iload_n 1 d_M_measures_56 rfl rfl ?_
      obtain ⟨g11, h⟩ := h
      refine s_ialoadv (v := σ8.1 50 x1) d_M_measures_57 ⟨_, sf_50 (hF8.wa (a := 52) (by decide)), g11.1, g11.2, by have := g11.2; omega⟩ rfl ?_
      refine s_callS (as := [aI (σ8.1 50 x1)]) d_M_measures_58 ok_M_letterOf lk_M_217 to_M_letterOf rfl (Nat.le_of_ble_eq_true rfl) rfl (WM.mono h ?_)
      rintro _ σ12 ⟨v12, rfl, hp, h⟩
      obtain ⟨hF12, h⟩ := h
      show WP E m_M_measures (d + 1) 61 [(0, aP 42), (1, aI x1)] [aI v12, aP 44, aI x1, aP 53] σ12 Q
      obtain ⟨g13, h⟩ := h
      refine s_ialoadv (v := σ12.1 44 v12) d_M_measures_61 ⟨_, sf_44 hF12, g13.1, g13.2, by have := g13.2; omega⟩ rfl ?_
      obtain ⟨g14, h⟩ := h
      refine s_iastore d_M_measures_62 ⟨_, sf_53 hF12, g14.1, g14.2, by have := g14.2; omega⟩ ?_
      refine s_aload_n 0 d_M_measures_63 rfl rfl ?_
      refine s_getF (v := 54) d_M_measures_64 fl_M_47 rfl (sf_42 (hF12.wa (a := 53) (by decide))) (ff_39 (hF12.wa (a := 53) (by decide))) ?_
      refine s_iload_n 1 d_M_measures_67 rfl rfl ?_
      refine s_aload_n 0 d_M_measures_68 rfl rfl ?_
      refine s_getF (v := 50) d_M_measures_69 fl_M_35 rfl (sf_42 (hF12.wa (a := 53) (by decide))) (ff_35 (hF12.wa (a := 53) (by decide))) ?_
      refine s_iload_n 1 d_M_measures_72 rfl rfl ?_
      obtain ⟨g15, h⟩ := h
      refine s_ialoadv (v := σ12.1 50 x1) d_M_measures_73 ⟨_, sf_50 (hF12.wa (a := 53) (by decide)), g15.1, g15.2, by have := g15.2; omega⟩ rfl ?_
      refine s_bipush d_M_measures_74 (by decide) ?_
      obtain ⟨g16, h⟩ := h
      refine s_icmp_ge d_M_measures_76 rfl g16 (by decide) (fun c => ?_) (fun c => ?_)
      · have h := h.1 c
        refine s_aload_n 0 d_M_measures_85 rfl rfl ?_
        refine s_getF (v := 54) d_M_measures_86 fl_M_47 rfl (sf_42 (hF12.wa (a := 53) (by decide))) (ff_39 (hF12.wa (a := 53) (by decide))) ?_
        refine s_iload_n 1 d_M_measures_89 rfl rfl ?_
        refine s_iconst d_M_measures_90 ?_
        refine s_iadd d_M_measures_91 ?_
        obtain ⟨g17, h⟩ := h
        refine s_ialoadv (v := σ12.1 54 (x1 + 1)) d_M_measures_92 ⟨_, sf_54 (hF12.wa (a := 53) (by decide)), g17.1, g17.2, by have := g17.2; omega⟩ rfl ?_
        exact h
      · have h := h.2 c
        refine s_iload_n 1 d_M_measures_79 rfl rfl ?_
        refine s_iconst d_M_measures_80 ?_
        refine s_iadd d_M_measures_81 ?_
        refine s_goto d_M_measures_82 rfl ?_
        exact h
theorem b_M_measures_93 {E : EV} {d : Nat} {Q : Option AV → St → Prop} {σ : St} (x1 s0 s1 s2 : Int) (h : (inb σ s0 20 s1) ∧ WP E m_M_measures (d + 1) 271 [(0, aP 42), (1, aI x1)] [] (wr σ s0 s1 s2) Q) : WP E m_M_measures (d + 1) 93 [(0, aP 42), (1, aI x1)] [aI s2, aI s1, aP s0] σ Q := by
  obtain ⟨g1, h⟩ := h
  refine s_iastore d_M_measures_93 g1 ?_
  refine s_goto d_M_measures_94 rfl ?_
  exact h
theorem b_M_measures_114 {E : EV} {d : Nat} {Q : Option AV → St → Prop} {σ : St} (x1 s0 : Int) (h : WP E m_M_measures (d + 1) 128 [(0, aP 42), (1, aI x1), (2, aI s0), (3, aI 0), (4, aI 0), (5, aI (x1 + 1)), (6, aI 0)] [] σ Q) : WP E m_M_measures (d + 1) 114 [(0, aP 42), (1, aI x1)] [aI s0] σ Q := by
  refine s_istore_n d_M_measures_114 rfl (by decide) rfl ?_
  refine s_iconst d_M_measures_115 ?_
  refine s_istore_n d_M_measures_116 rfl (by decide) rfl ?_
  refine s_iconst d_M_measures_117 ?_
  refine s_istore d_M_measures_118 (by decide) rfl ?_
  refine s_iload_n 4 d_M_measures_120 rfl rfl ?_
  refine s_iconst d_M_measures_121 ?_
  refine s_iadd d_M_measures_122 ?_
  refine s_istore d_M_measures_123 (by decide) rfl ?_
  refine s_iconst d_M_measures_125 ?_
  refine s_istore d_M_measures_126 (by decide) rfl ?_
  refine wp_drop [5, 6, 4, 3, 2, 1, 0] rfl ?_
  exact h
theorem b_M_measures_128 {E : EV} {d : Nat} {Q : Option AV → St → Prop} {σ : St} (x1 x2 x3 x4 x5 x6 : Int) (hF : Fix σ) (h : (0 ≤ x1 ∧ x1 < 24) ∧ (WMi E m_M_partsOf d [aI (σ.1 50 x1)] σ (fun v2 σ2 => Fix σ2 ∧ (rI x6) ∧ (rI v2) ∧ ((v2 ≤ x6 → (rI x2) ∧ ((x2 = 0 → WP E m_M_measures (d + 1) 246 [(0, aP 42), (1, aI x1), (2, aI x2), (3, aI x3), (4, aI x4), (5, aI x5)] [aI x4, aI x1, aP 52] σ2 Q) ∧ (¬ x2 = 0 → WP E m_M_measures (d + 1) 246 [(0, aP 42), (1, aI x1), (2, aI x2), (3, aI x3), (4, aI x4), (5, aI x5)] [aI x3, aI x1, aP 52] σ2 Q))) ∧ (¬ v2 ≤ x6 → (rI x2) ∧ ((x2 = 0 → (0 ≤ x5 ∧ x5 < 24) ∧ WP E m_M_measures (d + 1) 164 [(0, aP 42), (1, aI x1), (2, aI x2), (4, aI x4), (5, aI x5), (6, aI x6)] [aI (σ2.1 53 x5), aI x3] σ2 Q) ∧ (¬ x2 = 0 → (0 ≤ x5 ∧ x5 < 24) ∧ WP E m_M_measures (d + 1) 164 [(0, aP 42), (1, aI x1), (2, aI x2), (4, aI x4), (5, aI x5), (6, aI x6)] [aI (σ2.1 52 x5), aI x3] σ2 Q))))))) : WP E m_M_measures (d + 1) 128 [(0, aP 42), (1, aI x1), (2, aI x2), (3, aI x3), (4, aI x4), (5, aI x5), (6, aI x6)] [] σ Q := by
  refine s_iload 6 d_M_measures_128 rfl ?_
  refine s_aload_n 0 d_M_measures_130 rfl rfl ?_
  refine s_getF (v := 50) d_M_measures_131 fl_M_35 rfl (sf_42 hF) (ff_35 hF) ?_
  refine s_iload_n 1 d_M_measures_134 rfl rfl ?_
  obtain ⟨g1, h⟩ := h
  refine s_ialoadv (v := σ.1 50 x1) d_M_measures_135 ⟨_, sf_50 hF, g1.1, g1.2, by have := g1.2; omega⟩ rfl ?_
  refine s_callS (as := [aI (σ.1 50 x1)]) d_M_measures_136 ok_M_partsOf lk_M_182 to_M_partsOf rfl (Nat.le_of_ble_eq_true rfl) rfl (WM.mono h ?_)
  rintro _ σ2 ⟨v2, rfl, hp, h⟩
  obtain ⟨hF2, h⟩ := h
  show WP E m_M_measures (d + 1) 139 [(0, aP 42), (1, aI x1), (2, aI x2), (3, aI x3), (4, aI x4), (5, aI x5), (6, aI x6)] [aI v2, aI x6] σ2 Q
  obtain ⟨g3, h⟩ := h
  obtain ⟨g4, h⟩ := h
  refine s_icmp_ge d_M_measures_139 rfl g3 g4 (fun c => ?_) (fun c => ?_)
  · have h := h.1 c
    refine s_aload_n 0 d_M_measures_231 rfl rfl ?_
    refine s_getF (v := 52) d_M_measures_232 fl_M_41 rfl (sf_42 hF2) (ff_37 hF2) ?_
    refine s_iload_n 1 d_M_measures_235 rfl rfl ?_
    refine s_iload_n 2 d_M_measures_236 rfl rfl ?_
    obtain ⟨g5, h⟩ := h
    refine s_if_eq d_M_measures_237 rfl g5 (fun c => ?_) (fun c => ?_)
    · have h := h.1 c
      refine s_iload 4 d_M_measures_244 rfl ?_
      refine wp_drop [0, 1, 2, 3, 4, 5] rfl ?_
      exact h
    · have h := h.2 c
      refine s_iload_n 3 d_M_measures_240 rfl rfl ?_
      refine s_goto d_M_measures_241 rfl ?_
      refine wp_drop [0, 1, 2, 3, 4, 5] rfl ?_
      exact h
  · have h := h.2 c
    refine s_iload_n 3 d_M_measures_142 rfl rfl ?_
    refine s_iload_n 2 d_M_measures_143 rfl rfl ?_
    obtain ⟨g6, h⟩ := h
    refine s_if_eq d_M_measures_144 rfl g6 (fun c => ?_) (fun c => ?_)
    · have h := h.1 c
      refine s_aload_n 0 d_M_measures_157 rfl rfl ?_
      refine s_getF (v := 53) d_M_measures_158 fl_M_44 rfl (sf_42 hF2) (ff_38 hF2) ?_
      refine s_iload 5 d_M_measures_161 rfl ?_
      obtain ⟨g7, h⟩ := h
      refine s_ialoadv (v := σ2.1 53 x5) d_M_measures_163 ⟨_, sf_53 hF2, g7.1, g7.2, by have := g7.2; omega⟩ rfl ?_
      refine wp_drop [0, 1, 2, 4, 5, 6] rfl ?_
      exact h
    · have h := h.2 c
      refine s_aload_n 0 d_M_measures_147 rfl rfl ?_
      refine s_getF (v := 52) d_M_measures_148 fl_M_41 rfl (sf_42 hF2) (ff_37 hF2) ?_
      refine s_iload 5 d_M_measures_151 rfl ?_
      obtain ⟨g8, h⟩ := h
      refine s_ialoadv (v := σ2.1 52 x5) d_M_measures_153 ⟨_, sf_52 hF2, g8.1, g8.2, by have := g8.2; omega⟩ rfl ?_
      refine s_goto d_M_measures_154 rfl ?_
      refine wp_drop [0, 1, 2, 4, 5, 6] rfl ?_
      exact h
theorem b_M_measures_164 {E : EV} {d : Nat} {Q : Option AV → St → Prop} {σ : St} (x1 x2 x4 x5 x6 s0 s1 : Int) (hF : Fix σ) (h : (rI x6) ∧ ((x6 ≤ 0 → WP E m_M_measures (d + 1) 179 [(0, aP 42), (1, aI x1), (2, aI x2), (4, aI x4), (5, aI x5), (6, aI x6)] [aI 0, aI s1, aI s0] σ Q) ∧ (¬ x6 ≤ 0 → WP E m_M_measures (d + 1) 179 [(0, aP 42), (1, aI x1), (2, aI x2), (4, aI x4), (5, aI x5), (6, aI x6)] [aI (σ.1 47 1), aI s1, aI s0] σ Q))) : WP E m_M_measures (d + 1) 164 [(0, aP 42), (1, aI x1), (2, aI x2), (4, aI x4), (5, aI x5), (6, aI x6)] [aI s1, aI s0] σ Q := by
  refine s_iload 5 d_M_measures_164 rfl ?_
  obtain ⟨g1, h⟩ := h
  refine s_if_le d_M_measures_166 rfl g1 (fun c => ?_) (fun c => ?_)
  · have h := h.1 c
    refine s_iconst d_M_measures_178 ?_
    exact h
  · have h := h.2 c
    refine s_aload_n 0 d_M_measures_169 rfl rfl ?_
    refine s_getF (v := 47) d_M_measures_170 fl_M_26 rfl (sf_42 hF) (ff_32 hF) ?_
    refine s_iconst d_M_measures_173 ?_
    refine s_ialoadv (v := σ.1 47 1) d_M_measures_174 ⟨_, sf_47 hF, by decide, by decide, by decide⟩ rfl ?_
    refine s_goto d_M_measures_175 rfl ?_
    exact h
theorem b_M_measures_179 {E : EV} {d : Nat} {Q : Option AV → St → Prop} {σ : St} (x1 x2 x4 x5 x6 s0 s1 s2 : Int) (hF : Fix σ) (h : (rI x2) ∧ ((x2 = 0 → (0 ≤ x5 ∧ x5 < 24) ∧ WP E m_M_measures (d + 1) 203 [(0, aP 42), (1, aI x1), (2, aI x2), (3, aI (s0 + (s1 + s2))), (4, aI x4), (5, aI x5), (6, aI x6)] [aI (σ.1 52 x5)] σ Q) ∧ (¬ x2 = 0 → (0 ≤ x5 ∧ x5 < 24) ∧ WP E m_M_measures (d + 1) 203 [(0, aP 42), (1, aI x1), (2, aI x2), (3, aI (s0 + (s1 + s2))), (4, aI x4), (5, aI x5), (6, aI x6)] [aI (σ.1 53 x5)] σ Q))) : WP E m_M_measures (d + 1) 179 [(0, aP 42), (1, aI x1), (2, aI x2), (4, aI x4), (5, aI x5), (6, aI x6)] [aI s2, aI s1, aI s0] σ Q := by
  refine s_iadd d_M_measures_179 ?_
  refine s_iadd d_M_measures_180 ?_
  refine s_istore_n d_M_measures_181 rfl (by decide) rfl ?_
  refine s_iload_n 3 d_M_measures_182 rfl rfl ?_
  obtain ⟨g1, h⟩ := h
  refine s_if_eq d_M_measures_183 rfl g1 (fun c => ?_) (fun c => ?_)
  · have h := h.1 c
    refine s_aload_n 1 d_M_measures_196 rfl rfl ?_
    refine s_getF (v := 52) d_M_measures_197 fl_M_41 rfl (sf_42 hF) (ff_37 hF) ?_
    refine s_iload 5 d_M_measures_200 rfl ?_
    obtain ⟨g2, h⟩ := h
    refine s_ialoadv (v := σ.1 52 x5) d_M_measures_202 ⟨_, sf_52 hF, g2.1, g2.2, by have := g2.2; omega⟩ rfl ?_
    refine wp_drop [1, 2, 3, 0, 4, 5, 6] rfl ?_
    exact h
  · have h := h.2 c
    refine s_aload_n 1 d_M_measures_186 rfl rfl ?_
    refine s_getF (v := 53) d_M_measures_187 fl_M_44 rfl (sf_42 hF) (ff_38 hF) ?_
    refine s_iload 5 d_M_measures_190 rfl ?_
    obtain ⟨g3, h⟩ := h
    refine s_ialoadv (v := σ.1 53 x5) d_M_measures_192 ⟨_, sf_53 hF, g3.1, g3.2, by have := g3.2; omega⟩ rfl ?_
    refine s_goto d_M_measures_193 rfl ?_
    refine wp_drop [1, 2, 3, 0, 4, 5, 6] rfl ?_
    exact h
theorem b_M_measures_203 {E : EV} {d : Nat} {Q : Option AV → St → Prop} {σ : St} (x1 x2 x3 x4 x5 x6 s0 : Int) (h : (rI s0) ∧ (rI x4) ∧ ((s0 ≤ x4 → WP E m_M_measures (d + 1) 216 [(0, aP 42), (1, aI x1), (2, aI x2), (3, aI x3), (4, aI x4), (5, aI x5), (6, aI x6)] [] σ Q) ∧ (¬ s0 ≤ x4 → WP E m_M_measures (d + 1) 216 [(0, aP 42), (1, aI x1), (2, aI x2), (3, aI x3), (4, aI s0), (5, aI x5), (6, aI x6)] [] σ Q))) : WP E m_M_measures (d + 1) 203 [(0, aP 42), (1, aI x1), (2, aI x2), (3, aI x3), (4, aI x4), (5, aI x5), (6, aI x6)] [aI s0] σ Q := by
  refine s_istore d_M_measures_203 (by decide) rfl ?_
  refine s_iload 0 d_M_measures_205 rfl ?_
  refine s_iload 5 d_M_measures_207 rfl ?_
  obtain ⟨g1, h⟩ := h
  obtain ⟨g2, h⟩ := h
  refine s_icmp_le d_M_measures_209 rfl g1 g2 (fun c => ?_) (fun c => ?_)
  · have h := h.1 c
    refine wp_drop [1, 2, 3, 4, 5, 6, 7] rfl ?_
    exact h
  · have h := h.2 c
    refine s_iload 0 d_M_measures_212 rfl ?_
    refine s_istore d_M_measures_214 (by decide) rfl ?_
    refine wp_drop [2, 3, 4, 5, 0, 6, 7] rfl ?_
    exact h
theorem b_M_measures_216 {E : EV} {d : Nat} {Q : Option AV → St → Prop} {σ : St} (x1 x2 x3 x4 x5 x6 : Int) (hF : Fix σ) (h : (0 ≤ x5 ∧ x5 < 24) ∧ WP E m_M_measures (d + 1) 128 [(0, aP 42), (1, aI x1), (2, aI x2), (3, aI x3), (4, aI x4), (5, aI (σ.1 54 x5)), (6, aI (x6 + 1))] [] σ Q) : WP E m_M_measures (d + 1) 216 [(0, aP 42), (1, aI x1), (2, aI x2), (3, aI x3), (4, aI x4), (5, aI x5), (6, aI x6)] [] σ Q := by
  refine s_aload_n 0 d_M_measures_216 rfl rfl ?_
  refine s_getF (v := 54) d_M_measures_217 fl_M_47 rfl (sf_42 hF) (ff_39 hF) ?_
  refine s_iload 5 d_M_measures_220 rfl ?_
  obtain ⟨g1, h⟩ := h
  refine s_ialoadv (v := σ.1 54 x5) d_M_measures_222 ⟨_, sf_54 hF, g1.1, g1.2, by have := g1.2; omega⟩ rfl ?_
  refine s_istore d_M_measures_223 (by decide) rfl ?_
  refine s_iinc 6 d_M_measures_225 rfl (by decide) rfl ?_
  refine s_goto d_M_measures_228 rfl ?_
  refine wp_drop [2, 3, 4, 5, 6, 1, 0] rfl ?_
  exact h
theorem b_M_measures_246 {E : EV} {d : Nat} {Q : Option AV → St → Prop} {σ : St} (x1 x2 x3 x4 x5 s0 s1 s2 : Int) (h : (inb σ s0 20 s1) ∧ (sh (wr σ s0 s1 s2) 42 = some (10, 74)) ∧ (rI x2) ∧ ((x2 = 0 → WP E m_M_measures (d + 1) 262 [(0, aP 42), (1, aI x1), (5, aI x5)] [aI x3, aI x1, aP ((wr σ s0 s1 s2).1 42 14)] (wr σ s0 s1 s2) Q) ∧ (¬ x2 = 0 → WP E m_M_measures (d + 1) 262 [(0, aP 42), (1, aI x1), (5, aI x5)] [aI x4, aI x1, aP ((wr σ s0 s1 s2).1 42 14)] (wr σ s0 s1 s2) Q))) : WP E m_M_measures (d + 1) 246 [(0, aP 42), (1, aI x1), (2, aI x2), (3, aI x3), (4, aI x4), (5, aI x5)] [aI s2, aI s1, aP s0] σ Q := by
  obtain ⟨g1, h⟩ := h
  refine s_iastore d_M_measures_246 g1 ?_
  refine s_aload_n 0 d_M_measures_247 rfl rfl ?_
  obtain ⟨g2, h⟩ := h
  refine s_getF (v := (wr σ s0 s1 s2).1 42 14) d_M_measures_248 fl_M_44 rfl g2 rfl ?_
  refine s_iload_n 1 d_M_measures_251 rfl rfl ?_
  refine s_iload_n 2 d_M_measures_252 rfl rfl ?_
  obtain ⟨g3, h⟩ := h
  refine s_if_eq d_M_measures_253 rfl g3 (fun c => ?_) (fun c => ?_)
  · have h := h.1 c
    refine s_iload_n 3 d_M_measures_261 rfl rfl ?_
    refine wp_drop [0, 1, 5] rfl ?_
    exact h
  · have h := h.2 c
    refine s_iload 4 d_M_measures_256 rfl ?_
    refine s_goto d_M_measures_258 rfl ?_
    refine wp_drop [0, 1, 5] rfl ?_
    exact h
theorem b_M_measures_262 {E : EV} {d : Nat} {Q : Option AV → St → Prop} {σ : St} (x1 x5 s0 s1 s2 : Int) (h : (inb σ s0 20 s1) ∧ (sh (wr σ s0 s1 s2) 42 = some (10, 74)) ∧ (inb (wr σ s0 s1 s2) ((wr σ s0 s1 s2).1 42 15) 20 x1) ∧ WP E m_M_measures (d + 1) 271 [(0, aP 42), (1, aI x1)] [] (wr (wr σ s0 s1 s2) ((wr σ s0 s1 s2).1 42 15) x1 x5) Q) : WP E m_M_measures (d + 1) 262 [(0, aP 42), (1, aI x1), (5, aI x5)] [aI s2, aI s1, aP s0] σ Q := by
  obtain ⟨g1, h⟩ := h
  refine s_iastore d_M_measures_262 g1 ?_
  refine s_aload_n 0 d_M_measures_263 rfl rfl ?_
  obtain ⟨g2, h⟩ := h
  refine s_getF (v := (wr σ s0 s1 s2).1 42 15) d_M_measures_264 fl_M_47 rfl g2 rfl ?_
  refine s_iload_n 1 d_M_measures_267 rfl rfl ?_
  refine s_iload 2 d_M_measures_268 rfl ?_
  obtain ⟨g3, h⟩ := h
  refine s_iastore d_M_measures_270 g3 ?_
  refine wp_drop [0, 1] rfl ?_
  exact h
theorem b_M_measures_271 {E : EV} {d : Nat} {Q : Option AV → St → Prop} {σ : St} (x1 : Int) (h : WP E m_M_measures (d + 1) 7 [(0, aP 42), (1, aI (x1 + (-1)))] [] σ Q) : WP E m_M_measures (d + 1) 271 [(0, aP 42), (1, aI x1)] [] σ Q := by
  refine s_iinc 1 d_M_measures_271 rfl (by decide) rfl ?_
  refine s_goto d_M_measures_274 rfl ?_
  refine wp_drop [1, 0] rfl ?_
  exact h
theorem d_M_letterOf_0 : decode m_M_letterOf.2.1 0 = .ok (.iload_n 0, 1) := by decide +kernel
theorem d_M_letterOf_1 : decode m_M_letterOf.2.1 1 = .ok (.bipush 100, 2) := by decide +kernel
theorem d_M_letterOf_3 : decode m_M_letterOf.2.1 3 = .ok (.irem, 1) := by decide +kernel
theorem d_M_letterOf_4 : decode m_M_letterOf.2.1 4 = .ok (.iconst 1, 1) := by decide +kernel
theorem d_M_letterOf_5 : decode m_M_letterOf.2.1 5 = .ok (.isub, 1) := by decide +kernel
theorem d_M_letterOf_6 : decode m_M_letterOf.2.1 6 = .ok (.ireturn, 1) := by decide +kernel
theorem b_M_letterOf_0 {E : EV} {d : Nat} {Q : Option AV → St → Prop} {σ : St} (x0 : Int) (h : (0 ≤ x0 ∧ x0 ≤ 2147483647) ∧ Q (some (aI ((x0 % 100) - 1))) σ) : WP E m_M_letterOf d 0 [(0, aI x0)] [] σ Q := by
  refine s_iload_n 0 d_M_letterOf_0 rfl rfl ?_
  refine s_bipush d_M_letterOf_1 (by decide) ?_
  obtain ⟨g1, h⟩ := h
  refine s_irem d_M_letterOf_3 ⟨g1, by decide, by decide⟩ ?_
  refine s_iconst d_M_letterOf_4 ?_
  refine s_isub d_M_letterOf_5 ?_
  exact s_ireturn d_M_letterOf_6 rfl h
theorem e_M_letterOf {E : EV} {d : Nat} {Q : Option AV → St → Prop} {σ : St} (x0 : Int) (h : (0 ≤ x0 ∧ x0 ≤ 2147483647) ∧ Q (some (aI ((x0 % 100) - 1))) σ) : WM E m_M_letterOf d [aI x0] σ Q := s_meth (by decide) (Nat.le_of_ble_eq_true rfl) rfl (b_M_letterOf_0 x0 h)
theorem d_M_partsOf_0 : decode m_M_partsOf.2.1 0 = .ok (.iload_n 0, 1) := by decide +kernel
theorem d_M_partsOf_1 : decode m_M_partsOf.2.1 1 = .ok (.bipush 100, 2) := by decide +kernel
theorem d_M_partsOf_3 : decode m_M_partsOf.2.1 3 = .ok (.if_icmp .ge 7, 3) := by decide +kernel
theorem d_M_partsOf_6 : decode m_M_partsOf.2.1 6 = .ok (.iconst 0, 1) := by decide +kernel
theorem d_M_partsOf_7 : decode m_M_partsOf.2.1 7 = .ok (.goto 18, 3) := by decide +kernel
theorem d_M_partsOf_10 : decode m_M_partsOf.2.1 10 = .ok (.iload_n 0, 1) := by decide +kernel
theorem d_M_partsOf_11 : decode m_M_partsOf.2.1 11 = .ok (.sipush 200, 3) := by decide +kernel
theorem d_M_partsOf_14 : decode m_M_partsOf.2.1 14 = .ok (.if_icmp .ge 7, 3) := by decide +kernel
theorem d_M_partsOf_17 : decode m_M_partsOf.2.1 17 = .ok (.iconst 1, 1) := by decide +kernel
theorem d_M_partsOf_18 : decode m_M_partsOf.2.1 18 = .ok (.goto 7, 3) := by decide +kernel
theorem d_M_partsOf_21 : decode m_M_partsOf.2.1 21 = .ok (.iload_n 0, 1) := by decide +kernel
theorem d_M_partsOf_22 : decode m_M_partsOf.2.1 22 = .ok (.bipush 100, 2) := by decide +kernel
theorem d_M_partsOf_24 : decode m_M_partsOf.2.1 24 = .ok (.irem, 1) := by decide +kernel
theorem d_M_partsOf_25 : decode m_M_partsOf.2.1 25 = .ok (.ireturn, 1) := by decide +kernel
theorem b_M_partsOf_0 {E : EV} {d : Nat} {Q : Option AV → St → Prop} {σ : St} (x0 : Int) (h : (rI x0) ∧ ((100 ≤ x0 → (rI x0) ∧ ((200 ≤ x0 → (0 ≤ x0 ∧ x0 ≤ 2147483647) ∧ Q (some (aI (x0 % 100))) σ) ∧ (¬ 200 ≤ x0 → Q (some (aI 1)) σ))) ∧ (¬ 100 ≤ x0 → Q (some (aI 0)) σ))) : WP E m_M_partsOf d 0 [(0, aI x0)] [] σ Q := by
  refine s_iload_n 0 d_M_partsOf_0 rfl rfl ?_
  refine s_bipush d_M_partsOf_1 (by decide) ?_
  obtain ⟨g1, h⟩ := h
  refine s_icmp_ge d_M_partsOf_3 rfl g1 (by decide) (fun c => ?_) (fun c => ?_)
  · have h := h.1 c
    refine s_iload_n 0 d_M_partsOf_10 rfl rfl ?_
    refine s_sipush d_M_partsOf_11 (by decide) ?_
    obtain ⟨g2, h⟩ := h
    refine s_icmp_ge d_M_partsOf_14 rfl g2 (by decide) (fun c => ?_) (fun c => ?_)
    · have h := h.1 c
      refine s_iload_n 0 d_M_partsOf_21 rfl rfl ?_
      refine s_bipush d_M_partsOf_22 (by decide) ?_
      obtain ⟨g3, h⟩ := h
      refine s_irem d_M_partsOf_24 ⟨g3, by decide, by decide⟩ ?_
      exact s_ireturn d_M_partsOf_25 rfl h
    · have h := h.2 c
      refine s_iconst d_M_partsOf_17 ?_
      refine s_goto d_M_partsOf_18 rfl ?_
      exact s_ireturn d_M_partsOf_25 rfl h
  · have h := h.2 c
    refine s_iconst d_M_partsOf_6 ?_
    refine s_goto d_M_partsOf_7 rfl ?_
    exact s_ireturn d_M_partsOf_25 rfl h
theorem e_M_partsOf {E : EV} {d : Nat} {Q : Option AV → St → Prop} {σ : St} (x0 : Int) (h : (rI x0) ∧ ((100 ≤ x0 → (rI x0) ∧ ((200 ≤ x0 → (0 ≤ x0 ∧ x0 ≤ 2147483647) ∧ Q (some (aI (x0 % 100))) σ) ∧ (¬ 200 ≤ x0 → Q (some (aI 1)) σ))) ∧ (¬ 100 ≤ x0 → Q (some (aI 0)) σ))) : WM E m_M_partsOf d [aI x0] σ Q := s_meth (by decide) (Nat.le_of_ble_eq_true rfl) rfl (b_M_partsOf_0 x0 h)
theorem d_M_tells_0 : decode m_M_tells.2.1 0 = .ok (.lload_n 1, 1) := by decide +kernel
theorem d_M_tells_1 : decode m_M_tells.2.1 1 = .ok (.lload_n 3, 1) := by decide +kernel
theorem d_M_tells_2 : decode m_M_tells.2.1 2 = .ok (.invokestatic 223, 3) := by decide +kernel
theorem d_M_tells_5 : decode m_M_tells.2.1 5 = .ok (.lstore 5, 2) := by decide +kernel
theorem d_M_tells_7 : decode m_M_tells.2.1 7 = .ok (.aload_n 0, 1) := by decide +kernel
theorem d_M_tells_8 : decode m_M_tells.2.1 8 = .ok (.lload_n 1, 1) := by decide +kernel
theorem d_M_tells_9 : decode m_M_tells.2.1 9 = .ok (.lload 5, 2) := by decide +kernel
theorem d_M_tells_11 : decode m_M_tells.2.1 11 = .ok (.ldiv, 1) := by decide +kernel
theorem d_M_tells_12 : decode m_M_tells.2.1 12 = .ok (.putfield 227, 3) := by decide +kernel
theorem d_M_tells_15 : decode m_M_tells.2.1 15 = .ok (.aload_n 0, 1) := by decide +kernel
theorem d_M_tells_16 : decode m_M_tells.2.1 16 = .ok (.lload_n 3, 1) := by decide +kernel
theorem d_M_tells_17 : decode m_M_tells.2.1 17 = .ok (.lload 5, 2) := by decide +kernel
theorem d_M_tells_19 : decode m_M_tells.2.1 19 = .ok (.ldiv, 1) := by decide +kernel
theorem d_M_tells_20 : decode m_M_tells.2.1 20 = .ok (.putfield 231, 3) := by decide +kernel
theorem d_M_tells_23 : decode m_M_tells.2.1 23 = .ok (.return_, 1) := by decide +kernel
theorem b_M_tells_0 {E : EV} {d : Nat} {Q : Option AV → St → Prop} {σ : St} (x1 x3 : Int) (hF : Fix σ) (h : (WMl E m_M_common d [aL x1, aL x3] σ (fun v1 σ1 => Fix σ1 ∧ (rL x1 ∧ 0 < v1 ∧ v1 ≤ 9223372036854775807) ∧ (rL x3 ∧ 0 < v1 ∧ v1 ≤ 9223372036854775807) ∧ Q none (wr (wr σ1 42 16 (x1.tdiv v1)) 42 17 (x3.tdiv v1))))) : WP E m_M_tells (d + 1) 0 [(0, aP 42), (1, aL x1), (3, aL x3)] [] σ Q := by
  refine s_lload_n 1 d_M_tells_0 rfl rfl ?_
  refine s_lload_n 2 d_M_tells_1 rfl rfl ?_
  refine s_callS (as := [aL x1, aL x3]) d_M_tells_2 ok_M_common lk_M_223 to_M_common rfl (Nat.le_of_ble_eq_true rfl) rfl (WM.mono h ?_)
  rintro _ σ1 ⟨v1, rfl, hp, h⟩
  obtain ⟨hF1, h⟩ := h
  show WP E m_M_tells (d + 1) 5 [(0, aP 42), (1, aL x1), (3, aL x3)] [aL v1] σ1 Q
  refine s_lstore d_M_tells_5 (by decide) rfl ?_
  refine s_aload_n 1 d_M_tells_7 rfl rfl ?_
  refine s_lload_n 2 d_M_tells_8 rfl rfl ?_
  refine s_lload 0 d_M_tells_9 rfl ?_
  obtain ⟨g2, h⟩ := h
  refine s_ldiv d_M_tells_11 g2 ?_
  refine s_putf 16 rfl d_M_tells_12 fl_M_227 (fun C T h => by cases h; exact Or.inl rfl) rfl (Or.inr (Or.inl rfl)) (fun h => nomatch h) (sf_42 hF1) ?_
  refine s_aload_n 1 d_M_tells_15 rfl rfl ?_
  refine s_lload_n 3 d_M_tells_16 rfl rfl ?_
  refine s_lload 0 d_M_tells_17 rfl ?_
  obtain ⟨g3, h⟩ := h
  refine s_ldiv d_M_tells_19 g3 ?_
  refine s_putf 17 rfl d_M_tells_20 fl_M_231 (fun C T h => by cases h; exact Or.inl rfl) rfl (Or.inr (Or.inl rfl)) (fun h => nomatch h) (sf_42 (hF1.wf (a := 42) (k := 16) (by decide))) ?_
  exact s_return d_M_tells_23 rfl h
theorem e_M_tells {E : EV} {d : Nat} {Q : Option AV → St → Prop} {σ : St} (x1 x3 : Int) (hF : Fix σ) (h : (WMl E m_M_common d [aL x1, aL x3] σ (fun v1 σ1 => Fix σ1 ∧ (rL x1 ∧ 0 < v1 ∧ v1 ≤ 9223372036854775807) ∧ (rL x3 ∧ 0 < v1 ∧ v1 ≤ 9223372036854775807) ∧ Q none (wr (wr σ1 42 16 (x1.tdiv v1)) 42 17 (x3.tdiv v1))))) : WM E m_M_tells (d + 1) [aP 42, aL x1, aL x3] σ Q := s_meth (by decide) (Nat.le_of_ble_eq_true rfl) rfl (b_M_tells_0 x1 x3 hF h)
theorem d_M_common_0 : decode m_M_common.2.1 0 = .ok (.lload_n 0, 1) := by decide +kernel
theorem d_M_common_1 : decode m_M_common.2.1 1 = .ok (.lconst 0, 1) := by decide +kernel
theorem d_M_common_2 : decode m_M_common.2.1 2 = .ok (.lcmp, 1) := by decide +kernel
theorem d_M_common_3 : decode m_M_common.2.1 3 = .ok (.ifCond .ge 8, 3) := by decide +kernel
theorem d_M_common_6 : decode m_M_common.2.1 6 = .ok (.lload_n 0, 1) := by decide +kernel
theorem d_M_common_7 : decode m_M_common.2.1 7 = .ok (.lneg, 1) := by decide +kernel
theorem d_M_common_8 : decode m_M_common.2.1 8 = .ok (.goto 4, 3) := by decide +kernel
theorem d_M_common_11 : decode m_M_common.2.1 11 = .ok (.lload_n 0, 1) := by decide +kernel
theorem d_M_common_12 : decode m_M_common.2.1 12 = .ok (.lstore 4, 2) := by decide +kernel
theorem d_M_common_14 : decode m_M_common.2.1 14 = .ok (.lload_n 2, 1) := by decide +kernel
theorem d_M_common_15 : decode m_M_common.2.1 15 = .ok (.lstore 6, 2) := by decide +kernel
theorem d_M_common_17 : decode m_M_common.2.1 17 = .ok (.lload 6, 2) := by decide +kernel
theorem d_M_common_19 : decode m_M_common.2.1 19 = .ok (.lconst 0, 1) := by decide +kernel
theorem d_M_common_20 : decode m_M_common.2.1 20 = .ok (.lcmp, 1) := by decide +kernel
theorem d_M_common_21 : decode m_M_common.2.1 21 = .ok (.ifCond .eq 21, 3) := by decide +kernel
theorem d_M_common_24 : decode m_M_common.2.1 24 = .ok (.lload 4, 2) := by decide +kernel
theorem d_M_common_26 : decode m_M_common.2.1 26 = .ok (.lload 6, 2) := by decide +kernel
theorem d_M_common_28 : decode m_M_common.2.1 28 = .ok (.lrem, 1) := by decide +kernel
theorem d_M_common_29 : decode m_M_common.2.1 29 = .ok (.lstore 8, 2) := by decide +kernel
theorem d_M_common_31 : decode m_M_common.2.1 31 = .ok (.lload 6, 2) := by decide +kernel
theorem d_M_common_33 : decode m_M_common.2.1 33 = .ok (.lstore 4, 2) := by decide +kernel
theorem d_M_common_35 : decode m_M_common.2.1 35 = .ok (.lload 8, 2) := by decide +kernel
theorem d_M_common_37 : decode m_M_common.2.1 37 = .ok (.lstore 6, 2) := by decide +kernel
theorem d_M_common_39 : decode m_M_common.2.1 39 = .ok (.goto (-22), 3) := by decide +kernel
theorem d_M_common_42 : decode m_M_common.2.1 42 = .ok (.lload 4, 2) := by decide +kernel
theorem d_M_common_44 : decode m_M_common.2.1 44 = .ok (.lreturn, 1) := by decide +kernel
theorem b_M_common_0 {E : EV} {d : Nat} {Q : Option AV → St → Prop} {σ : St} (x0 x2 : Int) (h : (rL x0) ∧ ((0 ≤ x0 → WP E m_M_common d 12 [(2, aL x2)] [aL x0] σ Q) ∧ (¬ 0 ≤ x0 → WP E m_M_common d 12 [(2, aL x2)] [aL (-x0)] σ Q))) : WP E m_M_common d 0 [(0, aL x0), (2, aL x2)] [] σ Q := by
  refine s_lload_n 0 d_M_common_0 rfl rfl ?_
  refine s_lconst (v := 0) d_M_common_1 rfl ?_
  obtain ⟨g1, h⟩ := h
  refine s_lcmp d_M_common_2 g1 (by decide) ?_
  refine s_if_ge d_M_common_3 rfl (lcmp_r _ _) (fun c => ?_) (fun c => ?_)
  · have h := h.1 (lcmp_ge.mp c)
    refine s_lload_n 0 d_M_common_11 rfl rfl ?_
    refine wp_drop [1] rfl ?_
    exact h
  · have h := h.2 (nlcmp_ge c)
    refine s_lload_n 0 d_M_common_6 rfl rfl ?_
    refine s_lneg d_M_common_7 ?_
    refine s_goto d_M_common_8 rfl ?_
    refine wp_drop [1] rfl ?_
    exact h
theorem e_M_common {E : EV} {d : Nat} {Q : Option AV → St → Prop} {σ : St} (x0 x2 : Int) (h : (rL x0) ∧ ((0 ≤ x0 → WP E m_M_common d 12 [(2, aL x2)] [aL x0] σ Q) ∧ (¬ 0 ≤ x0 → WP E m_M_common d 12 [(2, aL x2)] [aL (-x0)] σ Q))) : WM E m_M_common d [aL x0, aL x2] σ Q := s_meth (by decide) (Nat.le_of_ble_eq_true rfl) rfl (b_M_common_0 x0 x2 h)
theorem b_M_common_12 {E : EV} {d : Nat} {Q : Option AV → St → Prop} {σ : St} (x2 s0 : Int) (h : WP E m_M_common d 17 [(4, aL s0), (6, aL x2)] [] σ Q) : WP E m_M_common d 12 [(2, aL x2)] [aL s0] σ Q := by
  refine s_lstore d_M_common_12 (by decide) rfl ?_
  refine s_lload_n 1 d_M_common_14 rfl rfl ?_
  refine s_lstore d_M_common_15 (by decide) rfl ?_
  refine wp_drop [1, 0] rfl ?_
  exact h
theorem b_M_common_17 {E : EV} {d : Nat} {Q : Option AV → St → Prop} {σ : St} (x4 x6 : Int) (h : (rL x6) ∧ ((x6 = 0 → Q (some (aL x4)) σ) ∧ (¬ x6 = 0 → ((0 ≤ x4 ∧ x4 ≤ 9223372036854775807) ∧ 0 < x6 ∧ x6 ≤ 9223372036854775807) ∧ WP E m_M_common d 17 [(4, aL x6), (6, aL (x4 % x6))] [] σ Q))) : WP E m_M_common d 17 [(4, aL x4), (6, aL x6)] [] σ Q := by
  refine s_lload 1 d_M_common_17 rfl ?_
  refine s_lconst (v := 0) d_M_common_19 rfl ?_
  obtain ⟨g1, h⟩ := h
  refine s_lcmp d_M_common_20 g1 (by decide) ?_
  refine s_if_eq d_M_common_21 rfl (lcmp_r _ _) (fun c => ?_) (fun c => ?_)
  · have h := h.1 (lcmp_eq.mp c)
    refine s_lload 0 d_M_common_42 rfl ?_
    exact s_lreturn d_M_common_44 rfl h
  · have h := h.2 (nlcmp_eq c)
    refine s_lload 0 d_M_common_24 rfl ?_
    refine s_lload 1 d_M_common_26 rfl ?_
    obtain ⟨g2, h⟩ := h
    refine s_lrem d_M_common_28 g2 ?_
    refine s_lstore d_M_common_29 (by decide) rfl ?_
    refine s_lload 2 d_M_common_31 rfl ?_
    refine s_lstore d_M_common_33 (by decide) rfl ?_
    refine s_lload 1 d_M_common_35 rfl ?_
    refine s_lstore d_M_common_37 (by decide) rfl ?_
    refine s_goto d_M_common_39 rfl ?_
    refine wp_drop [1, 0] rfl ?_
    exact h
theorem d_M_begins_0 : decode m_M_begins.2.1 0 = .ok (.aload_n 0, 1) := by decide +kernel
theorem d_M_begins_1 : decode m_M_begins.2.1 1 = .ok (.getfield 238, 3) := by decide +kernel
theorem d_M_begins_4 : decode m_M_begins.2.1 4 = .ok (.istore 10, 2) := by decide +kernel
theorem d_M_begins_6 : decode m_M_begins.2.1 6 = .ok (.aload_n 0, 1) := by decide +kernel
theorem d_M_begins_7 : decode m_M_begins.2.1 7 = .ok (.dup, 1) := by decide +kernel
theorem d_M_begins_8 : decode m_M_begins.2.1 8 = .ok (.getfield 238, 3) := by decide +kernel
theorem d_M_begins_11 : decode m_M_begins.2.1 11 = .ok (.iconst 1, 1) := by decide +kernel
theorem d_M_begins_12 : decode m_M_begins.2.1 12 = .ok (.iadd, 1) := by decide +kernel
theorem d_M_begins_13 : decode m_M_begins.2.1 13 = .ok (.putfield 238, 3) := by decide +kernel
theorem d_M_begins_16 : decode m_M_begins.2.1 16 = .ok (.aload_n 0, 1) := by decide +kernel
theorem d_M_begins_17 : decode m_M_begins.2.1 17 = .ok (.getfield 69, 3) := by decide +kernel
theorem d_M_begins_20 : decode m_M_begins.2.1 20 = .ok (.iload_n 1, 1) := by decide +kernel
theorem d_M_begins_21 : decode m_M_begins.2.1 21 = .ok (.iload 10, 2) := by decide +kernel
theorem d_M_begins_23 : decode m_M_begins.2.1 23 = .ok (.iastore, 1) := by decide +kernel
theorem d_M_begins_24 : decode m_M_begins.2.1 24 = .ok (.aload_n 0, 1) := by decide +kernel
theorem d_M_begins_25 : decode m_M_begins.2.1 25 = .ok (.getfield 72, 3) := by decide +kernel
theorem d_M_begins_28 : decode m_M_begins.2.1 28 = .ok (.iload_n 1, 1) := by decide +kernel
theorem d_M_begins_29 : decode m_M_begins.2.1 29 = .ok (.iconst 0, 1) := by decide +kernel
theorem d_M_begins_30 : decode m_M_begins.2.1 30 = .ok (.iastore, 1) := by decide +kernel
theorem d_M_begins_31 : decode m_M_begins.2.1 31 = .ok (.aload_n 0, 1) := by decide +kernel
theorem d_M_begins_32 : decode m_M_begins.2.1 32 = .ok (.getfield 75, 3) := by decide +kernel
theorem d_M_begins_35 : decode m_M_begins.2.1 35 = .ok (.iload_n 1, 1) := by decide +kernel
theorem d_M_begins_36 : decode m_M_begins.2.1 36 = .ok (.iconst 0, 1) := by decide +kernel
theorem d_M_begins_37 : decode m_M_begins.2.1 37 = .ok (.iastore, 1) := by decide +kernel
theorem d_M_begins_38 : decode m_M_begins.2.1 38 = .ok (.aload_n 0, 1) := by decide +kernel
theorem d_M_begins_39 : decode m_M_begins.2.1 39 = .ok (.lload_n 2, 1) := by decide +kernel
theorem d_M_begins_40 : decode m_M_begins.2.1 40 = .ok (.lload 4, 2) := by decide +kernel
theorem d_M_begins_42 : decode m_M_begins.2.1 42 = .ok (.invokevirtual 234, 3) := by decide +kernel
theorem d_M_begins_45 : decode m_M_begins.2.1 45 = .ok (.aload_n 0, 1) := by decide +kernel
theorem d_M_begins_46 : decode m_M_begins.2.1 46 = .ok (.aload_n 0, 1) := by decide +kernel
theorem d_M_begins_47 : decode m_M_begins.2.1 47 = .ok (.getfield 41, 3) := by decide +kernel
theorem d_M_begins_50 : decode m_M_begins.2.1 50 = .ok (.iload_n 1, 1) := by decide +kernel
theorem d_M_begins_51 : decode m_M_begins.2.1 51 = .ok (.iaload, 1) := by decide +kernel
theorem d_M_begins_52 : decode m_M_begins.2.1 52 = .ok (.ineg, 1) := by decide +kernel
theorem d_M_begins_53 : decode m_M_begins.2.1 53 = .ok (.i2l, 1) := by decide +kernel
theorem d_M_begins_54 : decode m_M_begins.2.1 54 = .ok (.aload_n 0, 1) := by decide +kernel
theorem d_M_begins_55 : decode m_M_begins.2.1 55 = .ok (.getfield 50, 3) := by decide +kernel
theorem d_M_begins_58 : decode m_M_begins.2.1 58 = .ok (.iload 10, 2) := by decide +kernel
theorem d_M_begins_60 : decode m_M_begins.2.1 60 = .ok (.laload, 1) := by decide +kernel
theorem d_M_begins_61 : decode m_M_begins.2.1 61 = .ok (.lmul, 1) := by decide +kernel
theorem d_M_begins_62 : decode m_M_begins.2.1 62 = .ok (.ldc2_w 241, 3) := by decide +kernel
theorem d_M_begins_65 : decode m_M_begins.2.1 65 = .ok (.aload_n 0, 1) := by decide +kernel
theorem d_M_begins_66 : decode m_M_begins.2.1 66 = .ok (.getfield 54, 3) := by decide +kernel
theorem d_M_begins_69 : decode m_M_begins.2.1 69 = .ok (.iload 10, 2) := by decide +kernel
theorem d_M_begins_71 : decode m_M_begins.2.1 71 = .ok (.laload, 1) := by decide +kernel
theorem d_M_begins_72 : decode m_M_begins.2.1 72 = .ok (.lmul, 1) := by decide +kernel
theorem d_M_begins_73 : decode m_M_begins.2.1 73 = .ok (.invokevirtual 243, 3) := by decide +kernel
theorem d_M_begins_76 : decode m_M_begins.2.1 76 = .ok (.aload_n 0, 1) := by decide +kernel
theorem d_M_begins_77 : decode m_M_begins.2.1 77 = .ok (.getfield 57, 3) := by decide +kernel
theorem d_M_begins_80 : decode m_M_begins.2.1 80 = .ok (.iload 10, 2) := by decide +kernel
theorem d_M_begins_82 : decode m_M_begins.2.1 82 = .ok (.aload_n 0, 1) := by decide +kernel
theorem d_M_begins_83 : decode m_M_begins.2.1 83 = .ok (.getfield 227, 3) := by decide +kernel
theorem d_M_begins_86 : decode m_M_begins.2.1 86 = .ok (.lastore, 1) := by decide +kernel
theorem d_M_begins_87 : decode m_M_begins.2.1 87 = .ok (.aload_n 0, 1) := by decide +kernel
theorem d_M_begins_88 : decode m_M_begins.2.1 88 = .ok (.getfield 60, 3) := by decide +kernel
theorem d_M_begins_91 : decode m_M_begins.2.1 91 = .ok (.iload 10, 2) := by decide +kernel
theorem d_M_begins_93 : decode m_M_begins.2.1 93 = .ok (.aload_n 0, 1) := by decide +kernel
theorem d_M_begins_94 : decode m_M_begins.2.1 94 = .ok (.getfield 231, 3) := by decide +kernel
theorem d_M_begins_97 : decode m_M_begins.2.1 97 = .ok (.lastore, 1) := by decide +kernel
theorem d_M_begins_98 : decode m_M_begins.2.1 98 = .ok (.aload_n 0, 1) := by decide +kernel
theorem d_M_begins_99 : decode m_M_begins.2.1 99 = .ok (.lload 6, 2) := by decide +kernel
theorem d_M_begins_101 : decode m_M_begins.2.1 101 = .ok (.lload 8, 2) := by decide +kernel
theorem d_M_begins_103 : decode m_M_begins.2.1 103 = .ok (.invokevirtual 234, 3) := by decide +kernel
theorem d_M_begins_106 : decode m_M_begins.2.1 106 = .ok (.aload_n 0, 1) := by decide +kernel
theorem d_M_begins_107 : decode m_M_begins.2.1 107 = .ok (.aload_n 0, 1) := by decide +kernel
theorem d_M_begins_108 : decode m_M_begins.2.1 108 = .ok (.getfield 44, 3) := by decide +kernel
theorem d_M_begins_111 : decode m_M_begins.2.1 111 = .ok (.iload_n 1, 1) := by decide +kernel
theorem d_M_begins_112 : decode m_M_begins.2.1 112 = .ok (.iaload, 1) := by decide +kernel
theorem d_M_begins_113 : decode m_M_begins.2.1 113 = .ok (.ineg, 1) := by decide +kernel
theorem d_M_begins_114 : decode m_M_begins.2.1 114 = .ok (.i2l, 1) := by decide +kernel
theorem d_M_begins_115 : decode m_M_begins.2.1 115 = .ok (.aload_n 0, 1) := by decide +kernel
theorem d_M_begins_116 : decode m_M_begins.2.1 116 = .ok (.getfield 50, 3) := by decide +kernel
theorem d_M_begins_119 : decode m_M_begins.2.1 119 = .ok (.iload 10, 2) := by decide +kernel
theorem d_M_begins_121 : decode m_M_begins.2.1 121 = .ok (.laload, 1) := by decide +kernel
theorem d_M_begins_122 : decode m_M_begins.2.1 122 = .ok (.lmul, 1) := by decide +kernel
theorem d_M_begins_123 : decode m_M_begins.2.1 123 = .ok (.ldc2_w 241, 3) := by decide +kernel
theorem d_M_begins_126 : decode m_M_begins.2.1 126 = .ok (.aload_n 0, 1) := by decide +kernel
theorem d_M_begins_127 : decode m_M_begins.2.1 127 = .ok (.getfield 54, 3) := by decide +kernel
theorem d_M_begins_130 : decode m_M_begins.2.1 130 = .ok (.iload 10, 2) := by decide +kernel
theorem d_M_begins_132 : decode m_M_begins.2.1 132 = .ok (.laload, 1) := by decide +kernel
theorem d_M_begins_133 : decode m_M_begins.2.1 133 = .ok (.lmul, 1) := by decide +kernel
theorem d_M_begins_134 : decode m_M_begins.2.1 134 = .ok (.invokevirtual 243, 3) := by decide +kernel
theorem d_M_begins_137 : decode m_M_begins.2.1 137 = .ok (.aload_n 0, 1) := by decide +kernel
theorem d_M_begins_138 : decode m_M_begins.2.1 138 = .ok (.getfield 63, 3) := by decide +kernel
theorem d_M_begins_141 : decode m_M_begins.2.1 141 = .ok (.iload 10, 2) := by decide +kernel
theorem d_M_begins_143 : decode m_M_begins.2.1 143 = .ok (.aload_n 0, 1) := by decide +kernel
theorem d_M_begins_144 : decode m_M_begins.2.1 144 = .ok (.getfield 227, 3) := by decide +kernel
theorem d_M_begins_147 : decode m_M_begins.2.1 147 = .ok (.lastore, 1) := by decide +kernel
theorem d_M_begins_148 : decode m_M_begins.2.1 148 = .ok (.aload_n 0, 1) := by decide +kernel
theorem d_M_begins_149 : decode m_M_begins.2.1 149 = .ok (.getfield 66, 3) := by decide +kernel
theorem d_M_begins_152 : decode m_M_begins.2.1 152 = .ok (.iload 10, 2) := by decide +kernel
theorem d_M_begins_154 : decode m_M_begins.2.1 154 = .ok (.aload_n 0, 1) := by decide +kernel
theorem d_M_begins_155 : decode m_M_begins.2.1 155 = .ok (.getfield 231, 3) := by decide +kernel
theorem d_M_begins_158 : decode m_M_begins.2.1 158 = .ok (.lastore, 1) := by decide +kernel
theorem d_M_begins_159 : decode m_M_begins.2.1 159 = .ok (.return_, 1) := by decide +kernel
theorem b_M_begins_0 {E : EV} {d : Nat} {Q : Option AV → St → Prop} {σ : St} (x1 x2 x4 x6 x8 : Int) (hF : Fix σ) (h : (0 ≤ x1 ∧ x1 < 24) ∧ (0 ≤ x1 ∧ x1 < 24) ∧ (0 ≤ x1 ∧ x1 < 24) ∧ (WMv E m_M_tells d [aP 42, aL x2, aL x4] (wr (wr (wr (wr σ 42 27 ((σ.1 42 27) + 1)) 61 x1 (σ.1 42 27)) 62 x1 0) 63 x1 0) (fun σ4 => Fix σ4 ∧ (0 ≤ x1 ∧ x1 < 24) ∧ (rI (-(σ4.1 52 x1))) ∧ (0 ≤ (σ.1 42 27) ∧ (σ.1 42 27) < 12) ∧ (0 ≤ (σ.1 42 27) ∧ (σ.1 42 27) < 12) ∧ (WMv E m_M_plus d [aP 42, aL ((-(σ4.1 52 x1)) * (σ4.1 55 (σ.1 42 27))), aL (2 * (σ4.1 56 (σ.1 42 27)))] σ4 (fun σ9 => Fix σ9 ∧ (0 ≤ (σ.1 42 27) ∧ (σ.1 42 27) < 12) ∧ (0 ≤ (σ.1 42 27) ∧ (σ.1 42 27) < 12) ∧ (WMv E m_M_tells d [aP 42, aL x6, aL x8] (wr (wr σ9 57 (σ.1 42 27) (σ9.1 42 16)) 58 (σ.1 42 27) (σ9.1 42 17)) (fun σ12 => Fix σ12 ∧ (0 ≤ x1 ∧ x1 < 24) ∧ (rI (-(σ12.1 53 x1))) ∧ (0 ≤ (σ.1 42 27) ∧ (σ.1 42 27) < 12) ∧ (0 ≤ (σ.1 42 27) ∧ (σ.1 42 27) < 12) ∧ (WMv E m_M_plus d [aP 42, aL ((-(σ12.1 53 x1)) * (σ12.1 55 (σ.1 42 27))), aL (2 * (σ12.1 56 (σ.1 42 27)))] σ12 (fun σ17 => Fix σ17 ∧ (0 ≤ (σ.1 42 27) ∧ (σ.1 42 27) < 12) ∧ (0 ≤ (σ.1 42 27) ∧ (σ.1 42 27) < 12) ∧ Q none (wr (wr σ17 59 (σ.1 42 27) (σ17.1 42 16)) 60 (σ.1 42 27) (σ17.1 42 17))))))))))) : WP E m_M_begins (d + 1) 0 [(0, aP 42), (1, aI x1), (2, aL x2), (4, aL x4), (6, aL x6), (8, aL x8)] [] σ Q := by
  refine s_aload_n 0 d_M_begins_0 rfl rfl ?_
  refine s_getF (v := σ.1 42 27) d_M_begins_1 fl_M_238 rfl (sf_42 hF) rfl ?_
  refine s_istore d_M_begins_4 (by decide) rfl ?_
  refine s_aload_n 1 d_M_begins_6 rfl rfl ?_
  refine s_dup d_M_begins_7 (Nat.ne_of_beq_eq_false rfl) ?_
  refine s_getF (v := σ.1 42 27) d_M_begins_8 fl_M_238 rfl (sf_42 hF) rfl ?_
  refine s_iconst d_M_begins_11 ?_
  refine s_iadd d_M_begins_12 ?_
  refine s_putf 27 rfl d_M_begins_13 fl_M_238 (fun C T h => by cases h; exact Or.inl rfl) rfl (Or.inl rfl) (fun h => nomatch h) (sf_42 hF) ?_
  refine s_aload_n 1 d_M_begins_16 rfl rfl ?_
  refine s_getF (v := 61) d_M_begins_17 fl_M_69 rfl (sf_42 (hF.wf (a := 42) (k := 27) (by decide))) (ff_46 (hF.wf (a := 42) (k := 27) (by decide))) ?_
  refine s_iload_n 2 d_M_begins_20 rfl rfl ?_
  refine s_iload 0 d_M_begins_21 rfl ?_
  obtain ⟨g1, h⟩ := h
  refine s_iastore d_M_begins_23 ⟨_, sf_61 (hF.wf (a := 42) (k := 27) (by decide)), g1.1, g1.2, by have := g1.2; omega⟩ ?_
  refine s_aload_n 1 d_M_begins_24 rfl rfl ?_
  refine s_getF (v := 62) d_M_begins_25 fl_M_72 rfl (sf_42 ((hF.wf (a := 42) (k := 27) (by decide)).wa (a := 61) (by decide))) (ff_47 ((hF.wf (a := 42) (k := 27) (by decide)).wa (a := 61) (by decide))) ?_
  refine s_iload_n 2 d_M_begins_28 rfl rfl ?_
  refine s_iconst d_M_begins_29 ?_
  obtain ⟨g2, h⟩ := h
  refine s_iastore d_M_begins_30 ⟨_, sf_62 ((hF.wf (a := 42) (k := 27) (by decide)).wa (a := 61) (by decide)), g2.1, g2.2, by have := g2.2; omega⟩ ?_
  refine s_aload_n 1 d_M_begins_31 rfl rfl ?_
  refine s_getF (v := 63) d_M_begins_32 fl_M_75 rfl (sf_42 (((hF.wf (a := 42) (k := 27) (by decide)).wa (a := 61) (by decide)).wa (a := 62) (by decide))) (ff_48 (((hF.wf (a := 42) (k := 27) (by decide)).wa (a := 61) (by decide)).wa (a := 62) (by decide))) ?_
  refine s_iload_n 2 d_M_begins_35 rfl rfl ?_
  refine s_iconst d_M_begins_36 ?_
  obtain ⟨g3, h⟩ := h
  refine s_iastore d_M_begins_37 ⟨_, sf_63 (((hF.wf (a := 42) (k := 27) (by decide)).wa (a := 61) (by decide)).wa (a := 62) (by decide)), g3.1, g3.2, by have := g3.2; omega⟩ ?_
  refine s_aload_n 1 d_M_begins_38 rfl rfl ?_
  refine s_lload_n 3 d_M_begins_39 rfl rfl ?_
  refine s_lload 4 d_M_begins_40 rfl ?_
  refine s_callV (as := [aL x2, aL x4]) (ci := 10) d_M_begins_42 ok_M_tells lk_M_234 io_M_tells so_M_tells (by decide) rfl rfl rfl (Nat.le_of_ble_eq_true rfl) rfl (sf_42 ((((hF.wf (a := 42) (k := 27) (by decide)).wa (a := 61) (by decide)).wa (a := 62) (by decide)).wa (a := 63) (by decide))) (WM.mono h ?_)
  rintro _ σ4 ⟨rfl, hp, h⟩
  obtain ⟨hF4, h⟩ := h
  show WP E m_M_begins (d + 1) 45 [(10, aI (σ.1 42 27)), (0, aP 42), (1, aI x1), (2, aL x2), (4, aL x4), (6, aL x6), (8, aL x8)] [] σ4 Q
  refine s_aload_n 1 d_M_begins_45 rfl rfl ?_
  refine s_aload_n 1 d_M_begins_46 rfl rfl ?_
  refine s_getF (v := 52) d_M_begins_47 fl_M_41 rfl (sf_42 hF4) (ff_37 hF4) ?_
  refine s_iload_n 2 d_M_begins_50 rfl rfl ?_
  obtain ⟨g5, h⟩ := h
  refine s_ialoadv (v := σ4.1 52 x1) d_M_begins_51 ⟨_, sf_52 hF4, g5.1, g5.2, by have := g5.2; omega⟩ rfl ?_
  refine s_ineg d_M_begins_52 ?_
  obtain ⟨g6, h⟩ := h
  refine s_i2l d_M_begins_53 g6 ?_
  refine s_aload_n 1 d_M_begins_54 rfl rfl ?_
  refine s_getF (v := 55) d_M_begins_55 fl_M_50 rfl (sf_42 hF4) (ff_40 hF4) ?_
  refine s_iload 0 d_M_begins_58 rfl ?_
  obtain ⟨g7, h⟩ := h
  refine s_laloadv (v := σ4.1 55 (σ.1 42 27)) d_M_begins_60 ⟨_, sf_55 hF4, g7.1, g7.2, by have := g7.2; omega⟩ rfl ?_
  refine s_lmul d_M_begins_61 ?_
  refine s_ldc2 (v := 2) d_M_begins_62 ll_M_241 (by decide) ?_
  refine s_aload_n 1 d_M_begins_65 rfl rfl ?_
  refine s_getF (v := 56) d_M_begins_66 fl_M_54 rfl (sf_42 hF4) (ff_41 hF4) ?_
  refine s_iload 0 d_M_begins_69 rfl ?_
  obtain ⟨g8, h⟩ := h
  refine s_laloadv (v := σ4.1 56 (σ.1 42 27)) d_M_begins_71 ⟨_, sf_56 hF4, g8.1, g8.2, by have := g8.2; omega⟩ rfl ?_
  refine s_lmul d_M_begins_72 ?_
  refine s_callV (as := [aL ((-(σ4.1 52 x1)) * (σ4.1 55 (σ.1 42 27))), aL (2 * (σ4.1 56 (σ.1 42 27)))]) (ci := 10) d_M_begins_73 ok_M_plus lk_M_243 io_M_plus so_M_plus (by decide) rfl rfl rfl (Nat.le_of_ble_eq_true rfl) rfl (sf_42 hF4) (WM.mono h ?_)
  rintro _ σ9 ⟨rfl, hp, h⟩
  obtain ⟨hF9, h⟩ := h
  show WP E m_M_begins (d + 1) 76 [(10, aI (σ.1 42 27)), (0, aP 42), (1, aI x1), (2, aL x2), (4, aL x4), (6, aL x6), (8, aL x8)] [] σ9 Q
  refine s_aload_n 1 d_M_begins_76 rfl rfl ?_
  refine s_getF (v := 57) d_M_begins_77 fl_M_57 rfl (sf_42 hF9) (ff_42 hF9) ?_
  refine s_iload 0 d_M_begins_80 rfl ?_
  refine s_aload_n 1 d_M_begins_82 rfl rfl ?_
  refine s_getF (v := σ9.1 42 16) d_M_begins_83 fl_M_227 rfl (sf_42 hF9) rfl ?_
  obtain ⟨g10, h⟩ := h
  refine s_lastore d_M_begins_86 ⟨_, sf_57 hF9, g10.1, g10.2, by have := g10.2; omega⟩ ?_
  refine s_aload_n 1 d_M_begins_87 rfl rfl ?_
  refine s_getF (v := 58) d_M_begins_88 fl_M_60 rfl (sf_42 (hF9.wa (a := 57) (by decide))) (ff_43 (hF9.wa (a := 57) (by decide))) ?_
  refine s_iload 0 d_M_begins_91 rfl ?_
  refine s_aload_n 1 d_M_begins_93 rfl rfl ?_
  refine s_getF (v := σ9.1 42 17) d_M_begins_94 fl_M_231 rfl (sf_42 (hF9.wa (a := 57) (by decide))) rfl ?_
  obtain ⟨g11, h⟩ := h
  refine s_lastore d_M_begins_97 ⟨_, sf_58 (hF9.wa (a := 57) (by decide)), g11.1, g11.2, by have := g11.2; omega⟩ ?_
  refine s_aload_n 1 d_M_begins_98 rfl rfl ?_
  refine s_lload 5 d_M_begins_99 rfl ?_
  refine s_lload 6 d_M_begins_101 rfl ?_
  refine s_callV (as := [aL x6, aL x8]) (ci := 10) d_M_begins_103 ok_M_tells lk_M_234 io_M_tells so_M_tells (by decide) rfl rfl rfl (Nat.le_of_ble_eq_true rfl) rfl (sf_42 ((hF9.wa (a := 57) (by decide)).wa (a := 58) (by decide))) (WM.mono h ?_)
  rintro _ σ12 ⟨rfl, hp, h⟩
  obtain ⟨hF12, h⟩ := h
  show WP E m_M_begins (d + 1) 106 [(10, aI (σ.1 42 27)), (0, aP 42), (1, aI x1), (2, aL x2), (4, aL x4), (6, aL x6), (8, aL x8)] [] σ12 Q
  refine s_aload_n 1 d_M_begins_106 rfl rfl ?_
  refine s_aload_n 1 d_M_begins_107 rfl rfl ?_
  refine s_getF (v := 53) d_M_begins_108 fl_M_44 rfl (sf_42 hF12) (ff_38 hF12) ?_
  refine s_iload_n 2 d_M_begins_111 rfl rfl ?_
  obtain ⟨g13, h⟩ := h
  refine s_ialoadv (v := σ12.1 53 x1) d_M_begins_112 ⟨_, sf_53 hF12, g13.1, g13.2, by have := g13.2; omega⟩ rfl ?_
  refine s_ineg d_M_begins_113 ?_
  obtain ⟨g14, h⟩ := h
  refine s_i2l d_M_begins_114 g14 ?_
  refine s_aload_n 1 d_M_begins_115 rfl rfl ?_
  refine s_getF (v := 55) d_M_begins_116 fl_M_50 rfl (sf_42 hF12) (ff_40 hF12) ?_
  refine s_iload 0 d_M_begins_119 rfl ?_
  obtain ⟨g15, h⟩ := h
  refine s_laloadv (v := σ12.1 55 (σ.1 42 27)) d_M_begins_121 ⟨_, sf_55 hF12, g15.1, g15.2, by have := g15.2; omega⟩ rfl ?_
  refine s_lmul d_M_begins_122 ?_
  refine s_ldc2 (v := 2) d_M_begins_123 ll_M_241 (by decide) ?_
  refine s_aload_n 1 d_M_begins_126 rfl rfl ?_
  refine s_getF (v := 56) d_M_begins_127 fl_M_54 rfl (sf_42 hF12) (ff_41 hF12) ?_
  refine s_iload 0 d_M_begins_130 rfl ?_
  obtain ⟨g16, h⟩ := h
  refine s_laloadv (v := σ12.1 56 (σ.1 42 27)) d_M_begins_132 ⟨_, sf_56 hF12, g16.1, g16.2, by have := g16.2; omega⟩ rfl ?_
  refine s_lmul d_M_begins_133 ?_
  refine s_callV (as := [aL ((-(σ12.1 53 x1)) * (σ12.1 55 (σ.1 42 27))), aL (2 * (σ12.1 56 (σ.1 42 27)))]) (ci := 10) d_M_begins_134 ok_M_plus lk_M_243 io_M_plus so_M_plus (by decide) rfl rfl rfl (Nat.le_of_ble_eq_true rfl) rfl (sf_42 hF12) (WM.mono h ?_)
  rintro _ σ17 ⟨rfl, hp, h⟩
  obtain ⟨hF17, h⟩ := h
  show WP E m_M_begins (d + 1) 137 [(10, aI (σ.1 42 27)), (0, aP 42), (1, aI x1), (2, aL x2), (4, aL x4), (6, aL x6), (8, aL x8)] [] σ17 Q
  refine s_aload_n 1 d_M_begins_137 rfl rfl ?_
  refine s_getF (v := 59) d_M_begins_138 fl_M_63 rfl (sf_42 hF17) (ff_44 hF17) ?_
  refine s_iload 0 d_M_begins_141 rfl ?_
  refine s_aload_n 1 d_M_begins_143 rfl rfl ?_
  refine s_getF (v := σ17.1 42 16) d_M_begins_144 fl_M_227 rfl (sf_42 hF17) rfl ?_
  obtain ⟨g18, h⟩ := h
  refine s_lastore d_M_begins_147 ⟨_, sf_59 hF17, g18.1, g18.2, by have := g18.2; omega⟩ ?_
  refine s_aload_n 1 d_M_begins_148 rfl rfl ?_
  refine s_getF (v := 60) d_M_begins_149 fl_M_66 rfl (sf_42 (hF17.wa (a := 59) (by decide))) (ff_45 (hF17.wa (a := 59) (by decide))) ?_
  refine s_iload 0 d_M_begins_152 rfl ?_
  refine s_aload_n 1 d_M_begins_154 rfl rfl ?_
  refine s_getF (v := σ17.1 42 17) d_M_begins_155 fl_M_231 rfl (sf_42 (hF17.wa (a := 59) (by decide))) rfl ?_
  obtain ⟨g19, h⟩ := h
  refine s_lastore d_M_begins_158 ⟨_, sf_60 (hF17.wa (a := 59) (by decide)), g19.1, g19.2, by have := g19.2; omega⟩ ?_
  exact s_return d_M_begins_159 rfl h
theorem e_M_begins {E : EV} {d : Nat} {Q : Option AV → St → Prop} {σ : St} (x1 x2 x4 x6 x8 : Int) (hF : Fix σ) (h : (0 ≤ x1 ∧ x1 < 24) ∧ (0 ≤ x1 ∧ x1 < 24) ∧ (0 ≤ x1 ∧ x1 < 24) ∧ (WMv E m_M_tells d [aP 42, aL x2, aL x4] (wr (wr (wr (wr σ 42 27 ((σ.1 42 27) + 1)) 61 x1 (σ.1 42 27)) 62 x1 0) 63 x1 0) (fun σ4 => Fix σ4 ∧ (0 ≤ x1 ∧ x1 < 24) ∧ (rI (-(σ4.1 52 x1))) ∧ (0 ≤ (σ.1 42 27) ∧ (σ.1 42 27) < 12) ∧ (0 ≤ (σ.1 42 27) ∧ (σ.1 42 27) < 12) ∧ (WMv E m_M_plus d [aP 42, aL ((-(σ4.1 52 x1)) * (σ4.1 55 (σ.1 42 27))), aL (2 * (σ4.1 56 (σ.1 42 27)))] σ4 (fun σ9 => Fix σ9 ∧ (0 ≤ (σ.1 42 27) ∧ (σ.1 42 27) < 12) ∧ (0 ≤ (σ.1 42 27) ∧ (σ.1 42 27) < 12) ∧ (WMv E m_M_tells d [aP 42, aL x6, aL x8] (wr (wr σ9 57 (σ.1 42 27) (σ9.1 42 16)) 58 (σ.1 42 27) (σ9.1 42 17)) (fun σ12 => Fix σ12 ∧ (0 ≤ x1 ∧ x1 < 24) ∧ (rI (-(σ12.1 53 x1))) ∧ (0 ≤ (σ.1 42 27) ∧ (σ.1 42 27) < 12) ∧ (0 ≤ (σ.1 42 27) ∧ (σ.1 42 27) < 12) ∧ (WMv E m_M_plus d [aP 42, aL ((-(σ12.1 53 x1)) * (σ12.1 55 (σ.1 42 27))), aL (2 * (σ12.1 56 (σ.1 42 27)))] σ12 (fun σ17 => Fix σ17 ∧ (0 ≤ (σ.1 42 27) ∧ (σ.1 42 27) < 12) ∧ (0 ≤ (σ.1 42 27) ∧ (σ.1 42 27) < 12) ∧ Q none (wr (wr σ17 59 (σ.1 42 27) (σ17.1 42 16)) 60 (σ.1 42 27) (σ17.1 42 17))))))))))) : WM E m_M_begins (d + 1) [aP 42, aI x1, aL x2, aL x4, aL x6, aL x8] σ Q := s_meth (by decide) (Nat.le_of_ble_eq_true rfl) rfl (b_M_begins_0 x1 x2 x4 x6 x8 hF h)
theorem d_M_plus_0 : decode m_M_plus.2.1 0 = .ok (.aload_n 0, 1) := by decide +kernel
theorem d_M_plus_1 : decode m_M_plus.2.1 1 = .ok (.getfield 231, 3) := by decide +kernel
theorem d_M_plus_4 : decode m_M_plus.2.1 4 = .ok (.lload_n 3, 1) := by decide +kernel
theorem d_M_plus_5 : decode m_M_plus.2.1 5 = .ok (.invokestatic 223, 3) := by decide +kernel
theorem d_M_plus_8 : decode m_M_plus.2.1 8 = .ok (.lstore 5, 2) := by decide +kernel
theorem d_M_plus_10 : decode m_M_plus.2.1 10 = .ok (.aload_n 0, 1) := by decide +kernel
theorem d_M_plus_11 : decode m_M_plus.2.1 11 = .ok (.aload_n 0, 1) := by decide +kernel
theorem d_M_plus_12 : decode m_M_plus.2.1 12 = .ok (.getfield 227, 3) := by decide +kernel
theorem d_M_plus_15 : decode m_M_plus.2.1 15 = .ok (.lload_n 3, 1) := by decide +kernel
theorem d_M_plus_16 : decode m_M_plus.2.1 16 = .ok (.lload 5, 2) := by decide +kernel
theorem d_M_plus_18 : decode m_M_plus.2.1 18 = .ok (.ldiv, 1) := by decide +kernel
theorem d_M_plus_19 : decode m_M_plus.2.1 19 = .ok (.lmul, 1) := by decide +kernel
theorem d_M_plus_20 : decode m_M_plus.2.1 20 = .ok (.lload_n 1, 1) := by decide +kernel
theorem d_M_plus_21 : decode m_M_plus.2.1 21 = .ok (.aload_n 0, 1) := by decide +kernel
theorem d_M_plus_22 : decode m_M_plus.2.1 22 = .ok (.getfield 231, 3) := by decide +kernel
theorem d_M_plus_25 : decode m_M_plus.2.1 25 = .ok (.lload 5, 2) := by decide +kernel
theorem d_M_plus_27 : decode m_M_plus.2.1 27 = .ok (.ldiv, 1) := by decide +kernel
theorem d_M_plus_28 : decode m_M_plus.2.1 28 = .ok (.lmul, 1) := by decide +kernel
theorem d_M_plus_29 : decode m_M_plus.2.1 29 = .ok (.ladd, 1) := by decide +kernel
theorem d_M_plus_30 : decode m_M_plus.2.1 30 = .ok (.aload_n 0, 1) := by decide +kernel
theorem d_M_plus_31 : decode m_M_plus.2.1 31 = .ok (.getfield 231, 3) := by decide +kernel
theorem d_M_plus_34 : decode m_M_plus.2.1 34 = .ok (.lload 5, 2) := by decide +kernel
theorem d_M_plus_36 : decode m_M_plus.2.1 36 = .ok (.ldiv, 1) := by decide +kernel
theorem d_M_plus_37 : decode m_M_plus.2.1 37 = .ok (.lload_n 3, 1) := by decide +kernel
theorem d_M_plus_38 : decode m_M_plus.2.1 38 = .ok (.lmul, 1) := by decide +kernel
theorem d_M_plus_39 : decode m_M_plus.2.1 39 = .ok (.invokevirtual 234, 3) := by decide +kernel
theorem d_M_plus_42 : decode m_M_plus.2.1 42 = .ok (.return_, 1) := by decide +kernel
theorem b_M_plus_0 {E : EV} {d : Nat} {Q : Option AV → St → Prop} {σ : St} (x1 x3 : Int) (hF : Fix σ) (h : (WMl E m_M_common d [aL (σ.1 42 17), aL x3] σ (fun v1 σ1 => Fix σ1 ∧ (rL x3 ∧ 0 < v1 ∧ v1 ≤ 9223372036854775807) ∧ (rL (σ1.1 42 17) ∧ 0 < v1 ∧ v1 ≤ 9223372036854775807) ∧ (rL (σ1.1 42 17) ∧ 0 < v1 ∧ v1 ≤ 9223372036854775807) ∧ (WMv E m_M_tells d [aP 42, aL (((σ1.1 42 16) * (x3.tdiv v1)) + (x1 * ((σ1.1 42 17).tdiv v1))), aL (((σ1.1 42 17).tdiv v1) * x3)] σ1 (fun σ5 => Q none σ5))))) : WP E m_M_plus (d + 1) 0 [(0, aP 42), (1, aL x1), (3, aL x3)] [] σ Q := by
  refine s_aload_n 0 d_M_plus_0 rfl rfl ?_
  refine s_getF (v := σ.1 42 17) d_M_plus_1 fl_M_231 rfl (sf_42 hF) rfl ?_
  refine s_lload_n 2 d_M_plus_4 rfl rfl ?_
  refine s_callS (as := [aL (σ.1 42 17), aL x3]) d_M_plus_5 ok_M_common lk_M_223 to_M_common rfl (Nat.le_of_ble_eq_true rfl) rfl (WM.mono h ?_)
  rintro _ σ1 ⟨v1, rfl, hp, h⟩
  obtain ⟨hF1, h⟩ := h
  show WP E m_M_plus (d + 1) 8 [(0, aP 42), (1, aL x1), (3, aL x3)] [aL v1] σ1 Q
  refine s_lstore d_M_plus_8 (by decide) rfl ?_
  refine s_aload_n 1 d_M_plus_10 rfl rfl ?_
  refine s_aload_n 1 d_M_plus_11 rfl rfl ?_
  refine s_getF (v := σ1.1 42 16) d_M_plus_12 fl_M_227 rfl (sf_42 hF1) rfl ?_
  refine s_lload_n 3 d_M_plus_15 rfl rfl ?_
  refine s_lload 0 d_M_plus_16 rfl ?_
  obtain ⟨g2, h⟩ := h
  refine s_ldiv d_M_plus_18 g2 ?_
  refine s_lmul d_M_plus_19 ?_
  refine s_lload_n 2 d_M_plus_20 rfl rfl ?_
  refine s_aload_n 1 d_M_plus_21 rfl rfl ?_
  refine s_getF (v := σ1.1 42 17) d_M_plus_22 fl_M_231 rfl (sf_42 hF1) rfl ?_
  refine s_lload 0 d_M_plus_25 rfl ?_
  obtain ⟨g3, h⟩ := h
  refine s_ldiv d_M_plus_27 g3 ?_
  refine s_lmul d_M_plus_28 ?_
  refine s_ladd d_M_plus_29 ?_
  refine s_aload_n 1 d_M_plus_30 rfl rfl ?_
  refine s_getF (v := σ1.1 42 17) d_M_plus_31 fl_M_231 rfl (sf_42 hF1) rfl ?_
  refine s_lload 0 d_M_plus_34 rfl ?_
  obtain ⟨g4, h⟩ := h
  refine s_ldiv d_M_plus_36 g4 ?_
  refine s_lload_n 3 d_M_plus_37 rfl rfl ?_
  refine s_lmul d_M_plus_38 ?_
  refine s_callV (as := [aL (((σ1.1 42 16) * (x3.tdiv v1)) + (x1 * ((σ1.1 42 17).tdiv v1))), aL (((σ1.1 42 17).tdiv v1) * x3)]) (ci := 10) d_M_plus_39 ok_M_tells lk_M_234 io_M_tells so_M_tells (by decide) rfl rfl rfl (Nat.le_of_ble_eq_true rfl) rfl (sf_42 hF1) (WM.mono h ?_)
  rintro _ σ5 ⟨rfl, hp, h⟩
  show WP E m_M_plus (d + 1) 42 [(5, aL v1), (0, aP 42), (1, aL x1), (3, aL x3)] [] σ5 Q
  exact s_return d_M_plus_42 rfl h
theorem e_M_plus {E : EV} {d : Nat} {Q : Option AV → St → Prop} {σ : St} (x1 x3 : Int) (hF : Fix σ) (h : (WMl E m_M_common d [aL (σ.1 42 17), aL x3] σ (fun v1 σ1 => Fix σ1 ∧ (rL x3 ∧ 0 < v1 ∧ v1 ≤ 9223372036854775807) ∧ (rL (σ1.1 42 17) ∧ 0 < v1 ∧ v1 ≤ 9223372036854775807) ∧ (rL (σ1.1 42 17) ∧ 0 < v1 ∧ v1 ≤ 9223372036854775807) ∧ (WMv E m_M_tells d [aP 42, aL (((σ1.1 42 16) * (x3.tdiv v1)) + (x1 * ((σ1.1 42 17).tdiv v1))), aL (((σ1.1 42 17).tdiv v1) * x3)] σ1 (fun σ5 => Q none σ5))))) : WM E m_M_plus (d + 1) [aP 42, aL x1, aL x3] σ Q := s_meth (by decide) (Nat.le_of_ble_eq_true rfl) rfl (b_M_plus_0 x1 x3 hF h)
theorem d_M_goesInside_0 : decode m_M_goesInside.2.1 0 = .ok (.aload_n 0, 1) := by decide +kernel
theorem d_M_goesInside_1 : decode m_M_goesInside.2.1 1 = .ok (.getfield 69, 3) := by decide +kernel
theorem d_M_goesInside_4 : decode m_M_goesInside.2.1 4 = .ok (.iload_n 1, 1) := by decide +kernel
theorem d_M_goesInside_5 : decode m_M_goesInside.2.1 5 = .ok (.iaload, 1) := by decide +kernel
theorem d_M_goesInside_6 : decode m_M_goesInside.2.1 6 = .ok (.istore_n 2, 1) := by decide +kernel
theorem d_M_goesInside_7 : decode m_M_goesInside.2.1 7 = .ok (.aload_n 0, 1) := by decide +kernel
theorem d_M_goesInside_8 : decode m_M_goesInside.2.1 8 = .ok (.getfield 35, 3) := by decide +kernel
theorem d_M_goesInside_11 : decode m_M_goesInside.2.1 11 = .ok (.iload_n 1, 1) := by decide +kernel
theorem d_M_goesInside_12 : decode m_M_goesInside.2.1 12 = .ok (.iaload, 1) := by decide +kernel
theorem d_M_goesInside_13 : decode m_M_goesInside.2.1 13 = .ok (.invokestatic 217, 3) := by decide +kernel
theorem d_M_goesInside_16 : decode m_M_goesInside.2.1 16 = .ok (.istore_n 3, 1) := by decide +kernel
theorem d_M_goesInside_17 : decode m_M_goesInside.2.1 17 = .ok (.lconst 1, 1) := by decide +kernel
theorem d_M_goesInside_18 : decode m_M_goesInside.2.1 18 = .ok (.lstore 4, 2) := by decide +kernel
theorem d_M_goesInside_20 : decode m_M_goesInside.2.1 20 = .ok (.lconst 1, 1) := by decide +kernel
theorem d_M_goesInside_21 : decode m_M_goesInside.2.1 21 = .ok (.lstore 6, 2) := by decide +kernel
theorem d_M_goesInside_23 : decode m_M_goesInside.2.1 23 = .ok (.aload_n 0, 1) := by decide +kernel
theorem d_M_goesInside_24 : decode m_M_goesInside.2.1 24 = .ok (.getfield 20, 3) := by decide +kernel
theorem d_M_goesInside_27 : decode m_M_goesInside.2.1 27 = .ok (.iload_n 3, 1) := by decide +kernel
theorem d_M_goesInside_28 : decode m_M_goesInside.2.1 28 = .ok (.iaload, 1) := by decide +kernel
theorem d_M_goesInside_29 : decode m_M_goesInside.2.1 29 = .ok (.aload_n 0, 1) := by decide +kernel
theorem d_M_goesInside_30 : decode m_M_goesInside.2.1 30 = .ok (.getfield 41, 3) := by decide +kernel
theorem d_M_goesInside_33 : decode m_M_goesInside.2.1 33 = .ok (.iload_n 1, 1) := by decide +kernel
theorem d_M_goesInside_34 : decode m_M_goesInside.2.1 34 = .ok (.iconst 1, 1) := by decide +kernel
theorem d_M_goesInside_35 : decode m_M_goesInside.2.1 35 = .ok (.iadd, 1) := by decide +kernel
theorem d_M_goesInside_36 : decode m_M_goesInside.2.1 36 = .ok (.iaload, 1) := by decide +kernel
theorem d_M_goesInside_37 : decode m_M_goesInside.2.1 37 = .ok (.if_icmp .ge 23, 3) := by decide +kernel
theorem d_M_goesInside_40 : decode m_M_goesInside.2.1 40 = .ok (.aload_n 0, 1) := by decide +kernel
theorem d_M_goesInside_41 : decode m_M_goesInside.2.1 41 = .ok (.getfield 20, 3) := by decide +kernel
theorem d_M_goesInside_44 : decode m_M_goesInside.2.1 44 = .ok (.iload_n 3, 1) := by decide +kernel
theorem d_M_goesInside_45 : decode m_M_goesInside.2.1 45 = .ok (.iaload, 1) := by decide +kernel
theorem d_M_goesInside_46 : decode m_M_goesInside.2.1 46 = .ok (.i2l, 1) := by decide +kernel
theorem d_M_goesInside_47 : decode m_M_goesInside.2.1 47 = .ok (.lstore 4, 2) := by decide +kernel
theorem d_M_goesInside_49 : decode m_M_goesInside.2.1 49 = .ok (.aload_n 0, 1) := by decide +kernel
theorem d_M_goesInside_50 : decode m_M_goesInside.2.1 50 = .ok (.getfield 41, 3) := by decide +kernel
theorem d_M_goesInside_53 : decode m_M_goesInside.2.1 53 = .ok (.iload_n 1, 1) := by decide +kernel
theorem d_M_goesInside_54 : decode m_M_goesInside.2.1 54 = .ok (.iconst 1, 1) := by decide +kernel
theorem d_M_goesInside_55 : decode m_M_goesInside.2.1 55 = .ok (.iadd, 1) := by decide +kernel
theorem d_M_goesInside_56 : decode m_M_goesInside.2.1 56 = .ok (.iaload, 1) := by decide +kernel
theorem d_M_goesInside_57 : decode m_M_goesInside.2.1 57 = .ok (.i2l, 1) := by decide +kernel
theorem d_M_goesInside_58 : decode m_M_goesInside.2.1 58 = .ok (.lstore 6, 2) := by decide +kernel
theorem d_M_goesInside_60 : decode m_M_goesInside.2.1 60 = .ok (.aload_n 0, 1) := by decide +kernel
theorem d_M_goesInside_61 : decode m_M_goesInside.2.1 61 = .ok (.getfield 23, 3) := by decide +kernel
theorem d_M_goesInside_64 : decode m_M_goesInside.2.1 64 = .ok (.iload_n 3, 1) := by decide +kernel
theorem d_M_goesInside_65 : decode m_M_goesInside.2.1 65 = .ok (.iaload, 1) := by decide +kernel
theorem d_M_goesInside_66 : decode m_M_goesInside.2.1 66 = .ok (.i2l, 1) := by decide +kernel
theorem d_M_goesInside_67 : decode m_M_goesInside.2.1 67 = .ok (.lload 6, 2) := by decide +kernel
theorem d_M_goesInside_69 : decode m_M_goesInside.2.1 69 = .ok (.lmul, 1) := by decide +kernel
theorem d_M_goesInside_70 : decode m_M_goesInside.2.1 70 = .ok (.lload 4, 2) := by decide +kernel
theorem d_M_goesInside_72 : decode m_M_goesInside.2.1 72 = .ok (.aload_n 0, 1) := by decide +kernel
theorem d_M_goesInside_73 : decode m_M_goesInside.2.1 73 = .ok (.getfield 44, 3) := by decide +kernel
theorem d_M_goesInside_76 : decode m_M_goesInside.2.1 76 = .ok (.iload_n 1, 1) := by decide +kernel
theorem d_M_goesInside_77 : decode m_M_goesInside.2.1 77 = .ok (.iconst 1, 1) := by decide +kernel
theorem d_M_goesInside_78 : decode m_M_goesInside.2.1 78 = .ok (.iadd, 1) := by decide +kernel
theorem d_M_goesInside_79 : decode m_M_goesInside.2.1 79 = .ok (.iaload, 1) := by decide +kernel
theorem d_M_goesInside_80 : decode m_M_goesInside.2.1 80 = .ok (.i2l, 1) := by decide +kernel
theorem d_M_goesInside_81 : decode m_M_goesInside.2.1 81 = .ok (.lmul, 1) := by decide +kernel
theorem d_M_goesInside_82 : decode m_M_goesInside.2.1 82 = .ok (.lcmp, 1) := by decide +kernel
theorem d_M_goesInside_83 : decode m_M_goesInside.2.1 83 = .ok (.ifCond .ge 23, 3) := by decide +kernel
theorem d_M_goesInside_86 : decode m_M_goesInside.2.1 86 = .ok (.aload_n 0, 1) := by decide +kernel
theorem d_M_goesInside_87 : decode m_M_goesInside.2.1 87 = .ok (.getfield 23, 3) := by decide +kernel
theorem d_M_goesInside_90 : decode m_M_goesInside.2.1 90 = .ok (.iload_n 3, 1) := by decide +kernel
theorem d_M_goesInside_91 : decode m_M_goesInside.2.1 91 = .ok (.iaload, 1) := by decide +kernel
theorem d_M_goesInside_92 : decode m_M_goesInside.2.1 92 = .ok (.i2l, 1) := by decide +kernel
theorem d_M_goesInside_93 : decode m_M_goesInside.2.1 93 = .ok (.lstore 4, 2) := by decide +kernel
theorem d_M_goesInside_95 : decode m_M_goesInside.2.1 95 = .ok (.aload_n 0, 1) := by decide +kernel
theorem d_M_goesInside_96 : decode m_M_goesInside.2.1 96 = .ok (.getfield 44, 3) := by decide +kernel
theorem d_M_goesInside_99 : decode m_M_goesInside.2.1 99 = .ok (.iload_n 1, 1) := by decide +kernel
theorem d_M_goesInside_100 : decode m_M_goesInside.2.1 100 = .ok (.iconst 1, 1) := by decide +kernel
theorem d_M_goesInside_101 : decode m_M_goesInside.2.1 101 = .ok (.iadd, 1) := by decide +kernel
theorem d_M_goesInside_102 : decode m_M_goesInside.2.1 102 = .ok (.iaload, 1) := by decide +kernel
theorem d_M_goesInside_103 : decode m_M_goesInside.2.1 103 = .ok (.i2l, 1) := by decide +kernel
theorem d_M_goesInside_104 : decode m_M_goesInside.2.1 104 = .ok (.lstore 6, 2) := by decide +kernel
theorem d_M_goesInside_106 : decode m_M_goesInside.2.1 106 = .ok (.aload_n 0, 1) := by decide +kernel
theorem d_M_goesInside_107 : decode m_M_goesInside.2.1 107 = .ok (.aload_n 0, 1) := by decide +kernel
theorem d_M_goesInside_108 : decode m_M_goesInside.2.1 108 = .ok (.getfield 50, 3) := by decide +kernel
theorem d_M_goesInside_111 : decode m_M_goesInside.2.1 111 = .ok (.iload_n 2, 1) := by decide +kernel
theorem d_M_goesInside_112 : decode m_M_goesInside.2.1 112 = .ok (.laload, 1) := by decide +kernel
theorem d_M_goesInside_113 : decode m_M_goesInside.2.1 113 = .ok (.lload 4, 2) := by decide +kernel
theorem d_M_goesInside_115 : decode m_M_goesInside.2.1 115 = .ok (.lmul, 1) := by decide +kernel
theorem d_M_goesInside_116 : decode m_M_goesInside.2.1 116 = .ok (.aload_n 0, 1) := by decide +kernel
theorem d_M_goesInside_117 : decode m_M_goesInside.2.1 117 = .ok (.getfield 54, 3) := by decide +kernel
theorem d_M_goesInside_120 : decode m_M_goesInside.2.1 120 = .ok (.iload_n 2, 1) := by decide +kernel
theorem d_M_goesInside_121 : decode m_M_goesInside.2.1 121 = .ok (.laload, 1) := by decide +kernel
theorem d_M_goesInside_122 : decode m_M_goesInside.2.1 122 = .ok (.lload 6, 2) := by decide +kernel
theorem d_M_goesInside_124 : decode m_M_goesInside.2.1 124 = .ok (.lmul, 1) := by decide +kernel
theorem d_M_goesInside_125 : decode m_M_goesInside.2.1 125 = .ok (.invokevirtual 234, 3) := by decide +kernel
theorem d_M_goesInside_128 : decode m_M_goesInside.2.1 128 = .ok (.aload_n 0, 1) := by decide +kernel
theorem d_M_goesInside_129 : decode m_M_goesInside.2.1 129 = .ok (.getfield 50, 3) := by decide +kernel
theorem d_M_goesInside_132 : decode m_M_goesInside.2.1 132 = .ok (.aload_n 0, 1) := by decide +kernel
theorem d_M_goesInside_133 : decode m_M_goesInside.2.1 133 = .ok (.getfield 238, 3) := by decide +kernel
theorem d_M_goesInside_136 : decode m_M_goesInside.2.1 136 = .ok (.aload_n 0, 1) := by decide +kernel
theorem d_M_goesInside_137 : decode m_M_goesInside.2.1 137 = .ok (.getfield 227, 3) := by decide +kernel
theorem d_M_goesInside_140 : decode m_M_goesInside.2.1 140 = .ok (.lastore, 1) := by decide +kernel
theorem d_M_goesInside_141 : decode m_M_goesInside.2.1 141 = .ok (.aload_n 0, 1) := by decide +kernel
theorem d_M_goesInside_142 : decode m_M_goesInside.2.1 142 = .ok (.getfield 54, 3) := by decide +kernel
theorem d_M_goesInside_145 : decode m_M_goesInside.2.1 145 = .ok (.aload_n 0, 1) := by decide +kernel
theorem d_M_goesInside_146 : decode m_M_goesInside.2.1 146 = .ok (.getfield 238, 3) := by decide +kernel
theorem d_M_goesInside_149 : decode m_M_goesInside.2.1 149 = .ok (.aload_n 0, 1) := by decide +kernel
theorem d_M_goesInside_150 : decode m_M_goesInside.2.1 150 = .ok (.getfield 231, 3) := by decide +kernel
theorem d_M_goesInside_153 : decode m_M_goesInside.2.1 153 = .ok (.lastore, 1) := by decide +kernel
theorem d_M_goesInside_154 : decode m_M_goesInside.2.1 154 = .ok (.aload_n 0, 1) := by decide +kernel
theorem d_M_goesInside_155 : decode m_M_goesInside.2.1 155 = .ok (.aload_n 0, 1) := by decide +kernel
theorem d_M_goesInside_156 : decode m_M_goesInside.2.1 156 = .ok (.getfield 57, 3) := by decide +kernel
theorem d_M_goesInside_159 : decode m_M_goesInside.2.1 159 = .ok (.iload_n 2, 1) := by decide +kernel
theorem d_M_goesInside_160 : decode m_M_goesInside.2.1 160 = .ok (.laload, 1) := by decide +kernel
theorem d_M_goesInside_161 : decode m_M_goesInside.2.1 161 = .ok (.aload_n 0, 1) := by decide +kernel
theorem d_M_goesInside_162 : decode m_M_goesInside.2.1 162 = .ok (.getfield 60, 3) := by decide +kernel
theorem d_M_goesInside_165 : decode m_M_goesInside.2.1 165 = .ok (.iload_n 2, 1) := by decide +kernel
theorem d_M_goesInside_166 : decode m_M_goesInside.2.1 166 = .ok (.laload, 1) := by decide +kernel
theorem d_M_goesInside_167 : decode m_M_goesInside.2.1 167 = .ok (.invokevirtual 234, 3) := by decide +kernel
theorem d_M_goesInside_170 : decode m_M_goesInside.2.1 170 = .ok (.aload_n 0, 1) := by decide +kernel
theorem d_M_goesInside_171 : decode m_M_goesInside.2.1 171 = .ok (.aload_n 0, 1) := by decide +kernel
theorem d_M_goesInside_172 : decode m_M_goesInside.2.1 172 = .ok (.getfield 72, 3) := by decide +kernel
theorem d_M_goesInside_175 : decode m_M_goesInside.2.1 175 = .ok (.iload_n 1, 1) := by decide +kernel
theorem d_M_goesInside_176 : decode m_M_goesInside.2.1 176 = .ok (.iaload, 1) := by decide +kernel
theorem d_M_goesInside_177 : decode m_M_goesInside.2.1 177 = .ok (.aload_n 0, 1) := by decide +kernel
theorem d_M_goesInside_178 : decode m_M_goesInside.2.1 178 = .ok (.getfield 41, 3) := by decide +kernel
theorem d_M_goesInside_181 : decode m_M_goesInside.2.1 181 = .ok (.iload_n 1, 1) := by decide +kernel
theorem d_M_goesInside_182 : decode m_M_goesInside.2.1 182 = .ok (.iaload, 1) := by decide +kernel
theorem d_M_goesInside_183 : decode m_M_goesInside.2.1 183 = .ok (.iadd, 1) := by decide +kernel
theorem d_M_goesInside_184 : decode m_M_goesInside.2.1 184 = .ok (.i2l, 1) := by decide +kernel
theorem d_M_goesInside_185 : decode m_M_goesInside.2.1 185 = .ok (.aload_n 0, 1) := by decide +kernel
theorem d_M_goesInside_186 : decode m_M_goesInside.2.1 186 = .ok (.getfield 50, 3) := by decide +kernel
theorem d_M_goesInside_189 : decode m_M_goesInside.2.1 189 = .ok (.iload_n 2, 1) := by decide +kernel
theorem d_M_goesInside_190 : decode m_M_goesInside.2.1 190 = .ok (.laload, 1) := by decide +kernel
theorem d_M_goesInside_191 : decode m_M_goesInside.2.1 191 = .ok (.lmul, 1) := by decide +kernel
theorem d_M_goesInside_192 : decode m_M_goesInside.2.1 192 = .ok (.ldc2_w 241, 3) := by decide +kernel
theorem d_M_goesInside_195 : decode m_M_goesInside.2.1 195 = .ok (.aload_n 0, 1) := by decide +kernel
theorem d_M_goesInside_196 : decode m_M_goesInside.2.1 196 = .ok (.getfield 54, 3) := by decide +kernel
theorem d_M_goesInside_199 : decode m_M_goesInside.2.1 199 = .ok (.iload_n 2, 1) := by decide +kernel
theorem d_M_goesInside_200 : decode m_M_goesInside.2.1 200 = .ok (.laload, 1) := by decide +kernel
theorem d_M_goesInside_201 : decode m_M_goesInside.2.1 201 = .ok (.lmul, 1) := by decide +kernel
theorem d_M_goesInside_202 : decode m_M_goesInside.2.1 202 = .ok (.invokevirtual 243, 3) := by decide +kernel
theorem d_M_goesInside_205 : decode m_M_goesInside.2.1 205 = .ok (.aload_n 0, 1) := by decide +kernel
theorem d_M_goesInside_206 : decode m_M_goesInside.2.1 206 = .ok (.getfield 227, 3) := by decide +kernel
theorem d_M_goesInside_209 : decode m_M_goesInside.2.1 209 = .ok (.lstore 8, 2) := by decide +kernel
theorem d_M_goesInside_211 : decode m_M_goesInside.2.1 211 = .ok (.aload_n 0, 1) := by decide +kernel
theorem d_M_goesInside_212 : decode m_M_goesInside.2.1 212 = .ok (.getfield 231, 3) := by decide +kernel
theorem d_M_goesInside_215 : decode m_M_goesInside.2.1 215 = .ok (.lstore 10, 2) := by decide +kernel
theorem d_M_goesInside_217 : decode m_M_goesInside.2.1 217 = .ok (.aload_n 0, 1) := by decide +kernel
theorem d_M_goesInside_218 : decode m_M_goesInside.2.1 218 = .ok (.aload_n 0, 1) := by decide +kernel
theorem d_M_goesInside_219 : decode m_M_goesInside.2.1 219 = .ok (.getfield 63, 3) := by decide +kernel
theorem d_M_goesInside_222 : decode m_M_goesInside.2.1 222 = .ok (.iload_n 2, 1) := by decide +kernel
theorem d_M_goesInside_223 : decode m_M_goesInside.2.1 223 = .ok (.laload, 1) := by decide +kernel
theorem d_M_goesInside_224 : decode m_M_goesInside.2.1 224 = .ok (.aload_n 0, 1) := by decide +kernel
theorem d_M_goesInside_225 : decode m_M_goesInside.2.1 225 = .ok (.getfield 66, 3) := by decide +kernel
theorem d_M_goesInside_228 : decode m_M_goesInside.2.1 228 = .ok (.iload_n 2, 1) := by decide +kernel
theorem d_M_goesInside_229 : decode m_M_goesInside.2.1 229 = .ok (.laload, 1) := by decide +kernel
theorem d_M_goesInside_230 : decode m_M_goesInside.2.1 230 = .ok (.invokevirtual 234, 3) := by decide +kernel
theorem d_M_goesInside_233 : decode m_M_goesInside.2.1 233 = .ok (.aload_n 0, 1) := by decide +kernel
theorem d_M_goesInside_234 : decode m_M_goesInside.2.1 234 = .ok (.aload_n 0, 1) := by decide +kernel
theorem d_M_goesInside_235 : decode m_M_goesInside.2.1 235 = .ok (.getfield 75, 3) := by decide +kernel
theorem d_M_goesInside_238 : decode m_M_goesInside.2.1 238 = .ok (.iload_n 1, 1) := by decide +kernel
theorem d_M_goesInside_239 : decode m_M_goesInside.2.1 239 = .ok (.iaload, 1) := by decide +kernel
theorem d_M_goesInside_240 : decode m_M_goesInside.2.1 240 = .ok (.aload_n 0, 1) := by decide +kernel
theorem d_M_goesInside_241 : decode m_M_goesInside.2.1 241 = .ok (.getfield 44, 3) := by decide +kernel
theorem d_M_goesInside_244 : decode m_M_goesInside.2.1 244 = .ok (.iload_n 1, 1) := by decide +kernel
theorem d_M_goesInside_245 : decode m_M_goesInside.2.1 245 = .ok (.iaload, 1) := by decide +kernel
theorem d_M_goesInside_246 : decode m_M_goesInside.2.1 246 = .ok (.iadd, 1) := by decide +kernel
theorem d_M_goesInside_247 : decode m_M_goesInside.2.1 247 = .ok (.i2l, 1) := by decide +kernel
theorem d_M_goesInside_248 : decode m_M_goesInside.2.1 248 = .ok (.aload_n 0, 1) := by decide +kernel
theorem d_M_goesInside_249 : decode m_M_goesInside.2.1 249 = .ok (.getfield 50, 3) := by decide +kernel
theorem d_M_goesInside_252 : decode m_M_goesInside.2.1 252 = .ok (.iload_n 2, 1) := by decide +kernel
theorem d_M_goesInside_253 : decode m_M_goesInside.2.1 253 = .ok (.laload, 1) := by decide +kernel
theorem d_M_goesInside_254 : decode m_M_goesInside.2.1 254 = .ok (.lmul, 1) := by decide +kernel
theorem d_M_goesInside_255 : decode m_M_goesInside.2.1 255 = .ok (.ldc2_w 241, 3) := by decide +kernel
theorem d_M_goesInside_258 : decode m_M_goesInside.2.1 258 = .ok (.aload_n 0, 1) := by decide +kernel
theorem d_M_goesInside_259 : decode m_M_goesInside.2.1 259 = .ok (.getfield 54, 3) := by decide +kernel
theorem d_M_goesInside_262 : decode m_M_goesInside.2.1 262 = .ok (.iload_n 2, 1) := by decide +kernel
theorem d_M_goesInside_263 : decode m_M_goesInside.2.1 263 = .ok (.laload, 1) := by decide +kernel
theorem d_M_goesInside_264 : decode m_M_goesInside.2.1 264 = .ok (.lmul, 1) := by decide +kernel
theorem d_M_goesInside_265 : decode m_M_goesInside.2.1 265 = .ok (.invokevirtual 243, 3) := by decide +kernel
theorem d_M_goesInside_268 : decode m_M_goesInside.2.1 268 = .ok (.aload_n 0, 1) := by decide +kernel
theorem d_M_goesInside_269 : decode m_M_goesInside.2.1 269 = .ok (.iload_n 1, 1) := by decide +kernel
theorem d_M_goesInside_270 : decode m_M_goesInside.2.1 270 = .ok (.iconst 1, 1) := by decide +kernel
theorem d_M_goesInside_271 : decode m_M_goesInside.2.1 271 = .ok (.iadd, 1) := by decide +kernel
theorem d_M_goesInside_272 : decode m_M_goesInside.2.1 272 = .ok (.lload 8, 2) := by decide +kernel
theorem d_M_goesInside_274 : decode m_M_goesInside.2.1 274 = .ok (.lload 10, 2) := by decide +kernel
theorem d_M_goesInside_276 : decode m_M_goesInside.2.1 276 = .ok (.aload_n 0, 1) := by decide +kernel
theorem d_M_goesInside_277 : decode m_M_goesInside.2.1 277 = .ok (.getfield 227, 3) := by decide +kernel
theorem d_M_goesInside_280 : decode m_M_goesInside.2.1 280 = .ok (.aload_n 0, 1) := by decide +kernel
theorem d_M_goesInside_281 : decode m_M_goesInside.2.1 281 = .ok (.getfield 231, 3) := by decide +kernel
theorem d_M_goesInside_284 : decode m_M_goesInside.2.1 284 = .ok (.invokevirtual 246, 3) := by decide +kernel
theorem d_M_goesInside_287 : decode m_M_goesInside.2.1 287 = .ok (.return_, 1) := by decide +kernel
theorem b_M_goesInside_0 {E : EV} {d : Nat} {Q : Option AV → St → Prop} {σ : St} (x1 : Int) (hF : Fix σ) (h : (0 ≤ x1 ∧ x1 < 24) ∧ (0 ≤ x1 ∧ x1 < 24) ∧ (WMi E m_M_letterOf d [aI (σ.1 50 x1)] σ (fun v3 σ3 => Fix σ3 ∧ (0 ≤ v3 ∧ v3 < 26) ∧ (0 ≤ (x1 + 1) ∧ (x1 + 1) < 24) ∧ (rI (σ3.1 45 v3)) ∧ (rI (σ3.1 52 (x1 + 1))) ∧ (((σ3.1 52 (x1 + 1)) ≤ (σ3.1 45 v3) → WP E m_M_goesInside (d + 1) 60 [(0, aP 42), (1, aI x1), (2, aI (σ.1 61 x1)), (3, aI v3), (4, aL 1), (6, aL 1)] [] σ3 Q) ∧ (¬ (σ3.1 52 (x1 + 1)) ≤ (σ3.1 45 v3) → (0 ≤ v3 ∧ v3 < 26) ∧ (rI (σ3.1 45 v3)) ∧ (0 ≤ (x1 + 1) ∧ (x1 + 1) < 24) ∧ (rI (σ3.1 52 (x1 + 1))) ∧ WP E m_M_goesInside (d + 1) 60 [(0, aP 42), (1, aI x1), (2, aI (σ.1 61 x1)), (3, aI v3), (4, aL (σ3.1 45 v3)), (6, aL (σ3.1 52 (x1 + 1)))] [] σ3 Q))))) : WP E m_M_goesInside (d + 1) 0 [(0, aP 42), (1, aI x1)] [] σ Q := by
  refine s_aload_n 0 d_M_goesInside_0 rfl rfl ?_
  refine s_getF (v := 61) d_M_goesInside_1 fl_M_69 rfl (sf_42 hF) (ff_46 hF) ?_
  refine s_iload_n 1 d_M_goesInside_4 rfl rfl ?_
  obtain ⟨g1, h⟩ := h
  refine s_ialoadv (v := σ.1 61 x1) d_M_goesInside_5 ⟨_, sf_61 hF, g1.1, g1.2, by have := g1.2; omega⟩ rfl ?_
  refine s_istore_n d_M_goesInside_6 rfl (by decide) rfl ?_
  refine s_aload_n 1 d_M_goesInside_7 rfl rfl ?_
  refine s_getF (v := 50) d_M_goesInside_8 fl_M_35 rfl (sf_42 hF) (ff_35 hF) ?_
  refine s_iload_n 2 d_M_goesInside_11 rfl rfl ?_
  obtain ⟨g2, h⟩ := h
  refine s_ialoadv (v := σ.1 50 x1) d_M_goesInside_12 ⟨_, sf_50 hF, g2.1, g2.2, by have := g2.2; omega⟩ rfl ?_
  refine s_callS (as := [aI (σ.1 50 x1)]) d_M_goesInside_13 ok_M_letterOf lk_M_217 to_M_letterOf rfl (Nat.le_of_ble_eq_true rfl) rfl (WM.mono h ?_)
  rintro _ σ3 ⟨v3, rfl, hp, h⟩
  obtain ⟨hF3, h⟩ := h
  show WP E m_M_goesInside (d + 1) 16 [(2, aI (σ.1 61 x1)), (0, aP 42), (1, aI x1)] [aI v3] σ3 Q
  refine s_istore_n d_M_goesInside_16 rfl (by decide) rfl ?_
  refine s_lconst (v := 1) d_M_goesInside_17 rfl ?_
  refine s_lstore d_M_goesInside_18 (by decide) rfl ?_
  refine s_lconst (v := 1) d_M_goesInside_20 rfl ?_
  refine s_lstore d_M_goesInside_21 (by decide) rfl ?_
  refine s_aload_n 4 d_M_goesInside_23 rfl rfl ?_
  refine s_getF (v := 45) d_M_goesInside_24 fl_M_20 rfl (sf_42 hF3) (ff_30 hF3) ?_
  refine s_iload_n 2 d_M_goesInside_27 rfl rfl ?_
  obtain ⟨g4, h⟩ := h
  refine s_ialoadv (v := σ3.1 45 v3) d_M_goesInside_28 ⟨_, sf_45 hF3, g4.1, g4.2, by have := g4.2; omega⟩ rfl ?_
  refine s_aload_n 4 d_M_goesInside_29 rfl rfl ?_
  refine s_getF (v := 52) d_M_goesInside_30 fl_M_41 rfl (sf_42 hF3) (ff_37 hF3) ?_
  refine s_iload_n 5 d_M_goesInside_33 rfl rfl ?_
  refine s_iconst d_M_goesInside_34 ?_
  refine s_iadd d_M_goesInside_35 ?_
  obtain ⟨g5, h⟩ := h
  refine s_ialoadv (v := σ3.1 52 (x1 + 1)) d_M_goesInside_36 ⟨_, sf_52 hF3, g5.1, g5.2, by have := g5.2; omega⟩ rfl ?_
  obtain ⟨g6, h⟩ := h
  obtain ⟨g7, h⟩ := h
  refine s_icmp_ge d_M_goesInside_37 rfl g6 g7 (fun c => ?_) (fun c => ?_)
  · have h := h.1 c
    refine wp_drop [4, 5, 3, 2, 1, 0] rfl ?_
    exact h
  · have h := h.2 c
    refine s_aload_n 4 d_M_goesInside_40 rfl rfl ?_
    refine s_getF (v := 45) d_M_goesInside_41 fl_M_20 rfl (sf_42 hF3) (ff_30 hF3) ?_
    refine s_iload_n 2 d_M_goesInside_44 rfl rfl ?_
    obtain ⟨g8, h⟩ := h
    refine s_ialoadv (v := σ3.1 45 v3) d_M_goesInside_45 ⟨_, sf_45 hF3, g8.1, g8.2, by have := g8.2; omega⟩ rfl ?_
    obtain ⟨g9, h⟩ := h
    refine s_i2l d_M_goesInside_46 g9 ?_
    refine s_lstore d_M_goesInside_47 (by decide) rfl ?_
    refine s_aload_n 4 d_M_goesInside_49 rfl rfl ?_
    refine s_getF (v := 52) d_M_goesInside_50 fl_M_41 rfl (sf_42 hF3) (ff_37 hF3) ?_
    refine s_iload_n 5 d_M_goesInside_53 rfl rfl ?_
    refine s_iconst d_M_goesInside_54 ?_
    refine s_iadd d_M_goesInside_55 ?_
    obtain ⟨g10, h⟩ := h
    refine s_ialoadv (v := σ3.1 52 (x1 + 1)) d_M_goesInside_56 ⟨_, sf_52 hF3, g10.1, g10.2, by have := g10.2; omega⟩ rfl ?_
    obtain ⟨g11, h⟩ := h
    refine s_i2l d_M_goesInside_57 g11 ?_
    refine s_lstore d_M_goesInside_58 (by decide) rfl ?_
    refine wp_drop [4, 5, 3, 2, 1, 0] rfl ?_
    exact h
theorem e_M_goesInside {E : EV} {d : Nat} {Q : Option AV → St → Prop} {σ : St} (x1 : Int) (hF : Fix σ) (h : (0 ≤ x1 ∧ x1 < 24) ∧ (0 ≤ x1 ∧ x1 < 24) ∧ (WMi E m_M_letterOf d [aI (σ.1 50 x1)] σ (fun v3 σ3 => Fix σ3 ∧ (0 ≤ v3 ∧ v3 < 26) ∧ (0 ≤ (x1 + 1) ∧ (x1 + 1) < 24) ∧ (rI (σ3.1 45 v3)) ∧ (rI (σ3.1 52 (x1 + 1))) ∧ (((σ3.1 52 (x1 + 1)) ≤ (σ3.1 45 v3) → WP E m_M_goesInside (d + 1) 60 [(0, aP 42), (1, aI x1), (2, aI (σ.1 61 x1)), (3, aI v3), (4, aL 1), (6, aL 1)] [] σ3 Q) ∧ (¬ (σ3.1 52 (x1 + 1)) ≤ (σ3.1 45 v3) → (0 ≤ v3 ∧ v3 < 26) ∧ (rI (σ3.1 45 v3)) ∧ (0 ≤ (x1 + 1) ∧ (x1 + 1) < 24) ∧ (rI (σ3.1 52 (x1 + 1))) ∧ WP E m_M_goesInside (d + 1) 60 [(0, aP 42), (1, aI x1), (2, aI (σ.1 61 x1)), (3, aI v3), (4, aL (σ3.1 45 v3)), (6, aL (σ3.1 52 (x1 + 1)))] [] σ3 Q))))) : WM E m_M_goesInside (d + 1) [aP 42, aI x1] σ Q := s_meth (by decide) (Nat.le_of_ble_eq_true rfl) rfl (b_M_goesInside_0 x1 hF h)
theorem b_M_goesInside_60 {E : EV} {d : Nat} {Q : Option AV → St → Prop} {σ : St} (x1 x2 x3 x4 x6 : Int) (hF : Fix σ) (h : (0 ≤ x3 ∧ x3 < 26) ∧ (rI (σ.1 46 x3)) ∧ (0 ≤ (x1 + 1) ∧ (x1 + 1) < 24) ∧ (rI (σ.1 53 (x1 + 1))) ∧ (rL ((σ.1 46 x3) * x6)) ∧ (rL (x4 * (σ.1 53 (x1 + 1)))) ∧ (((x4 * (σ.1 53 (x1 + 1))) ≤ ((σ.1 46 x3) * x6) → WP E m_M_goesInside (d + 1) 106 [(0, aP 42), (1, aI x1), (2, aI x2), (4, aL x4), (6, aL x6)] [] σ Q) ∧ (¬ (x4 * (σ.1 53 (x1 + 1))) ≤ ((σ.1 46 x3) * x6) → (0 ≤ x3 ∧ x3 < 26) ∧ (rI (σ.1 46 x3)) ∧ (0 ≤ (x1 + 1) ∧ (x1 + 1) < 24) ∧ (rI (σ.1 53 (x1 + 1))) ∧ WP E m_M_goesInside (d + 1) 106 [(0, aP 42), (1, aI x1), (2, aI x2), (4, aL (σ.1 46 x3)), (6, aL (σ.1 53 (x1 + 1)))] [] σ Q))) : WP E m_M_goesInside (d + 1) 60 [(0, aP 42), (1, aI x1), (2, aI x2), (3, aI x3), (4, aL x4), (6, aL x6)] [] σ Q := by
  refine s_aload_n 0 d_M_goesInside_60 rfl rfl ?_
  refine s_getF (v := 46) d_M_goesInside_61 fl_M_23 rfl (sf_42 hF) (ff_31 hF) ?_
  refine s_iload_n 3 d_M_goesInside_64 rfl rfl ?_
  obtain ⟨g1, h⟩ := h
  refine s_ialoadv (v := σ.1 46 x3) d_M_goesInside_65 ⟨_, sf_46 hF, g1.1, g1.2, by have := g1.2; omega⟩ rfl ?_
  obtain ⟨g2, h⟩ := h
  refine s_i2l d_M_goesInside_66 g2 ?_
  refine s_lload 5 d_M_goesInside_67 rfl ?_
  refine s_lmul d_M_goesInside_69 ?_
  refine s_lload 4 d_M_goesInside_70 rfl ?_
  refine s_aload_n 0 d_M_goesInside_72 rfl rfl ?_
  refine s_getF (v := 53) d_M_goesInside_73 fl_M_44 rfl (sf_42 hF) (ff_38 hF) ?_
  refine s_iload_n 1 d_M_goesInside_76 rfl rfl ?_
  refine s_iconst d_M_goesInside_77 ?_
  refine s_iadd d_M_goesInside_78 ?_
  obtain ⟨g3, h⟩ := h
  refine s_ialoadv (v := σ.1 53 (x1 + 1)) d_M_goesInside_79 ⟨_, sf_53 hF, g3.1, g3.2, by have := g3.2; omega⟩ rfl ?_
  obtain ⟨g4, h⟩ := h
  refine s_i2l d_M_goesInside_80 g4 ?_
  refine s_lmul d_M_goesInside_81 ?_
  obtain ⟨g5, h⟩ := h
  obtain ⟨g6, h⟩ := h
  refine s_lcmp d_M_goesInside_82 g5 g6 ?_
  refine s_if_ge d_M_goesInside_83 rfl (lcmp_r _ _) (fun c => ?_) (fun c => ?_)
  · have h := h.1 (lcmp_ge.mp c)
    refine wp_drop [0, 1, 2, 4, 5] rfl ?_
    exact h
  · have h := h.2 (nlcmp_ge c)
    refine s_aload_n 0 d_M_goesInside_86 rfl rfl ?_
    refine s_getF (v := 46) d_M_goesInside_87 fl_M_23 rfl (sf_42 hF) (ff_31 hF) ?_
    refine s_iload_n 3 d_M_goesInside_90 rfl rfl ?_
    obtain ⟨g7, h⟩ := h
    refine s_ialoadv (v := σ.1 46 x3) d_M_goesInside_91 ⟨_, sf_46 hF, g7.1, g7.2, by have := g7.2; omega⟩ rfl ?_
    obtain ⟨g8, h⟩ := h
    refine s_i2l d_M_goesInside_92 g8 ?_
    refine s_lstore d_M_goesInside_93 (by decide) rfl ?_
    refine s_aload_n 1 d_M_goesInside_95 rfl rfl ?_
    refine s_getF (v := 53) d_M_goesInside_96 fl_M_44 rfl (sf_42 hF) (ff_38 hF) ?_
    refine s_iload_n 2 d_M_goesInside_99 rfl rfl ?_
    refine s_iconst d_M_goesInside_100 ?_
    refine s_iadd d_M_goesInside_101 ?_
    obtain ⟨g9, h⟩ := h
    refine s_ialoadv (v := σ.1 53 (x1 + 1)) d_M_goesInside_102 ⟨_, sf_53 hF, g9.1, g9.2, by have := g9.2; omega⟩ rfl ?_
    obtain ⟨g10, h⟩ := h
    refine s_i2l d_M_goesInside_103 g10 ?_
    refine s_lstore d_M_goesInside_104 (by decide) rfl ?_
    refine wp_drop [2, 3, 4, 1, 0] rfl ?_
    exact h
theorem b_M_goesInside_106 {E : EV} {d : Nat} {Q : Option AV → St → Prop} {σ : St} (x1 x2 x4 x6 : Int) (hF : Fix σ) (h : (0 ≤ x2 ∧ x2 < 12) ∧ (0 ≤ x2 ∧ x2 < 12) ∧ (WMv E m_M_tells d [aP 42, aL ((σ.1 55 x2) * x4), aL ((σ.1 56 x2) * x6)] σ (fun σ3 => Fix σ3 ∧ (0 ≤ (σ3.1 42 27) ∧ (σ3.1 42 27) < 12) ∧ (0 ≤ (σ3.1 42 27) ∧ (σ3.1 42 27) < 12) ∧ (0 ≤ x2 ∧ x2 < 12) ∧ (0 ≤ x2 ∧ x2 < 12) ∧ (WMv E m_M_tells d [aP 42, aL (σ3.1 57 x2), aL (σ3.1 58 x2)] (wr (wr σ3 55 (σ3.1 42 27) (σ3.1 42 16)) 56 (σ3.1 42 27) (σ3.1 42 17)) (fun σ8 => Fix σ8 ∧ (0 ≤ x1 ∧ x1 < 24) ∧ (0 ≤ x1 ∧ x1 < 24) ∧ (rI ((σ8.1 62 x1) + (σ8.1 52 x1))) ∧ (0 ≤ x2 ∧ x2 < 12) ∧ (0 ≤ x2 ∧ x2 < 12) ∧ (WMv E m_M_plus d [aP 42, aL (((σ8.1 62 x1) + (σ8.1 52 x1)) * (σ8.1 55 x2)), aL (2 * (σ8.1 56 x2))] σ8 (fun σ14 => Fix σ14 ∧ (0 ≤ x2 ∧ x2 < 12) ∧ (0 ≤ x2 ∧ x2 < 12) ∧ (WMv E m_M_tells d [aP 42, aL (σ14.1 59 x2), aL (σ14.1 60 x2)] σ14 (fun σ17 => Fix σ17 ∧ (0 ≤ x1 ∧ x1 < 24) ∧ (0 ≤ x1 ∧ x1 < 24) ∧ (rI ((σ17.1 63 x1) + (σ17.1 53 x1))) ∧ (0 ≤ x2 ∧ x2 < 12) ∧ (0 ≤ x2 ∧ x2 < 12) ∧ (WMv E m_M_plus d [aP 42, aL (((σ17.1 63 x1) + (σ17.1 53 x1)) * (σ17.1 55 x2)), aL (2 * (σ17.1 56 x2))] σ17 (fun σ23 => Fix σ23 ∧ (WMv E m_M_begins d [aP 42, aI (x1 + 1), aL (σ14.1 42 16), aL (σ14.1 42 17), aL (σ23.1 42 16), aL (σ23.1 42 17)] σ23 (fun σ24 => Q none σ24))))))))))))) : WP E m_M_goesInside (d + 1) 106 [(0, aP 42), (1, aI x1), (2, aI x2), (4, aL x4), (6, aL x6)] [] σ Q := by
  refine s_aload_n 0 d_M_goesInside_106 rfl rfl ?_
  refine s_aload_n 0 d_M_goesInside_107 rfl rfl ?_
  refine s_getF (v := 55) d_M_goesInside_108 fl_M_50 rfl (sf_42 hF) (ff_40 hF) ?_
  refine s_iload_n 2 d_M_goesInside_111 rfl rfl ?_
  obtain ⟨g1, h⟩ := h
  refine s_laloadv (v := σ.1 55 x2) d_M_goesInside_112 ⟨_, sf_55 hF, g1.1, g1.2, by have := g1.2; omega⟩ rfl ?_
  refine s_lload 3 d_M_goesInside_113 rfl ?_
  refine s_lmul d_M_goesInside_115 ?_
  refine s_aload_n 0 d_M_goesInside_116 rfl rfl ?_
  refine s_getF (v := 56) d_M_goesInside_117 fl_M_54 rfl (sf_42 hF) (ff_41 hF) ?_
  refine s_iload_n 2 d_M_goesInside_120 rfl rfl ?_
  obtain ⟨g2, h⟩ := h
  refine s_laloadv (v := σ.1 56 x2) d_M_goesInside_121 ⟨_, sf_56 hF, g2.1, g2.2, by have := g2.2; omega⟩ rfl ?_
  refine s_lload 4 d_M_goesInside_122 rfl ?_
  refine s_lmul d_M_goesInside_124 ?_
  refine s_callV (as := [aL ((σ.1 55 x2) * x4), aL ((σ.1 56 x2) * x6)]) (ci := 10) d_M_goesInside_125 ok_M_tells lk_M_234 io_M_tells so_M_tells (by decide) rfl rfl rfl (Nat.le_of_ble_eq_true rfl) rfl (sf_42 hF) (WM.mono h ?_)
  rintro _ σ3 ⟨rfl, hp, h⟩
  obtain ⟨hF3, h⟩ := h
  show WP E m_M_goesInside (d + 1) 128 [(0, aP 42), (1, aI x1), (2, aI x2), (4, aL x4), (6, aL x6)] [] σ3 Q
  refine s_aload_n 0 d_M_goesInside_128 rfl rfl ?_
  refine s_getF (v := 55) d_M_goesInside_129 fl_M_50 rfl (sf_42 hF3) (ff_40 hF3) ?_
  refine s_aload_n 0 d_M_goesInside_132 rfl rfl ?_
  refine s_getF (v := σ3.1 42 27) d_M_goesInside_133 fl_M_238 rfl (sf_42 hF3) rfl ?_
  refine s_aload_n 0 d_M_goesInside_136 rfl rfl ?_
  refine s_getF (v := σ3.1 42 16) d_M_goesInside_137 fl_M_227 rfl (sf_42 hF3) rfl ?_
  obtain ⟨g4, h⟩ := h
  refine s_lastore d_M_goesInside_140 ⟨_, sf_55 hF3, g4.1, g4.2, by have := g4.2; omega⟩ ?_
  refine s_aload_n 0 d_M_goesInside_141 rfl rfl ?_
  refine s_getF (v := 56) d_M_goesInside_142 fl_M_54 rfl (sf_42 (hF3.wa (a := 55) (by decide))) (ff_41 (hF3.wa (a := 55) (by decide))) ?_
  refine s_aload_n 0 d_M_goesInside_145 rfl rfl ?_
  refine s_getF (v := σ3.1 42 27) d_M_goesInside_146 fl_M_238 rfl (sf_42 (hF3.wa (a := 55) (by decide))) rfl ?_
  refine s_aload_n 0 d_M_goesInside_149 rfl rfl ?_
  refine s_getF (v := σ3.1 42 17) d_M_goesInside_150 fl_M_231 rfl (sf_42 (hF3.wa (a := 55) (by decide))) rfl ?_
  obtain ⟨g5, h⟩ := h
  refine s_lastore d_M_goesInside_153 ⟨_, sf_56 (hF3.wa (a := 55) (by decide)), g5.1, g5.2, by have := g5.2; omega⟩ ?_
  refine s_aload_n 0 d_M_goesInside_154 rfl rfl ?_
  refine s_aload_n 0 d_M_goesInside_155 rfl rfl ?_
  refine s_getF (v := 57) d_M_goesInside_156 fl_M_57 rfl (sf_42 ((hF3.wa (a := 55) (by decide)).wa (a := 56) (by decide))) (ff_42 ((hF3.wa (a := 55) (by decide)).wa (a := 56) (by decide))) ?_
  refine s_iload_n 2 d_M_goesInside_159 rfl rfl ?_
  obtain ⟨g6, h⟩ := h
  refine s_laloadv (v := σ3.1 57 x2) d_M_goesInside_160 ⟨_, sf_57 ((hF3.wa (a := 55) (by decide)).wa (a := 56) (by decide)), g6.1, g6.2, by have := g6.2; omega⟩ rfl ?_
  refine s_aload_n 0 d_M_goesInside_161 rfl rfl ?_
  refine s_getF (v := 58) d_M_goesInside_162 fl_M_60 rfl (sf_42 ((hF3.wa (a := 55) (by decide)).wa (a := 56) (by decide))) (ff_43 ((hF3.wa (a := 55) (by decide)).wa (a := 56) (by decide))) ?_
  refine s_iload_n 2 d_M_goesInside_165 rfl rfl ?_
  obtain ⟨g7, h⟩ := h
  refine s_laloadv (v := σ3.1 58 x2) d_M_goesInside_166 ⟨_, sf_58 ((hF3.wa (a := 55) (by decide)).wa (a := 56) (by decide)), g7.1, g7.2, by have := g7.2; omega⟩ rfl ?_
  refine s_callV (as := [aL (σ3.1 57 x2), aL (σ3.1 58 x2)]) (ci := 10) d_M_goesInside_167 ok_M_tells lk_M_234 io_M_tells so_M_tells (by decide) rfl rfl rfl (Nat.le_of_ble_eq_true rfl) rfl (sf_42 ((hF3.wa (a := 55) (by decide)).wa (a := 56) (by decide))) (WM.mono h ?_)
  rintro _ σ8 ⟨rfl, hp, h⟩
  obtain ⟨hF8, h⟩ := h
  show WP E m_M_goesInside (d + 1) 170 [(0, aP 42), (1, aI x1), (2, aI x2), (4, aL x4), (6, aL x6)] [] σ8 Q
  refine s_aload_n 0 d_M_goesInside_170 rfl rfl ?_
  refine s_aload_n 0 d_M_goesInside_171 rfl rfl ?_
  refine s_getF (v := 62) d_M_goesInside_172 fl_M_72 rfl (sf_42 hF8) (ff_47 hF8) ?_
  refine s_iload_n 1 d_M_goesInside_175 rfl rfl ?_
  obtain ⟨g9, h⟩ := h
  refine s_ialoadv (v := σ8.1 62 x1) d_M_goesInside_176 ⟨_, sf_62 hF8, g9.1, g9.2, by have := g9.2; omega⟩ rfl ?_
  refine s_aload_n 0 d_M_goesInside_177 rfl rfl ?_
  refine s_getF (v := 52) d_M_goesInside_178 fl_M_41 rfl (sf_42 hF8) (ff_37 hF8) ?_
  refine s_iload_n 1 d_M_goesInside_181 rfl rfl ?_
  obtain ⟨g10, h⟩ := h
  refine s_ialoadv (v := σ8.1 52 x1) d_M_goesInside_182 ⟨_, sf_52 hF8, g10.1, g10.2, by have := g10.2; omega⟩ rfl ?_
  refine s_iadd d_M_goesInside_183 ?_
  obtain ⟨g11, h⟩ := h
  refine s_i2l d_M_goesInside_184 g11 ?_
  refine s_aload_n 0 d_M_goesInside_185 rfl rfl ?_
  refine s_getF (v := 55) d_M_goesInside_186 fl_M_50 rfl (sf_42 hF8) (ff_40 hF8) ?_
  refine s_iload_n 2 d_M_goesInside_189 rfl rfl ?_
  obtain ⟨g12, h⟩ := h
  refine s_laloadv (v := σ8.1 55 x2) d_M_goesInside_190 ⟨_, sf_55 hF8, g12.1, g12.2, by have := g12.2; omega⟩ rfl ?_
  refine s_lmul d_M_goesInside_191 ?_
  refine s_ldc2 (v := 2) d_M_goesInside_192 ll_M_241 (by decide) ?_
  refine s_aload_n 0 d_M_goesInside_195 rfl rfl ?_
  refine s_getF (v := 56) d_M_goesInside_196 fl_M_54 rfl (sf_42 hF8) (ff_41 hF8) ?_
  refine s_iload_n 2 d_M_goesInside_199 rfl rfl ?_
  obtain ⟨g13, h⟩ := h
  refine s_laloadv (v := σ8.1 56 x2) d_M_goesInside_200 ⟨_, sf_56 hF8, g13.1, g13.2, by have := g13.2; omega⟩ rfl ?_
  refine s_lmul d_M_goesInside_201 ?_
  refine s_callV (as := [aL (((σ8.1 62 x1) + (σ8.1 52 x1)) * (σ8.1 55 x2)), aL (2 * (σ8.1 56 x2))]) (ci := 10) d_M_goesInside_202 ok_M_plus lk_M_243 io_M_plus so_M_plus (by decide) rfl rfl rfl (Nat.le_of_ble_eq_true rfl) rfl (sf_42 hF8) (WM.mono h ?_)
  rintro _ σ14 ⟨rfl, hp, h⟩
  obtain ⟨hF14, h⟩ := h
  show WP E m_M_goesInside (d + 1) 205 [(0, aP 42), (1, aI x1), (2, aI x2), (4, aL x4), (6, aL x6)] [] σ14 Q
  refine s_aload_n 0 d_M_goesInside_205 rfl rfl ?_
  refine s_getF (v := σ14.1 42 16) d_M_goesInside_206 fl_M_227 rfl (sf_42 hF14) rfl ?_
  refine s_lstore d_M_goesInside_209 (by decide) rfl ?_
  refine s_aload_n 1 d_M_goesInside_211 rfl rfl ?_
  refine s_getF (v := σ14.1 42 17) d_M_goesInside_212 fl_M_231 rfl (sf_42 hF14) rfl ?_
  refine s_lstore d_M_goesInside_215 (by decide) rfl ?_
  refine s_aload_n 2 d_M_goesInside_217 rfl rfl ?_
  refine s_aload_n 2 d_M_goesInside_218 rfl rfl ?_
  refine s_getF (v := 59) d_M_goesInside_219 fl_M_63 rfl (sf_42 hF14) (ff_44 hF14) ?_
  refine s_iload_n 4 d_M_goesInside_222 rfl rfl ?_
  obtain ⟨g15, h⟩ := h
  refine s_laloadv (v := σ14.1 59 x2) d_M_goesInside_223 ⟨_, sf_59 hF14, g15.1, g15.2, by have := g15.2; omega⟩ rfl ?_
  refine s_aload_n 2 d_M_goesInside_224 rfl rfl ?_
  refine s_getF (v := 60) d_M_goesInside_225 fl_M_66 rfl (sf_42 hF14) (ff_45 hF14) ?_
  refine s_iload_n 4 d_M_goesInside_228 rfl rfl ?_
  obtain ⟨g16, h⟩ := h
  refine s_laloadv (v := σ14.1 60 x2) d_M_goesInside_229 ⟨_, sf_60 hF14, g16.1, g16.2, by have := g16.2; omega⟩ rfl ?_
  refine s_callV (as := [aL (σ14.1 59 x2), aL (σ14.1 60 x2)]) (ci := 10) d_M_goesInside_230 ok_M_tells lk_M_234 io_M_tells so_M_tells (by decide) rfl rfl rfl (Nat.le_of_ble_eq_true rfl) rfl (sf_42 hF14) (WM.mono h ?_)
  rintro _ σ17 ⟨rfl, hp, h⟩
  obtain ⟨hF17, h⟩ := h
  show WP E m_M_goesInside (d + 1) 233 [(10, aL (σ14.1 42 17)), (8, aL (σ14.1 42 16)), (0, aP 42), (1, aI x1), (2, aI x2), (4, aL x4), (6, aL x6)] [] σ17 Q
  refine s_aload_n 2 d_M_goesInside_233 rfl rfl ?_
  refine s_aload_n 2 d_M_goesInside_234 rfl rfl ?_
  refine s_getF (v := 63) d_M_goesInside_235 fl_M_75 rfl (sf_42 hF17) (ff_48 hF17) ?_
  refine s_iload_n 3 d_M_goesInside_238 rfl rfl ?_
  obtain ⟨g18, h⟩ := h
  refine s_ialoadv (v := σ17.1 63 x1) d_M_goesInside_239 ⟨_, sf_63 hF17, g18.1, g18.2, by have := g18.2; omega⟩ rfl ?_
  refine s_aload_n 2 d_M_goesInside_240 rfl rfl ?_
  refine s_getF (v := 53) d_M_goesInside_241 fl_M_44 rfl (sf_42 hF17) (ff_38 hF17) ?_
  refine s_iload_n 3 d_M_goesInside_244 rfl rfl ?_
  obtain ⟨g19, h⟩ := h
  refine s_ialoadv (v := σ17.1 53 x1) d_M_goesInside_245 ⟨_, sf_53 hF17, g19.1, g19.2, by have := g19.2; omega⟩ rfl ?_
  refine s_iadd d_M_goesInside_246 ?_
  obtain ⟨g20, h⟩ := h
  refine s_i2l d_M_goesInside_247 g20 ?_
  refine s_aload_n 2 d_M_goesInside_248 rfl rfl ?_
  refine s_getF (v := 55) d_M_goesInside_249 fl_M_50 rfl (sf_42 hF17) (ff_40 hF17) ?_
  refine s_iload_n 4 d_M_goesInside_252 rfl rfl ?_
  obtain ⟨g21, h⟩ := h
  refine s_laloadv (v := σ17.1 55 x2) d_M_goesInside_253 ⟨_, sf_55 hF17, g21.1, g21.2, by have := g21.2; omega⟩ rfl ?_
  refine s_lmul d_M_goesInside_254 ?_
  refine s_ldc2 (v := 2) d_M_goesInside_255 ll_M_241 (by decide) ?_
  refine s_aload_n 2 d_M_goesInside_258 rfl rfl ?_
  refine s_getF (v := 56) d_M_goesInside_259 fl_M_54 rfl (sf_42 hF17) (ff_41 hF17) ?_
  refine s_iload_n 4 d_M_goesInside_262 rfl rfl ?_
  obtain ⟨g22, h⟩ := h
  refine s_laloadv (v := σ17.1 56 x2) d_M_goesInside_263 ⟨_, sf_56 hF17, g22.1, g22.2, by have := g22.2; omega⟩ rfl ?_
  refine s_lmul d_M_goesInside_264 ?_
  refine s_callV (as := [aL (((σ17.1 63 x1) + (σ17.1 53 x1)) * (σ17.1 55 x2)), aL (2 * (σ17.1 56 x2))]) (ci := 10) d_M_goesInside_265 ok_M_plus lk_M_243 io_M_plus so_M_plus (by decide) rfl rfl rfl (Nat.le_of_ble_eq_true rfl) rfl (sf_42 hF17) (WM.mono h ?_)
  rintro _ σ23 ⟨rfl, hp, h⟩
  obtain ⟨hF23, h⟩ := h
  show WP E m_M_goesInside (d + 1) 268 [(10, aL (σ14.1 42 17)), (8, aL (σ14.1 42 16)), (0, aP 42), (1, aI x1), (2, aI x2), (4, aL x4), (6, aL x6)] [] σ23 Q
  refine s_aload_n 2 d_M_goesInside_268 rfl rfl ?_
  refine s_iload_n 3 d_M_goesInside_269 rfl rfl ?_
  refine s_iconst d_M_goesInside_270 ?_
  refine s_iadd d_M_goesInside_271 ?_
  refine s_lload 1 d_M_goesInside_272 rfl ?_
  refine s_lload 0 d_M_goesInside_274 rfl ?_
  refine s_aload_n 2 d_M_goesInside_276 rfl rfl ?_
  refine s_getF (v := σ23.1 42 16) d_M_goesInside_277 fl_M_227 rfl (sf_42 hF23) rfl ?_
  refine s_aload_n 2 d_M_goesInside_280 rfl rfl ?_
  refine s_getF (v := σ23.1 42 17) d_M_goesInside_281 fl_M_231 rfl (sf_42 hF23) rfl ?_
  refine s_callV (as := [aI (x1 + 1), aL (σ14.1 42 16), aL (σ14.1 42 17), aL (σ23.1 42 16), aL (σ23.1 42 17)]) (ci := 10) d_M_goesInside_284 ok_M_begins lk_M_246 io_M_begins so_M_begins (by decide) rfl rfl rfl (Nat.le_of_ble_eq_true rfl) rfl (sf_42 hF23) (WM.mono h ?_)
  rintro _ σ24 ⟨rfl, hp, h⟩
  show WP E m_M_goesInside (d + 1) 287 [(10, aL (σ14.1 42 17)), (8, aL (σ14.1 42 16)), (0, aP 42), (1, aI x1), (2, aI x2), (4, aL x4), (6, aL x6)] [] σ24 Q
  exact s_return d_M_goesInside_287 rfl h
theorem d_M_isLeft_0 : decode m_M_isLeft.2.1 0 = .ok (.aload_n 0, 1) := by decide +kernel
theorem d_M_isLeft_1 : decode m_M_isLeft.2.1 1 = .ok (.getfield 26, 3) := by decide +kernel
theorem d_M_isLeft_4 : decode m_M_isLeft.2.1 4 = .ok (.iconst 3, 1) := by decide +kernel
theorem d_M_isLeft_5 : decode m_M_isLeft.2.1 5 = .ok (.sipush 170, 3) := by decide +kernel
theorem d_M_isLeft_8 : decode m_M_isLeft.2.1 8 = .ok (.iload_n 1, 1) := by decide +kernel
theorem d_M_isLeft_9 : decode m_M_isLeft.2.1 9 = .ok (.imul, 1) := by decide +kernel
theorem d_M_isLeft_10 : decode m_M_isLeft.2.1 10 = .ok (.iadd, 1) := by decide +kernel
theorem d_M_isLeft_11 : decode m_M_isLeft.2.1 11 = .ok (.iconst 1, 1) := by decide +kernel
theorem d_M_isLeft_12 : decode m_M_isLeft.2.1 12 = .ok (.iadd, 1) := by decide +kernel
theorem d_M_isLeft_13 : decode m_M_isLeft.2.1 13 = .ok (.iaload, 1) := by decide +kernel
theorem d_M_isLeft_14 : decode m_M_isLeft.2.1 14 = .ok (.iconst 1, 1) := by decide +kernel
theorem d_M_isLeft_15 : decode m_M_isLeft.2.1 15 = .ok (.if_icmp .ne 7, 3) := by decide +kernel
theorem d_M_isLeft_18 : decode m_M_isLeft.2.1 18 = .ok (.iconst 1, 1) := by decide +kernel
theorem d_M_isLeft_19 : decode m_M_isLeft.2.1 19 = .ok (.goto 4, 3) := by decide +kernel
theorem d_M_isLeft_22 : decode m_M_isLeft.2.1 22 = .ok (.iconst 0, 1) := by decide +kernel
theorem d_M_isLeft_23 : decode m_M_isLeft.2.1 23 = .ok (.ireturn, 1) := by decide +kernel
theorem b_M_isLeft_0 {E : EV} {d : Nat} {Q : Option AV → St → Prop} {σ : St} (x1 : Int) (hF : Fix σ) (h : (0 ≤ ((3 + (170 * x1)) + 1) ∧ ((3 + (170 * x1)) + 1) < 683) ∧ (rI (σ.1 47 ((3 + (170 * x1)) + 1))) ∧ ((¬ (σ.1 47 ((3 + (170 * x1)) + 1)) = 1 → Q (some (aI 0)) σ) ∧ ((σ.1 47 ((3 + (170 * x1)) + 1)) = 1 → Q (some (aI 1)) σ))) : WP E m_M_isLeft d 0 [(0, aP 42), (1, aI x1)] [] σ Q := by
  refine s_aload_n 0 d_M_isLeft_0 rfl rfl ?_
  refine s_getF (v := 47) d_M_isLeft_1 fl_M_26 rfl (sf_42 hF) (ff_32 hF) ?_
  refine s_iconst d_M_isLeft_4 ?_
  refine s_sipush d_M_isLeft_5 (by decide) ?_
  refine s_iload_n 1 d_M_isLeft_8 rfl rfl ?_
  refine s_imul d_M_isLeft_9 ?_
  refine s_iadd d_M_isLeft_10 ?_
  refine s_iconst d_M_isLeft_11 ?_
  refine s_iadd d_M_isLeft_12 ?_
  obtain ⟨g1, h⟩ := h
  refine s_ialoadv (v := σ.1 47 ((3 + (170 * x1)) + 1)) d_M_isLeft_13 ⟨_, sf_47 hF, g1.1, g1.2, by have := g1.2; omega⟩ rfl ?_
  refine s_iconst d_M_isLeft_14 ?_
  obtain ⟨g2, h⟩ := h
  refine s_icmp_ne d_M_isLeft_15 rfl g2 (by decide) (fun c => ?_) (fun c => ?_)
  · have h := h.1 c
    refine s_iconst d_M_isLeft_22 ?_
    exact s_zreturn d_M_isLeft_23 rfl (by decide) h
  · have h := h.2 c
    refine s_iconst d_M_isLeft_18 ?_
    refine s_goto d_M_isLeft_19 rfl ?_
    exact s_zreturn d_M_isLeft_23 rfl (by decide) h
theorem e_M_isLeft {E : EV} {d : Nat} {Q : Option AV → St → Prop} {σ : St} (x1 : Int) (hF : Fix σ) (h : (0 ≤ ((3 + (170 * x1)) + 1) ∧ ((3 + (170 * x1)) + 1) < 683) ∧ (rI (σ.1 47 ((3 + (170 * x1)) + 1))) ∧ ((¬ (σ.1 47 ((3 + (170 * x1)) + 1)) = 1 → Q (some (aI 0)) σ) ∧ ((σ.1 47 ((3 + (170 * x1)) + 1)) = 1 → Q (some (aI 1)) σ))) : WM E m_M_isLeft d [aP 42, aI x1] σ Q := s_meth (by decide) (Nat.le_of_ble_eq_true rfl) rfl (b_M_isLeft_0 x1 hF h)
theorem d_M_boxOf_0 : decode m_M_boxOf.2.1 0 = .ok (.aload_n 0, 1) := by decide +kernel
theorem d_M_boxOf_1 : decode m_M_boxOf.2.1 1 = .ok (.getfield 69, 3) := by decide +kernel
theorem d_M_boxOf_4 : decode m_M_boxOf.2.1 4 = .ok (.iload_n 1, 1) := by decide +kernel
theorem d_M_boxOf_5 : decode m_M_boxOf.2.1 5 = .ok (.iaload, 1) := by decide +kernel
theorem d_M_boxOf_6 : decode m_M_boxOf.2.1 6 = .ok (.istore 4, 2) := by decide +kernel
theorem d_M_boxOf_8 : decode m_M_boxOf.2.1 8 = .ok (.iload_n 2, 1) := by decide +kernel
theorem d_M_boxOf_9 : decode m_M_boxOf.2.1 9 = .ok (.tableswitch 235 0 3 #[31, 132, 181, 208], 31) := by decide +kernel
theorem d_M_boxOf_40 : decode m_M_boxOf.2.1 40 = .ok (.aload_n 0, 1) := by decide +kernel
theorem d_M_boxOf_41 : decode m_M_boxOf.2.1 41 = .ok (.aload_n 0, 1) := by decide +kernel
theorem d_M_boxOf_42 : decode m_M_boxOf.2.1 42 = .ok (.getfield 57, 3) := by decide +kernel
theorem d_M_boxOf_45 : decode m_M_boxOf.2.1 45 = .ok (.iload 4, 2) := by decide +kernel
theorem d_M_boxOf_47 : decode m_M_boxOf.2.1 47 = .ok (.laload, 1) := by decide +kernel
theorem d_M_boxOf_48 : decode m_M_boxOf.2.1 48 = .ok (.aload_n 0, 1) := by decide +kernel
theorem d_M_boxOf_49 : decode m_M_boxOf.2.1 49 = .ok (.getfield 60, 3) := by decide +kernel
theorem d_M_boxOf_52 : decode m_M_boxOf.2.1 52 = .ok (.iload 4, 2) := by decide +kernel
theorem d_M_boxOf_54 : decode m_M_boxOf.2.1 54 = .ok (.laload, 1) := by decide +kernel
theorem d_M_boxOf_55 : decode m_M_boxOf.2.1 55 = .ok (.invokevirtual 234, 3) := by decide +kernel
theorem d_M_boxOf_58 : decode m_M_boxOf.2.1 58 = .ok (.aload_n 0, 1) := by decide +kernel
theorem d_M_boxOf_59 : decode m_M_boxOf.2.1 59 = .ok (.aload_n 0, 1) := by decide +kernel
theorem d_M_boxOf_60 : decode m_M_boxOf.2.1 60 = .ok (.getfield 72, 3) := by decide +kernel
theorem d_M_boxOf_63 : decode m_M_boxOf.2.1 63 = .ok (.iload_n 1, 1) := by decide +kernel
theorem d_M_boxOf_64 : decode m_M_boxOf.2.1 64 = .ok (.iaload, 1) := by decide +kernel
theorem d_M_boxOf_65 : decode m_M_boxOf.2.1 65 = .ok (.i2l, 1) := by decide +kernel
theorem d_M_boxOf_66 : decode m_M_boxOf.2.1 66 = .ok (.aload_n 0, 1) := by decide +kernel
theorem d_M_boxOf_67 : decode m_M_boxOf.2.1 67 = .ok (.getfield 50, 3) := by decide +kernel
theorem d_M_boxOf_70 : decode m_M_boxOf.2.1 70 = .ok (.iload 4, 2) := by decide +kernel
theorem d_M_boxOf_72 : decode m_M_boxOf.2.1 72 = .ok (.laload, 1) := by decide +kernel
theorem d_M_boxOf_73 : decode m_M_boxOf.2.1 73 = .ok (.lmul, 1) := by decide +kernel
theorem d_M_boxOf_74 : decode m_M_boxOf.2.1 74 = .ok (.ldc2_w 241, 3) := by decide +kernel
theorem d_M_boxOf_77 : decode m_M_boxOf.2.1 77 = .ok (.aload_n 0, 1) := by decide +kernel
theorem d_M_boxOf_78 : decode m_M_boxOf.2.1 78 = .ok (.getfield 54, 3) := by decide +kernel
theorem d_M_boxOf_81 : decode m_M_boxOf.2.1 81 = .ok (.iload 4, 2) := by decide +kernel
theorem d_M_boxOf_83 : decode m_M_boxOf.2.1 83 = .ok (.laload, 1) := by decide +kernel
theorem d_M_boxOf_84 : decode m_M_boxOf.2.1 84 = .ok (.lmul, 1) := by decide +kernel
theorem d_M_boxOf_85 : decode m_M_boxOf.2.1 85 = .ok (.invokevirtual 243, 3) := by decide +kernel
theorem d_M_boxOf_88 : decode m_M_boxOf.2.1 88 = .ok (.iload_n 3, 1) := by decide +kernel
theorem d_M_boxOf_89 : decode m_M_boxOf.2.1 89 = .ok (.ifCond .ne 4, 3) := by decide +kernel
theorem d_M_boxOf_92 : decode m_M_boxOf.2.1 92 = .ok (.return_, 1) := by decide +kernel
theorem d_M_boxOf_93 : decode m_M_boxOf.2.1 93 = .ok (.aload_n 0, 1) := by decide +kernel
theorem d_M_boxOf_94 : decode m_M_boxOf.2.1 94 = .ok (.aload_n 0, 1) := by decide +kernel
theorem d_M_boxOf_95 : decode m_M_boxOf.2.1 95 = .ok (.getfield 41, 3) := by decide +kernel
theorem d_M_boxOf_98 : decode m_M_boxOf.2.1 98 = .ok (.iload_n 1, 1) := by decide +kernel
theorem d_M_boxOf_99 : decode m_M_boxOf.2.1 99 = .ok (.iaload, 1) := by decide +kernel
theorem d_M_boxOf_100 : decode m_M_boxOf.2.1 100 = .ok (.i2l, 1) := by decide +kernel
theorem d_M_boxOf_101 : decode m_M_boxOf.2.1 101 = .ok (.aload_n 0, 1) := by decide +kernel
theorem d_M_boxOf_102 : decode m_M_boxOf.2.1 102 = .ok (.getfield 50, 3) := by decide +kernel
theorem d_M_boxOf_105 : decode m_M_boxOf.2.1 105 = .ok (.iload 4, 2) := by decide +kernel
theorem d_M_boxOf_107 : decode m_M_boxOf.2.1 107 = .ok (.laload, 1) := by decide +kernel
theorem d_M_boxOf_108 : decode m_M_boxOf.2.1 108 = .ok (.lmul, 1) := by decide +kernel
theorem d_M_boxOf_109 : decode m_M_boxOf.2.1 109 = .ok (.aload_n 0, 1) := by decide +kernel
theorem d_M_boxOf_110 : decode m_M_boxOf.2.1 110 = .ok (.getfield 54, 3) := by decide +kernel
theorem d_M_boxOf_113 : decode m_M_boxOf.2.1 113 = .ok (.iload 4, 2) := by decide +kernel
theorem d_M_boxOf_115 : decode m_M_boxOf.2.1 115 = .ok (.laload, 1) := by decide +kernel
theorem d_M_boxOf_116 : decode m_M_boxOf.2.1 116 = .ok (.invokevirtual 243, 3) := by decide +kernel
theorem d_M_boxOf_119 : decode m_M_boxOf.2.1 119 = .ok (.aload_n 0, 1) := by decide +kernel
theorem d_M_boxOf_120 : decode m_M_boxOf.2.1 120 = .ok (.aload_n 0, 1) := by decide +kernel
theorem d_M_boxOf_121 : decode m_M_boxOf.2.1 121 = .ok (.getfield 227, 3) := by decide +kernel
theorem d_M_boxOf_124 : decode m_M_boxOf.2.1 124 = .ok (.lneg, 1) := by decide +kernel
theorem d_M_boxOf_125 : decode m_M_boxOf.2.1 125 = .ok (.putfield 227, 3) := by decide +kernel
theorem d_M_boxOf_128 : decode m_M_boxOf.2.1 128 = .ok (.aload_n 0, 1) := by decide +kernel
theorem d_M_boxOf_129 : decode m_M_boxOf.2.1 129 = .ok (.aload_n 0, 1) := by decide +kernel
theorem d_M_boxOf_130 : decode m_M_boxOf.2.1 130 = .ok (.getfield 26, 3) := by decide +kernel
theorem d_M_boxOf_133 : decode m_M_boxOf.2.1 133 = .ok (.iconst 0, 1) := by decide +kernel
theorem d_M_boxOf_134 : decode m_M_boxOf.2.1 134 = .ok (.iaload, 1) := by decide +kernel
theorem d_M_boxOf_135 : decode m_M_boxOf.2.1 135 = .ok (.i2l, 1) := by decide +kernel
theorem d_M_boxOf_136 : decode m_M_boxOf.2.1 136 = .ok (.lconst 1, 1) := by decide +kernel
theorem d_M_boxOf_137 : decode m_M_boxOf.2.1 137 = .ok (.invokevirtual 243, 3) := by decide +kernel
theorem d_M_boxOf_140 : decode m_M_boxOf.2.1 140 = .ok (.return_, 1) := by decide +kernel
theorem d_M_boxOf_141 : decode m_M_boxOf.2.1 141 = .ok (.aload_n 0, 1) := by decide +kernel
theorem d_M_boxOf_142 : decode m_M_boxOf.2.1 142 = .ok (.aload_n 0, 1) := by decide +kernel
theorem d_M_boxOf_143 : decode m_M_boxOf.2.1 143 = .ok (.getfield 63, 3) := by decide +kernel
theorem d_M_boxOf_146 : decode m_M_boxOf.2.1 146 = .ok (.iload 4, 2) := by decide +kernel
theorem d_M_boxOf_148 : decode m_M_boxOf.2.1 148 = .ok (.laload, 1) := by decide +kernel
theorem d_M_boxOf_149 : decode m_M_boxOf.2.1 149 = .ok (.aload_n 0, 1) := by decide +kernel
theorem d_M_boxOf_150 : decode m_M_boxOf.2.1 150 = .ok (.getfield 66, 3) := by decide +kernel
theorem d_M_boxOf_153 : decode m_M_boxOf.2.1 153 = .ok (.iload 4, 2) := by decide +kernel
theorem d_M_boxOf_155 : decode m_M_boxOf.2.1 155 = .ok (.laload, 1) := by decide +kernel
theorem d_M_boxOf_156 : decode m_M_boxOf.2.1 156 = .ok (.invokevirtual 234, 3) := by decide +kernel
theorem d_M_boxOf_159 : decode m_M_boxOf.2.1 159 = .ok (.aload_n 0, 1) := by decide +kernel
theorem d_M_boxOf_160 : decode m_M_boxOf.2.1 160 = .ok (.aload_n 0, 1) := by decide +kernel
theorem d_M_boxOf_161 : decode m_M_boxOf.2.1 161 = .ok (.getfield 75, 3) := by decide +kernel
theorem d_M_boxOf_164 : decode m_M_boxOf.2.1 164 = .ok (.iload_n 1, 1) := by decide +kernel
theorem d_M_boxOf_165 : decode m_M_boxOf.2.1 165 = .ok (.iaload, 1) := by decide +kernel
theorem d_M_boxOf_166 : decode m_M_boxOf.2.1 166 = .ok (.i2l, 1) := by decide +kernel
theorem d_M_boxOf_167 : decode m_M_boxOf.2.1 167 = .ok (.aload_n 0, 1) := by decide +kernel
theorem d_M_boxOf_168 : decode m_M_boxOf.2.1 168 = .ok (.getfield 50, 3) := by decide +kernel
theorem d_M_boxOf_171 : decode m_M_boxOf.2.1 171 = .ok (.iload 4, 2) := by decide +kernel
theorem d_M_boxOf_173 : decode m_M_boxOf.2.1 173 = .ok (.laload, 1) := by decide +kernel
theorem d_M_boxOf_174 : decode m_M_boxOf.2.1 174 = .ok (.lmul, 1) := by decide +kernel
theorem d_M_boxOf_175 : decode m_M_boxOf.2.1 175 = .ok (.ldc2_w 241, 3) := by decide +kernel
theorem d_M_boxOf_178 : decode m_M_boxOf.2.1 178 = .ok (.aload_n 0, 1) := by decide +kernel
theorem d_M_boxOf_179 : decode m_M_boxOf.2.1 179 = .ok (.getfield 54, 3) := by decide +kernel
theorem d_M_boxOf_182 : decode m_M_boxOf.2.1 182 = .ok (.iload 4, 2) := by decide +kernel
theorem d_M_boxOf_184 : decode m_M_boxOf.2.1 184 = .ok (.laload, 1) := by decide +kernel
theorem d_M_boxOf_185 : decode m_M_boxOf.2.1 185 = .ok (.lmul, 1) := by decide +kernel
theorem d_M_boxOf_186 : decode m_M_boxOf.2.1 186 = .ok (.invokevirtual 243, 3) := by decide +kernel
theorem d_M_boxOf_189 : decode m_M_boxOf.2.1 189 = .ok (.return_, 1) := by decide +kernel
theorem d_M_boxOf_190 : decode m_M_boxOf.2.1 190 = .ok (.aload_n 0, 1) := by decide +kernel
theorem d_M_boxOf_191 : decode m_M_boxOf.2.1 191 = .ok (.aload_n 0, 1) := by decide +kernel
theorem d_M_boxOf_192 : decode m_M_boxOf.2.1 192 = .ok (.getfield 41, 3) := by decide +kernel
theorem d_M_boxOf_195 : decode m_M_boxOf.2.1 195 = .ok (.iload_n 1, 1) := by decide +kernel
theorem d_M_boxOf_196 : decode m_M_boxOf.2.1 196 = .ok (.iaload, 1) := by decide +kernel
theorem d_M_boxOf_197 : decode m_M_boxOf.2.1 197 = .ok (.i2l, 1) := by decide +kernel
theorem d_M_boxOf_198 : decode m_M_boxOf.2.1 198 = .ok (.aload_n 0, 1) := by decide +kernel
theorem d_M_boxOf_199 : decode m_M_boxOf.2.1 199 = .ok (.getfield 50, 3) := by decide +kernel
theorem d_M_boxOf_202 : decode m_M_boxOf.2.1 202 = .ok (.iload 4, 2) := by decide +kernel
theorem d_M_boxOf_204 : decode m_M_boxOf.2.1 204 = .ok (.laload, 1) := by decide +kernel
theorem d_M_boxOf_205 : decode m_M_boxOf.2.1 205 = .ok (.lmul, 1) := by decide +kernel
theorem d_M_boxOf_206 : decode m_M_boxOf.2.1 206 = .ok (.aload_n 0, 1) := by decide +kernel
theorem d_M_boxOf_207 : decode m_M_boxOf.2.1 207 = .ok (.getfield 54, 3) := by decide +kernel
theorem d_M_boxOf_210 : decode m_M_boxOf.2.1 210 = .ok (.iload 4, 2) := by decide +kernel
theorem d_M_boxOf_212 : decode m_M_boxOf.2.1 212 = .ok (.laload, 1) := by decide +kernel
theorem d_M_boxOf_213 : decode m_M_boxOf.2.1 213 = .ok (.invokevirtual 234, 3) := by decide +kernel
theorem d_M_boxOf_216 : decode m_M_boxOf.2.1 216 = .ok (.return_, 1) := by decide +kernel
theorem d_M_boxOf_217 : decode m_M_boxOf.2.1 217 = .ok (.aload_n 0, 1) := by decide +kernel
theorem d_M_boxOf_218 : decode m_M_boxOf.2.1 218 = .ok (.aload_n 0, 1) := by decide +kernel
theorem d_M_boxOf_219 : decode m_M_boxOf.2.1 219 = .ok (.getfield 44, 3) := by decide +kernel
theorem d_M_boxOf_222 : decode m_M_boxOf.2.1 222 = .ok (.iload_n 1, 1) := by decide +kernel
theorem d_M_boxOf_223 : decode m_M_boxOf.2.1 223 = .ok (.iaload, 1) := by decide +kernel
theorem d_M_boxOf_224 : decode m_M_boxOf.2.1 224 = .ok (.i2l, 1) := by decide +kernel
theorem d_M_boxOf_225 : decode m_M_boxOf.2.1 225 = .ok (.aload_n 0, 1) := by decide +kernel
theorem d_M_boxOf_226 : decode m_M_boxOf.2.1 226 = .ok (.getfield 50, 3) := by decide +kernel
theorem d_M_boxOf_229 : decode m_M_boxOf.2.1 229 = .ok (.iload 4, 2) := by decide +kernel
theorem d_M_boxOf_231 : decode m_M_boxOf.2.1 231 = .ok (.laload, 1) := by decide +kernel
theorem d_M_boxOf_232 : decode m_M_boxOf.2.1 232 = .ok (.lmul, 1) := by decide +kernel
theorem d_M_boxOf_233 : decode m_M_boxOf.2.1 233 = .ok (.aload_n 0, 1) := by decide +kernel
theorem d_M_boxOf_234 : decode m_M_boxOf.2.1 234 = .ok (.getfield 54, 3) := by decide +kernel
theorem d_M_boxOf_237 : decode m_M_boxOf.2.1 237 = .ok (.iload 4, 2) := by decide +kernel
theorem d_M_boxOf_239 : decode m_M_boxOf.2.1 239 = .ok (.laload, 1) := by decide +kernel
theorem d_M_boxOf_240 : decode m_M_boxOf.2.1 240 = .ok (.invokevirtual 234, 3) := by decide +kernel
theorem d_M_boxOf_243 : decode m_M_boxOf.2.1 243 = .ok (.return_, 1) := by decide +kernel
theorem d_M_boxOf_244 : decode m_M_boxOf.2.1 244 = .ok (.aload_n 0, 1) := by decide +kernel
theorem d_M_boxOf_245 : decode m_M_boxOf.2.1 245 = .ok (.aload_n 0, 1) := by decide +kernel
theorem d_M_boxOf_246 : decode m_M_boxOf.2.1 246 = .ok (.getfield 50, 3) := by decide +kernel
theorem d_M_boxOf_249 : decode m_M_boxOf.2.1 249 = .ok (.iload 4, 2) := by decide +kernel
theorem d_M_boxOf_251 : decode m_M_boxOf.2.1 251 = .ok (.laload, 1) := by decide +kernel
theorem d_M_boxOf_252 : decode m_M_boxOf.2.1 252 = .ok (.aload_n 0, 1) := by decide +kernel
theorem d_M_boxOf_253 : decode m_M_boxOf.2.1 253 = .ok (.getfield 54, 3) := by decide +kernel
theorem d_M_boxOf_256 : decode m_M_boxOf.2.1 256 = .ok (.iload 4, 2) := by decide +kernel
theorem d_M_boxOf_258 : decode m_M_boxOf.2.1 258 = .ok (.laload, 1) := by decide +kernel
theorem d_M_boxOf_259 : decode m_M_boxOf.2.1 259 = .ok (.invokevirtual 234, 3) := by decide +kernel
theorem d_M_boxOf_262 : decode m_M_boxOf.2.1 262 = .ok (.return_, 1) := by decide +kernel
theorem b_M_boxOf_0 {E : EV} {d : Nat} {Q : Option AV → St → Prop} {σ : St} (x1 x2 x3 : Int) (hF : Fix σ) (h : (0 ≤ x1 ∧ x1 < 24) ∧ (rI x2) ∧ ((x2 = 0 → (0 ≤ (σ.1 61 x1) ∧ (σ.1 61 x1) < 12) ∧ (0 ≤ (σ.1 61 x1) ∧ (σ.1 61 x1) < 12) ∧ (WMv E m_M_tells d [aP 42, aL (σ.1 57 (σ.1 61 x1)), aL (σ.1 58 (σ.1 61 x1))] σ (fun σ5 => Fix σ5 ∧ (0 ≤ x1 ∧ x1 < 24) ∧ (rI (σ5.1 62 x1)) ∧ (0 ≤ (σ.1 61 x1) ∧ (σ.1 61 x1) < 12) ∧ (0 ≤ (σ.1 61 x1) ∧ (σ.1 61 x1) < 12) ∧ (WMv E m_M_plus d [aP 42, aL ((σ5.1 62 x1) * (σ5.1 55 (σ.1 61 x1))), aL (2 * (σ5.1 56 (σ.1 61 x1)))] σ5 (fun σ10 => Fix σ10 ∧ (rI x3) ∧ ((¬ x3 = 0 → (0 ≤ x1 ∧ x1 < 24) ∧ (rI (σ10.1 52 x1)) ∧ (0 ≤ (σ.1 61 x1) ∧ (σ.1 61 x1) < 12) ∧ (0 ≤ (σ.1 61 x1) ∧ (σ.1 61 x1) < 12) ∧ (WMv E m_M_plus d [aP 42, aL ((σ10.1 52 x1) * (σ10.1 55 (σ.1 61 x1))), aL (σ10.1 56 (σ.1 61 x1))] σ10 (fun σ16 => Fix σ16 ∧ (rI (σ16.1 47 0)) ∧ (WMv E m_M_plus d [aP 42, aL (σ16.1 47 0), aL 1] (wr σ16 42 16 (-(σ16.1 42 16))) (fun σ18 => Q none σ18))))) ∧ (x3 = 0 → Q none σ10))))))) ∧ (x2 = 1 → (0 ≤ (σ.1 61 x1) ∧ (σ.1 61 x1) < 12) ∧ (0 ≤ (σ.1 61 x1) ∧ (σ.1 61 x1) < 12) ∧ (WMv E m_M_tells d [aP 42, aL (σ.1 59 (σ.1 61 x1)), aL (σ.1 60 (σ.1 61 x1))] σ (fun σ21 => Fix σ21 ∧ (0 ≤ x1 ∧ x1 < 24) ∧ (rI (σ21.1 63 x1)) ∧ (0 ≤ (σ.1 61 x1) ∧ (σ.1 61 x1) < 12) ∧ (0 ≤ (σ.1 61 x1) ∧ (σ.1 61 x1) < 12) ∧ (WMv E m_M_plus d [aP 42, aL ((σ21.1 63 x1) * (σ21.1 55 (σ.1 61 x1))), aL (2 * (σ21.1 56 (σ.1 61 x1)))] σ21 (fun σ26 => Q none σ26))))) ∧ (x2 = 2 → (0 ≤ x1 ∧ x1 < 24) ∧ (rI (σ.1 52 x1)) ∧ (0 ≤ (σ.1 61 x1) ∧ (σ.1 61 x1) < 12) ∧ (0 ≤ (σ.1 61 x1) ∧ (σ.1 61 x1) < 12) ∧ (WMv E m_M_tells d [aP 42, aL ((σ.1 52 x1) * (σ.1 55 (σ.1 61 x1))), aL (σ.1 56 (σ.1 61 x1))] σ (fun σ31 => Q none σ31))) ∧ (x2 = 3 → (0 ≤ x1 ∧ x1 < 24) ∧ (rI (σ.1 53 x1)) ∧ (0 ≤ (σ.1 61 x1) ∧ (σ.1 61 x1) < 12) ∧ (0 ≤ (σ.1 61 x1) ∧ (σ.1 61 x1) < 12) ∧ (WMv E m_M_tells d [aP 42, aL ((σ.1 53 x1) * (σ.1 55 (σ.1 61 x1))), aL (σ.1 56 (σ.1 61 x1))] σ (fun σ36 => Q none σ36))) ∧ (¬ (0 ≤ x2 ∧ x2 ≤ 3) → (0 ≤ (σ.1 61 x1) ∧ (σ.1 61 x1) < 12) ∧ (0 ≤ (σ.1 61 x1) ∧ (σ.1 61 x1) < 12) ∧ (WMv E m_M_tells d [aP 42, aL (σ.1 55 (σ.1 61 x1)), aL (σ.1 56 (σ.1 61 x1))] σ (fun σ39 => Q none σ39))))) : WP E m_M_boxOf (d + 1) 0 [(0, aP 42), (1, aI x1), (2, aI x2), (3, aI x3)] [] σ Q := by
  refine s_aload_n 0 d_M_boxOf_0 rfl rfl ?_
  refine s_getF (v := 61) d_M_boxOf_1 fl_M_69 rfl (sf_42 hF) (ff_46 hF) ?_
  refine s_iload_n 1 d_M_boxOf_4 rfl rfl ?_
  obtain ⟨g1, h⟩ := h
  refine s_ialoadv (v := σ.1 61 x1) d_M_boxOf_5 ⟨_, sf_61 hF, g1.1, g1.2, by have := g1.2; omega⟩ rfl ?_
  refine s_istore d_M_boxOf_6 (by decide) rfl ?_
  refine s_iload_n 3 d_M_boxOf_8 rfl rfl ?_
  obtain ⟨g2, h⟩ := h
  by_cases c0 : x2 = 0
  · have h := h.1 c0
    refine s_tableIn d_M_boxOf_9 g2 (by rw [c0]; decide) (by rw [c0]; rfl) (tgt := 40) rfl ?_
    refine s_aload_n 1 d_M_boxOf_40 rfl rfl ?_
    refine s_aload_n 1 d_M_boxOf_41 rfl rfl ?_
    refine s_getF (v := 57) d_M_boxOf_42 fl_M_57 rfl (sf_42 hF) (ff_42 hF) ?_
    refine s_iload 0 d_M_boxOf_45 rfl ?_
    obtain ⟨g3, h⟩ := h
    refine s_laloadv (v := σ.1 57 (σ.1 61 x1)) d_M_boxOf_47 ⟨_, sf_57 hF, g3.1, g3.2, by have := g3.2; omega⟩ rfl ?_
    refine s_aload_n 1 d_M_boxOf_48 rfl rfl ?_
    refine s_getF (v := 58) d_M_boxOf_49 fl_M_60 rfl (sf_42 hF) (ff_43 hF) ?_
    refine s_iload 0 d_M_boxOf_52 rfl ?_
    obtain ⟨g4, h⟩ := h
    refine s_laloadv (v := σ.1 58 (σ.1 61 x1)) d_M_boxOf_54 ⟨_, sf_58 hF, g4.1, g4.2, by have := g4.2; omega⟩ rfl ?_
    refine s_callV (as := [aL (σ.1 57 (σ.1 61 x1)), aL (σ.1 58 (σ.1 61 x1))]) (ci := 10) d_M_boxOf_55 ok_M_tells lk_M_234 io_M_tells so_M_tells (by decide) rfl rfl rfl (Nat.le_of_ble_eq_true rfl) rfl (sf_42 hF) (WM.mono h ?_)
    rintro _ σ5 ⟨rfl, hp, h⟩
    obtain ⟨hF5, h⟩ := h
    show WP E m_M_boxOf (d + 1) 58 [(4, aI (σ.1 61 x1)), (0, aP 42), (1, aI x1), (2, aI x2), (3, aI x3)] [] σ5 Q
    refine s_aload_n 1 d_M_boxOf_58 rfl rfl ?_
    refine s_aload_n 1 d_M_boxOf_59 rfl rfl ?_
    refine s_getF (v := 62) d_M_boxOf_60 fl_M_72 rfl (sf_42 hF5) (ff_47 hF5) ?_
    refine s_iload_n 2 d_M_boxOf_63 rfl rfl ?_
    obtain ⟨g6, h⟩ := h
    refine s_ialoadv (v := σ5.1 62 x1) d_M_boxOf_64 ⟨_, sf_62 hF5, g6.1, g6.2, by have := g6.2; omega⟩ rfl ?_
    obtain ⟨g7, h⟩ := h
    refine s_i2l d_M_boxOf_65 g7 ?_
    refine s_aload_n 1 d_M_boxOf_66 rfl rfl ?_
    refine s_getF (v := 55) d_M_boxOf_67 fl_M_50 rfl (sf_42 hF5) (ff_40 hF5) ?_
    refine s_iload 0 d_M_boxOf_70 rfl ?_
    obtain ⟨g8, h⟩ := h
    refine s_laloadv (v := σ5.1 55 (σ.1 61 x1)) d_M_boxOf_72 ⟨_, sf_55 hF5, g8.1, g8.2, by have := g8.2; omega⟩ rfl ?_
    refine s_lmul d_M_boxOf_73 ?_
    refine s_ldc2 (v := 2) d_M_boxOf_74 ll_M_241 (by decide) ?_
    refine s_aload_n 1 d_M_boxOf_77 rfl rfl ?_
    refine s_getF (v := 56) d_M_boxOf_78 fl_M_54 rfl (sf_42 hF5) (ff_41 hF5) ?_
    refine s_iload 0 d_M_boxOf_81 rfl ?_
    obtain ⟨g9, h⟩ := h
    refine s_laloadv (v := σ5.1 56 (σ.1 61 x1)) d_M_boxOf_83 ⟨_, sf_56 hF5, g9.1, g9.2, by have := g9.2; omega⟩ rfl ?_
    refine s_lmul d_M_boxOf_84 ?_
    refine s_callV (as := [aL ((σ5.1 62 x1) * (σ5.1 55 (σ.1 61 x1))), aL (2 * (σ5.1 56 (σ.1 61 x1)))]) (ci := 10) d_M_boxOf_85 ok_M_plus lk_M_243 io_M_plus so_M_plus (by decide) rfl rfl rfl (Nat.le_of_ble_eq_true rfl) rfl (sf_42 hF5) (WM.mono h ?_)
    rintro _ σ10 ⟨rfl, hp, h⟩
    obtain ⟨hF10, h⟩ := h
    show WP E m_M_boxOf (d + 1) 88 [(4, aI (σ.1 61 x1)), (0, aP 42), (1, aI x1), (2, aI x2), (3, aI x3)] [] σ10 Q
    refine s_iload_n 4 d_M_boxOf_88 rfl rfl ?_
    obtain ⟨g11, h⟩ := h
    refine s_if_ne d_M_boxOf_89 rfl g11 (fun c => ?_) (fun c => ?_)
    · have h := h.1 c
      refine s_aload_n 1 d_M_boxOf_93 rfl rfl ?_
      refine s_aload_n 1 d_M_boxOf_94 rfl rfl ?_
      refine s_getF (v := 52) d_M_boxOf_95 fl_M_41 rfl (sf_42 hF10) (ff_37 hF10) ?_
      refine s_iload_n 2 d_M_boxOf_98 rfl rfl ?_
      obtain ⟨g12, h⟩ := h
      refine s_ialoadv (v := σ10.1 52 x1) d_M_boxOf_99 ⟨_, sf_52 hF10, g12.1, g12.2, by have := g12.2; omega⟩ rfl ?_
      obtain ⟨g13, h⟩ := h
      refine s_i2l d_M_boxOf_100 g13 ?_
      refine s_aload_n 1 d_M_boxOf_101 rfl rfl ?_
      refine s_getF (v := 55) d_M_boxOf_102 fl_M_50 rfl (sf_42 hF10) (ff_40 hF10) ?_
      refine s_iload 0 d_M_boxOf_105 rfl ?_
      obtain ⟨g14, h⟩ := h
      refine s_laloadv (v := σ10.1 55 (σ.1 61 x1)) d_M_boxOf_107 ⟨_, sf_55 hF10, g14.1, g14.2, by have := g14.2; omega⟩ rfl ?_
      refine s_lmul d_M_boxOf_108 ?_
      refine s_aload_n 1 d_M_boxOf_109 rfl rfl ?_
      refine s_getF (v := 56) d_M_boxOf_110 fl_M_54 rfl (sf_42 hF10) (ff_41 hF10) ?_
      refine s_iload 0 d_M_boxOf_113 rfl ?_
      obtain ⟨g15, h⟩ := h
      refine s_laloadv (v := σ10.1 56 (σ.1 61 x1)) d_M_boxOf_115 ⟨_, sf_56 hF10, g15.1, g15.2, by have := g15.2; omega⟩ rfl ?_
      refine s_callV (as := [aL ((σ10.1 52 x1) * (σ10.1 55 (σ.1 61 x1))), aL (σ10.1 56 (σ.1 61 x1))]) (ci := 10) d_M_boxOf_116 ok_M_plus lk_M_243 io_M_plus so_M_plus (by decide) rfl rfl rfl (Nat.le_of_ble_eq_true rfl) rfl (sf_42 hF10) (WM.mono h ?_)
      rintro _ σ16 ⟨rfl, hp, h⟩
      obtain ⟨hF16, h⟩ := h
      show WP E m_M_boxOf (d + 1) 119 [(4, aI (σ.1 61 x1)), (0, aP 42), (1, aI x1), (2, aI x2), (3, aI x3)] [] σ16 Q
      refine s_aload_n 1 d_M_boxOf_119 rfl rfl ?_
      refine s_aload_n 1 d_M_boxOf_120 rfl rfl ?_
      refine s_getF (v := σ16.1 42 16) d_M_boxOf_121 fl_M_227 rfl (sf_42 hF16) rfl ?_
      refine s_lneg d_M_boxOf_124 ?_
      refine s_putf 16 rfl d_M_boxOf_125 fl_M_227 (fun C T h => by cases h; exact Or.inl rfl) rfl (Or.inr (Or.inl rfl)) (fun h => nomatch h) (sf_42 hF16) ?_
      refine s_aload_n 1 d_M_boxOf_128 rfl rfl ?_
      refine s_aload_n 1 d_M_boxOf_129 rfl rfl ?_
      refine s_getF (v := 47) d_M_boxOf_130 fl_M_26 rfl (sf_42 (hF16.wf (a := 42) (k := 16) (by decide))) (ff_32 (hF16.wf (a := 42) (k := 16) (by decide))) ?_
      refine s_iconst d_M_boxOf_133 ?_
      refine s_ialoadv (v := σ16.1 47 0) d_M_boxOf_134 ⟨_, sf_47 (hF16.wf (a := 42) (k := 16) (by decide)), by decide, by decide, by decide⟩ rfl ?_
      obtain ⟨g17, h⟩ := h
      refine s_i2l d_M_boxOf_135 g17 ?_
      refine s_lconst (v := 1) d_M_boxOf_136 rfl ?_
      refine s_callV (as := [aL (σ16.1 47 0), aL 1]) (ci := 10) d_M_boxOf_137 ok_M_plus lk_M_243 io_M_plus so_M_plus (by decide) rfl rfl rfl (Nat.le_of_ble_eq_true rfl) rfl (sf_42 (hF16.wf (a := 42) (k := 16) (by decide))) (WM.mono h ?_)
      rintro _ σ18 ⟨rfl, hp, h⟩
      show WP E m_M_boxOf (d + 1) 140 [(4, aI (σ.1 61 x1)), (0, aP 42), (1, aI x1), (2, aI x2), (3, aI x3)] [] σ18 Q
      exact s_return d_M_boxOf_140 rfl h
    · have h := h.2 c
      exact s_return d_M_boxOf_92 rfl h
  by_cases c1 : x2 = 1
  · have h := h.2.1 c1
    refine s_tableIn d_M_boxOf_9 g2 (by rw [c1]; decide) (by rw [c1]; rfl) (tgt := 141) rfl ?_
    refine s_aload_n 1 d_M_boxOf_141 rfl rfl ?_
    refine s_aload_n 1 d_M_boxOf_142 rfl rfl ?_
    refine s_getF (v := 59) d_M_boxOf_143 fl_M_63 rfl (sf_42 hF) (ff_44 hF) ?_
    refine s_iload 0 d_M_boxOf_146 rfl ?_
    obtain ⟨g19, h⟩ := h
    refine s_laloadv (v := σ.1 59 (σ.1 61 x1)) d_M_boxOf_148 ⟨_, sf_59 hF, g19.1, g19.2, by have := g19.2; omega⟩ rfl ?_
    refine s_aload_n 1 d_M_boxOf_149 rfl rfl ?_
    refine s_getF (v := 60) d_M_boxOf_150 fl_M_66 rfl (sf_42 hF) (ff_45 hF) ?_
    refine s_iload 0 d_M_boxOf_153 rfl ?_
    obtain ⟨g20, h⟩ := h
    refine s_laloadv (v := σ.1 60 (σ.1 61 x1)) d_M_boxOf_155 ⟨_, sf_60 hF, g20.1, g20.2, by have := g20.2; omega⟩ rfl ?_
    refine s_callV (as := [aL (σ.1 59 (σ.1 61 x1)), aL (σ.1 60 (σ.1 61 x1))]) (ci := 10) d_M_boxOf_156 ok_M_tells lk_M_234 io_M_tells so_M_tells (by decide) rfl rfl rfl (Nat.le_of_ble_eq_true rfl) rfl (sf_42 hF) (WM.mono h ?_)
    rintro _ σ21 ⟨rfl, hp, h⟩
    obtain ⟨hF21, h⟩ := h
    show WP E m_M_boxOf (d + 1) 159 [(4, aI (σ.1 61 x1)), (0, aP 42), (1, aI x1), (2, aI x2), (3, aI x3)] [] σ21 Q
    refine s_aload_n 1 d_M_boxOf_159 rfl rfl ?_
    refine s_aload_n 1 d_M_boxOf_160 rfl rfl ?_
    refine s_getF (v := 63) d_M_boxOf_161 fl_M_75 rfl (sf_42 hF21) (ff_48 hF21) ?_
    refine s_iload_n 2 d_M_boxOf_164 rfl rfl ?_
    obtain ⟨g22, h⟩ := h
    refine s_ialoadv (v := σ21.1 63 x1) d_M_boxOf_165 ⟨_, sf_63 hF21, g22.1, g22.2, by have := g22.2; omega⟩ rfl ?_
    obtain ⟨g23, h⟩ := h
    refine s_i2l d_M_boxOf_166 g23 ?_
    refine s_aload_n 1 d_M_boxOf_167 rfl rfl ?_
    refine s_getF (v := 55) d_M_boxOf_168 fl_M_50 rfl (sf_42 hF21) (ff_40 hF21) ?_
    refine s_iload 0 d_M_boxOf_171 rfl ?_
    obtain ⟨g24, h⟩ := h
    refine s_laloadv (v := σ21.1 55 (σ.1 61 x1)) d_M_boxOf_173 ⟨_, sf_55 hF21, g24.1, g24.2, by have := g24.2; omega⟩ rfl ?_
    refine s_lmul d_M_boxOf_174 ?_
    refine s_ldc2 (v := 2) d_M_boxOf_175 ll_M_241 (by decide) ?_
    refine s_aload_n 1 d_M_boxOf_178 rfl rfl ?_
    refine s_getF (v := 56) d_M_boxOf_179 fl_M_54 rfl (sf_42 hF21) (ff_41 hF21) ?_
    refine s_iload 0 d_M_boxOf_182 rfl ?_
    obtain ⟨g25, h⟩ := h
    refine s_laloadv (v := σ21.1 56 (σ.1 61 x1)) d_M_boxOf_184 ⟨_, sf_56 hF21, g25.1, g25.2, by have := g25.2; omega⟩ rfl ?_
    refine s_lmul d_M_boxOf_185 ?_
    refine s_callV (as := [aL ((σ21.1 63 x1) * (σ21.1 55 (σ.1 61 x1))), aL (2 * (σ21.1 56 (σ.1 61 x1)))]) (ci := 10) d_M_boxOf_186 ok_M_plus lk_M_243 io_M_plus so_M_plus (by decide) rfl rfl rfl (Nat.le_of_ble_eq_true rfl) rfl (sf_42 hF21) (WM.mono h ?_)
    rintro _ σ26 ⟨rfl, hp, h⟩
    show WP E m_M_boxOf (d + 1) 189 [(4, aI (σ.1 61 x1)), (0, aP 42), (1, aI x1), (2, aI x2), (3, aI x3)] [] σ26 Q
    exact s_return d_M_boxOf_189 rfl h
  by_cases c2 : x2 = 2
  · have h := h.2.2.1 c2
    refine s_tableIn d_M_boxOf_9 g2 (by rw [c2]; decide) (by rw [c2]; rfl) (tgt := 190) rfl ?_
    refine s_aload_n 1 d_M_boxOf_190 rfl rfl ?_
    refine s_aload_n 1 d_M_boxOf_191 rfl rfl ?_
    refine s_getF (v := 52) d_M_boxOf_192 fl_M_41 rfl (sf_42 hF) (ff_37 hF) ?_
    refine s_iload_n 2 d_M_boxOf_195 rfl rfl ?_
    obtain ⟨g27, h⟩ := h
    refine s_ialoadv (v := σ.1 52 x1) d_M_boxOf_196 ⟨_, sf_52 hF, g27.1, g27.2, by have := g27.2; omega⟩ rfl ?_
    obtain ⟨g28, h⟩ := h
    refine s_i2l d_M_boxOf_197 g28 ?_
    refine s_aload_n 1 d_M_boxOf_198 rfl rfl ?_
    refine s_getF (v := 55) d_M_boxOf_199 fl_M_50 rfl (sf_42 hF) (ff_40 hF) ?_
    refine s_iload 0 d_M_boxOf_202 rfl ?_
    obtain ⟨g29, h⟩ := h
    refine s_laloadv (v := σ.1 55 (σ.1 61 x1)) d_M_boxOf_204 ⟨_, sf_55 hF, g29.1, g29.2, by have := g29.2; omega⟩ rfl ?_
    refine s_lmul d_M_boxOf_205 ?_
    refine s_aload_n 1 d_M_boxOf_206 rfl rfl ?_
    refine s_getF (v := 56) d_M_boxOf_207 fl_M_54 rfl (sf_42 hF) (ff_41 hF) ?_
    refine s_iload 0 d_M_boxOf_210 rfl ?_
    obtain ⟨g30, h⟩ := h
    refine s_laloadv (v := σ.1 56 (σ.1 61 x1)) d_M_boxOf_212 ⟨_, sf_56 hF, g30.1, g30.2, by have := g30.2; omega⟩ rfl ?_
    refine s_callV (as := [aL ((σ.1 52 x1) * (σ.1 55 (σ.1 61 x1))), aL (σ.1 56 (σ.1 61 x1))]) (ci := 10) d_M_boxOf_213 ok_M_tells lk_M_234 io_M_tells so_M_tells (by decide) rfl rfl rfl (Nat.le_of_ble_eq_true rfl) rfl (sf_42 hF) (WM.mono h ?_)
    rintro _ σ31 ⟨rfl, hp, h⟩
    show WP E m_M_boxOf (d + 1) 216 [(4, aI (σ.1 61 x1)), (0, aP 42), (1, aI x1), (2, aI x2), (3, aI x3)] [] σ31 Q
    exact s_return d_M_boxOf_216 rfl h
  by_cases c3 : x2 = 3
  · have h := h.2.2.2.1 c3
    refine s_tableIn d_M_boxOf_9 g2 (by rw [c3]; decide) (by rw [c3]; rfl) (tgt := 217) rfl ?_
    refine s_aload_n 1 d_M_boxOf_217 rfl rfl ?_
    refine s_aload_n 1 d_M_boxOf_218 rfl rfl ?_
    refine s_getF (v := 53) d_M_boxOf_219 fl_M_44 rfl (sf_42 hF) (ff_38 hF) ?_
    refine s_iload_n 2 d_M_boxOf_222 rfl rfl ?_
    obtain ⟨g32, h⟩ := h
    refine s_ialoadv (v := σ.1 53 x1) d_M_boxOf_223 ⟨_, sf_53 hF, g32.1, g32.2, by have := g32.2; omega⟩ rfl ?_
    obtain ⟨g33, h⟩ := h
    refine s_i2l d_M_boxOf_224 g33 ?_
    refine s_aload_n 1 d_M_boxOf_225 rfl rfl ?_
    refine s_getF (v := 55) d_M_boxOf_226 fl_M_50 rfl (sf_42 hF) (ff_40 hF) ?_
    refine s_iload 0 d_M_boxOf_229 rfl ?_
    obtain ⟨g34, h⟩ := h
    refine s_laloadv (v := σ.1 55 (σ.1 61 x1)) d_M_boxOf_231 ⟨_, sf_55 hF, g34.1, g34.2, by have := g34.2; omega⟩ rfl ?_
    refine s_lmul d_M_boxOf_232 ?_
    refine s_aload_n 1 d_M_boxOf_233 rfl rfl ?_
    refine s_getF (v := 56) d_M_boxOf_234 fl_M_54 rfl (sf_42 hF) (ff_41 hF) ?_
    refine s_iload 0 d_M_boxOf_237 rfl ?_
    obtain ⟨g35, h⟩ := h
    refine s_laloadv (v := σ.1 56 (σ.1 61 x1)) d_M_boxOf_239 ⟨_, sf_56 hF, g35.1, g35.2, by have := g35.2; omega⟩ rfl ?_
    refine s_callV (as := [aL ((σ.1 53 x1) * (σ.1 55 (σ.1 61 x1))), aL (σ.1 56 (σ.1 61 x1))]) (ci := 10) d_M_boxOf_240 ok_M_tells lk_M_234 io_M_tells so_M_tells (by decide) rfl rfl rfl (Nat.le_of_ble_eq_true rfl) rfl (sf_42 hF) (WM.mono h ?_)
    rintro _ σ36 ⟨rfl, hp, h⟩
    show WP E m_M_boxOf (d + 1) 243 [(4, aI (σ.1 61 x1)), (0, aP 42), (1, aI x1), (2, aI x2), (3, aI x3)] [] σ36 Q
    exact s_return d_M_boxOf_243 rfl h
  have c : ¬ (0 ≤ x2 ∧ x2 ≤ 3) := by omega
  have h := h.2.2.2.2 c
  refine s_tableOut d_M_boxOf_9 g2 c (tgt := 244) rfl ?_
  refine s_aload_n 1 d_M_boxOf_244 rfl rfl ?_
  refine s_aload_n 1 d_M_boxOf_245 rfl rfl ?_
  refine s_getF (v := 55) d_M_boxOf_246 fl_M_50 rfl (sf_42 hF) (ff_40 hF) ?_
  refine s_iload 0 d_M_boxOf_249 rfl ?_
  obtain ⟨g37, h⟩ := h
  refine s_laloadv (v := σ.1 55 (σ.1 61 x1)) d_M_boxOf_251 ⟨_, sf_55 hF, g37.1, g37.2, by have := g37.2; omega⟩ rfl ?_
  refine s_aload_n 1 d_M_boxOf_252 rfl rfl ?_
  refine s_getF (v := 56) d_M_boxOf_253 fl_M_54 rfl (sf_42 hF) (ff_41 hF) ?_
  refine s_iload 0 d_M_boxOf_256 rfl ?_
  obtain ⟨g38, h⟩ := h
  refine s_laloadv (v := σ.1 56 (σ.1 61 x1)) d_M_boxOf_258 ⟨_, sf_56 hF, g38.1, g38.2, by have := g38.2; omega⟩ rfl ?_
  refine s_callV (as := [aL (σ.1 55 (σ.1 61 x1)), aL (σ.1 56 (σ.1 61 x1))]) (ci := 10) d_M_boxOf_259 ok_M_tells lk_M_234 io_M_tells so_M_tells (by decide) rfl rfl rfl (Nat.le_of_ble_eq_true rfl) rfl (sf_42 hF) (WM.mono h ?_)
  rintro _ σ39 ⟨rfl, hp, h⟩
  show WP E m_M_boxOf (d + 1) 262 [(4, aI (σ.1 61 x1)), (0, aP 42), (1, aI x1), (2, aI x2), (3, aI x3)] [] σ39 Q
  exact s_return d_M_boxOf_262 rfl h
theorem e_M_boxOf {E : EV} {d : Nat} {Q : Option AV → St → Prop} {σ : St} (x1 x2 x3 : Int) (hF : Fix σ) (h : (0 ≤ x1 ∧ x1 < 24) ∧ (rI x2) ∧ ((x2 = 0 → (0 ≤ (σ.1 61 x1) ∧ (σ.1 61 x1) < 12) ∧ (0 ≤ (σ.1 61 x1) ∧ (σ.1 61 x1) < 12) ∧ (WMv E m_M_tells d [aP 42, aL (σ.1 57 (σ.1 61 x1)), aL (σ.1 58 (σ.1 61 x1))] σ (fun σ5 => Fix σ5 ∧ (0 ≤ x1 ∧ x1 < 24) ∧ (rI (σ5.1 62 x1)) ∧ (0 ≤ (σ.1 61 x1) ∧ (σ.1 61 x1) < 12) ∧ (0 ≤ (σ.1 61 x1) ∧ (σ.1 61 x1) < 12) ∧ (WMv E m_M_plus d [aP 42, aL ((σ5.1 62 x1) * (σ5.1 55 (σ.1 61 x1))), aL (2 * (σ5.1 56 (σ.1 61 x1)))] σ5 (fun σ10 => Fix σ10 ∧ (rI x3) ∧ ((¬ x3 = 0 → (0 ≤ x1 ∧ x1 < 24) ∧ (rI (σ10.1 52 x1)) ∧ (0 ≤ (σ.1 61 x1) ∧ (σ.1 61 x1) < 12) ∧ (0 ≤ (σ.1 61 x1) ∧ (σ.1 61 x1) < 12) ∧ (WMv E m_M_plus d [aP 42, aL ((σ10.1 52 x1) * (σ10.1 55 (σ.1 61 x1))), aL (σ10.1 56 (σ.1 61 x1))] σ10 (fun σ16 => Fix σ16 ∧ (rI (σ16.1 47 0)) ∧ (WMv E m_M_plus d [aP 42, aL (σ16.1 47 0), aL 1] (wr σ16 42 16 (-(σ16.1 42 16))) (fun σ18 => Q none σ18))))) ∧ (x3 = 0 → Q none σ10))))))) ∧ (x2 = 1 → (0 ≤ (σ.1 61 x1) ∧ (σ.1 61 x1) < 12) ∧ (0 ≤ (σ.1 61 x1) ∧ (σ.1 61 x1) < 12) ∧ (WMv E m_M_tells d [aP 42, aL (σ.1 59 (σ.1 61 x1)), aL (σ.1 60 (σ.1 61 x1))] σ (fun σ21 => Fix σ21 ∧ (0 ≤ x1 ∧ x1 < 24) ∧ (rI (σ21.1 63 x1)) ∧ (0 ≤ (σ.1 61 x1) ∧ (σ.1 61 x1) < 12) ∧ (0 ≤ (σ.1 61 x1) ∧ (σ.1 61 x1) < 12) ∧ (WMv E m_M_plus d [aP 42, aL ((σ21.1 63 x1) * (σ21.1 55 (σ.1 61 x1))), aL (2 * (σ21.1 56 (σ.1 61 x1)))] σ21 (fun σ26 => Q none σ26))))) ∧ (x2 = 2 → (0 ≤ x1 ∧ x1 < 24) ∧ (rI (σ.1 52 x1)) ∧ (0 ≤ (σ.1 61 x1) ∧ (σ.1 61 x1) < 12) ∧ (0 ≤ (σ.1 61 x1) ∧ (σ.1 61 x1) < 12) ∧ (WMv E m_M_tells d [aP 42, aL ((σ.1 52 x1) * (σ.1 55 (σ.1 61 x1))), aL (σ.1 56 (σ.1 61 x1))] σ (fun σ31 => Q none σ31))) ∧ (x2 = 3 → (0 ≤ x1 ∧ x1 < 24) ∧ (rI (σ.1 53 x1)) ∧ (0 ≤ (σ.1 61 x1) ∧ (σ.1 61 x1) < 12) ∧ (0 ≤ (σ.1 61 x1) ∧ (σ.1 61 x1) < 12) ∧ (WMv E m_M_tells d [aP 42, aL ((σ.1 53 x1) * (σ.1 55 (σ.1 61 x1))), aL (σ.1 56 (σ.1 61 x1))] σ (fun σ36 => Q none σ36))) ∧ (¬ (0 ≤ x2 ∧ x2 ≤ 3) → (0 ≤ (σ.1 61 x1) ∧ (σ.1 61 x1) < 12) ∧ (0 ≤ (σ.1 61 x1) ∧ (σ.1 61 x1) < 12) ∧ (WMv E m_M_tells d [aP 42, aL (σ.1 55 (σ.1 61 x1)), aL (σ.1 56 (σ.1 61 x1))] σ (fun σ39 => Q none σ39))))) : WM E m_M_boxOf (d + 1) [aP 42, aI x1, aI x2, aI x3] σ Q := s_meth (by decide) (Nat.le_of_ble_eq_true rfl) rfl (b_M_boxOf_0 x1 x2 x3 hF h)
theorem d_M_term_0 : decode m_M_term.2.1 0 = .ok (.iload_n 1, 1) := by decide +kernel
theorem d_M_term_1 : decode m_M_term.2.1 1 = .ok (.ifCond .ne 10, 3) := by decide +kernel
theorem d_M_term_4 : decode m_M_term.2.1 4 = .ok (.aload_n 0, 1) := by decide +kernel
theorem d_M_term_5 : decode m_M_term.2.1 5 = .ok (.getfield 227, 3) := by decide +kernel
theorem d_M_term_8 : decode m_M_term.2.1 8 = .ok (.goto 7, 3) := by decide +kernel
theorem d_M_term_11 : decode m_M_term.2.1 11 = .ok (.aload_n 0, 1) := by decide +kernel
theorem d_M_term_12 : decode m_M_term.2.1 12 = .ok (.getfield 231, 3) := by decide +kernel
theorem d_M_term_15 : decode m_M_term.2.1 15 = .ok (.lreturn, 1) := by decide +kernel
theorem b_M_term_0 {E : EV} {d : Nat} {Q : Option AV → St → Prop} {σ : St} (x1 : Int) (hF : Fix σ) (h : (rI x1) ∧ ((¬ x1 = 0 → Q (some (aL (σ.1 42 17))) σ) ∧ (x1 = 0 → Q (some (aL (σ.1 42 16))) σ))) : WP E m_M_term d 0 [(0, aP 42), (1, aI x1)] [] σ Q := by
  refine s_iload_n 1 d_M_term_0 rfl rfl ?_
  obtain ⟨g1, h⟩ := h
  refine s_if_ne d_M_term_1 rfl g1 (fun c => ?_) (fun c => ?_)
  · have h := h.1 c
    refine s_aload_n 0 d_M_term_11 rfl rfl ?_
    refine s_getF (v := σ.1 42 17) d_M_term_12 fl_M_231 rfl (sf_42 hF) rfl ?_
    exact s_lreturn d_M_term_15 rfl h
  · have h := h.2 c
    refine s_aload_n 0 d_M_term_4 rfl rfl ?_
    refine s_getF (v := σ.1 42 16) d_M_term_5 fl_M_227 rfl (sf_42 hF) rfl ?_
    refine s_goto d_M_term_8 rfl ?_
    exact s_lreturn d_M_term_15 rfl h
theorem e_M_term {E : EV} {d : Nat} {Q : Option AV → St → Prop} {σ : St} (x1 : Int) (hF : Fix σ) (h : (rI x1) ∧ ((¬ x1 = 0 → Q (some (aL (σ.1 42 17))) σ) ∧ (x1 = 0 → Q (some (aL (σ.1 42 16))) σ))) : WM E m_M_term d [aP 42, aI x1] σ Q := s_meth (by decide) (Nat.le_of_ble_eq_true rfl) rfl (b_M_term_0 x1 hF h)
