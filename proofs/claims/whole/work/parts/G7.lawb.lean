/-! THE LAW: its stretches -/
def m_Law : MI := (x, code, maxLocals, ret)
theorem d_Law_0 : decode m_Law.2.1 0 = .ok (.new 7, 3) := by decide +kernel
theorem d_Law_3 : decode m_Law.2.1 3 = .ok (.dup, 1) := by decide +kernel
theorem d_Law_4 : decode m_Law.2.1 4 = .ok (.invokespecial 9, 3) := by decide +kernel
theorem d_Law_7 : decode m_Law.2.1 7 = .ok (.astore_n 1, 1) := by decide +kernel
theorem d_Law_8 : decode m_Law.2.1 8 = .ok (.new 10, 3) := by decide +kernel
theorem d_Law_11 : decode m_Law.2.1 11 = .ok (.dup, 1) := by decide +kernel
theorem d_Law_12 : decode m_Law.2.1 12 = .ok (.invokespecial 12, 3) := by decide +kernel
theorem d_Law_15 : decode m_Law.2.1 15 = .ok (.astore_n 2, 1) := by decide +kernel
theorem d_Law_16 : decode m_Law.2.1 16 = .ok (.iconst 0, 1) := by decide +kernel
theorem d_Law_17 : decode m_Law.2.1 17 = .ok (.istore_n 3, 1) := by decide +kernel
theorem d_Law_18 : decode m_Law.2.1 18 = .ok (.iload_n 3, 1) := by decide +kernel
theorem d_Law_19 : decode m_Law.2.1 19 = .ok (.aload_n 0, 1) := by decide +kernel
theorem d_Law_20 : decode m_Law.2.1 20 = .ok (.arraylength, 1) := by decide +kernel
theorem d_Law_21 : decode m_Law.2.1 21 = .ok (.bipush 6, 2) := by decide +kernel
theorem d_Law_23 : decode m_Law.2.1 23 = .ok (.isub, 1) := by decide +kernel
theorem d_Law_24 : decode m_Law.2.1 24 = .ok (.if_icmp .gt 1534, 3) := by decide +kernel
theorem d_Law_27 : decode m_Law.2.1 27 = .ok (.aload_n 0, 1) := by decide +kernel
theorem d_Law_28 : decode m_Law.2.1 28 = .ok (.iload_n 3, 1) := by decide +kernel
theorem d_Law_29 : decode m_Law.2.1 29 = .ok (.iaload, 1) := by decide +kernel
theorem d_Law_30 : decode m_Law.2.1 30 = .ok (.bipush 63, 2) := by decide +kernel
theorem d_Law_32 : decode m_Law.2.1 32 = .ok (.iand, 1) := by decide +kernel
theorem d_Law_33 : decode m_Law.2.1 33 = .ok (.tableswitch 1519 0 35 #[159, 222, 245, 258, 311, 344, 377, 410, 463, 506, 549, 592, 615, 648, 671, 694, 707, 740, 773, 816, 859, 902, 945, 1009, 1072, 1105, 1149, 1182, 1235, 1258, 1291, 1324, 1367, 1410, 1453, 1496], 159) := by decide +kernel
theorem d_Law_192 : decode m_Law.2.1 192 = .ok (.aload_n 1, 1) := by decide +kernel
theorem d_Law_193 : decode m_Law.2.1 193 = .ok (.aload_n 0, 1) := by decide +kernel
theorem d_Law_194 : decode m_Law.2.1 194 = .ok (.iload_n 3, 1) := by decide +kernel
theorem d_Law_195 : decode m_Law.2.1 195 = .ok (.iconst 1, 1) := by decide +kernel
theorem d_Law_196 : decode m_Law.2.1 196 = .ok (.iadd, 1) := by decide +kernel
theorem d_Law_197 : decode m_Law.2.1 197 = .ok (.iaload, 1) := by decide +kernel
theorem d_Law_198 : decode m_Law.2.1 198 = .ok (.aload_n 0, 1) := by decide +kernel
theorem d_Law_199 : decode m_Law.2.1 199 = .ok (.iload_n 3, 1) := by decide +kernel
theorem d_Law_200 : decode m_Law.2.1 200 = .ok (.iconst 2, 1) := by decide +kernel
theorem d_Law_201 : decode m_Law.2.1 201 = .ok (.iadd, 1) := by decide +kernel
theorem d_Law_202 : decode m_Law.2.1 202 = .ok (.iaload, 1) := by decide +kernel
theorem d_Law_203 : decode m_Law.2.1 203 = .ok (.aload_n 0, 1) := by decide +kernel
theorem d_Law_204 : decode m_Law.2.1 204 = .ok (.iload_n 3, 1) := by decide +kernel
theorem d_Law_205 : decode m_Law.2.1 205 = .ok (.iconst 3, 1) := by decide +kernel
theorem d_Law_206 : decode m_Law.2.1 206 = .ok (.iadd, 1) := by decide +kernel
theorem d_Law_207 : decode m_Law.2.1 207 = .ok (.iaload, 1) := by decide +kernel
theorem d_Law_208 : decode m_Law.2.1 208 = .ok (.aload_n 0, 1) := by decide +kernel
theorem d_Law_209 : decode m_Law.2.1 209 = .ok (.iload_n 3, 1) := by decide +kernel
theorem d_Law_210 : decode m_Law.2.1 210 = .ok (.iconst 4, 1) := by decide +kernel
theorem d_Law_211 : decode m_Law.2.1 211 = .ok (.iadd, 1) := by decide +kernel
theorem d_Law_212 : decode m_Law.2.1 212 = .ok (.iaload, 1) := by decide +kernel
theorem d_Law_213 : decode m_Law.2.1 213 = .ok (.aload_n 0, 1) := by decide +kernel
theorem d_Law_214 : decode m_Law.2.1 214 = .ok (.iload_n 3, 1) := by decide +kernel
theorem d_Law_215 : decode m_Law.2.1 215 = .ok (.iconst 5, 1) := by decide +kernel
theorem d_Law_216 : decode m_Law.2.1 216 = .ok (.iadd, 1) := by decide +kernel
theorem d_Law_217 : decode m_Law.2.1 217 = .ok (.iaload, 1) := by decide +kernel
theorem d_Law_218 : decode m_Law.2.1 218 = .ok (.invokevirtual 13, 3) := by decide +kernel
theorem d_Law_221 : decode m_Law.2.1 221 = .ok (.aload_n 2, 1) := by decide +kernel
theorem d_Law_222 : decode m_Law.2.1 222 = .ok (.aload_n 0, 1) := by decide +kernel
theorem d_Law_223 : decode m_Law.2.1 223 = .ok (.iload_n 3, 1) := by decide +kernel
theorem d_Law_224 : decode m_Law.2.1 224 = .ok (.iconst 1, 1) := by decide +kernel
theorem d_Law_225 : decode m_Law.2.1 225 = .ok (.iadd, 1) := by decide +kernel
theorem d_Law_226 : decode m_Law.2.1 226 = .ok (.iaload, 1) := by decide +kernel
theorem d_Law_227 : decode m_Law.2.1 227 = .ok (.aload_n 0, 1) := by decide +kernel
theorem d_Law_228 : decode m_Law.2.1 228 = .ok (.iload_n 3, 1) := by decide +kernel
theorem d_Law_229 : decode m_Law.2.1 229 = .ok (.iconst 2, 1) := by decide +kernel
theorem d_Law_230 : decode m_Law.2.1 230 = .ok (.iadd, 1) := by decide +kernel
theorem d_Law_231 : decode m_Law.2.1 231 = .ok (.iaload, 1) := by decide +kernel
theorem d_Law_232 : decode m_Law.2.1 232 = .ok (.aload_n 0, 1) := by decide +kernel
theorem d_Law_233 : decode m_Law.2.1 233 = .ok (.iload_n 3, 1) := by decide +kernel
theorem d_Law_234 : decode m_Law.2.1 234 = .ok (.iconst 3, 1) := by decide +kernel
theorem d_Law_235 : decode m_Law.2.1 235 = .ok (.iadd, 1) := by decide +kernel
theorem d_Law_236 : decode m_Law.2.1 236 = .ok (.iaload, 1) := by decide +kernel
theorem d_Law_237 : decode m_Law.2.1 237 = .ok (.aload_n 0, 1) := by decide +kernel
theorem d_Law_238 : decode m_Law.2.1 238 = .ok (.iload_n 3, 1) := by decide +kernel
theorem d_Law_239 : decode m_Law.2.1 239 = .ok (.iconst 4, 1) := by decide +kernel
theorem d_Law_240 : decode m_Law.2.1 240 = .ok (.iadd, 1) := by decide +kernel
theorem d_Law_241 : decode m_Law.2.1 241 = .ok (.iaload, 1) := by decide +kernel
theorem d_Law_242 : decode m_Law.2.1 242 = .ok (.aload_n 0, 1) := by decide +kernel
theorem d_Law_243 : decode m_Law.2.1 243 = .ok (.iload_n 3, 1) := by decide +kernel
theorem d_Law_244 : decode m_Law.2.1 244 = .ok (.iconst 5, 1) := by decide +kernel
theorem d_Law_245 : decode m_Law.2.1 245 = .ok (.iadd, 1) := by decide +kernel
theorem d_Law_246 : decode m_Law.2.1 246 = .ok (.iaload, 1) := by decide +kernel
theorem d_Law_247 : decode m_Law.2.1 247 = .ok (.invokevirtual 17, 3) := by decide +kernel
theorem d_Law_250 : decode m_Law.2.1 250 = .ok (.if_icmp .eq 1302, 3) := by decide +kernel
theorem d_Law_253 : decode m_Law.2.1 253 = .ok (.iconst 0, 1) := by decide +kernel
theorem d_Law_254 : decode m_Law.2.1 254 = .ok (.ireturn, 1) := by decide +kernel
theorem d_Law_255 : decode m_Law.2.1 255 = .ok (.aload_n 1, 1) := by decide +kernel
theorem d_Law_256 : decode m_Law.2.1 256 = .ok (.aload_n 0, 1) := by decide +kernel
theorem d_Law_257 : decode m_Law.2.1 257 = .ok (.iload_n 3, 1) := by decide +kernel
theorem d_Law_258 : decode m_Law.2.1 258 = .ok (.iconst 1, 1) := by decide +kernel
theorem d_Law_259 : decode m_Law.2.1 259 = .ok (.iadd, 1) := by decide +kernel
theorem d_Law_260 : decode m_Law.2.1 260 = .ok (.iaload, 1) := by decide +kernel
theorem d_Law_261 : decode m_Law.2.1 261 = .ok (.invokevirtual 18, 3) := by decide +kernel
theorem d_Law_264 : decode m_Law.2.1 264 = .ok (.aload_n 2, 1) := by decide +kernel
theorem d_Law_265 : decode m_Law.2.1 265 = .ok (.aload_n 0, 1) := by decide +kernel
theorem d_Law_266 : decode m_Law.2.1 266 = .ok (.iload_n 3, 1) := by decide +kernel
theorem d_Law_267 : decode m_Law.2.1 267 = .ok (.iconst 1, 1) := by decide +kernel
theorem d_Law_268 : decode m_Law.2.1 268 = .ok (.iadd, 1) := by decide +kernel
theorem d_Law_269 : decode m_Law.2.1 269 = .ok (.iaload, 1) := by decide +kernel
theorem d_Law_270 : decode m_Law.2.1 270 = .ok (.invokevirtual 22, 3) := by decide +kernel
theorem d_Law_273 : decode m_Law.2.1 273 = .ok (.if_icmp .eq 1279, 3) := by decide +kernel
theorem d_Law_276 : decode m_Law.2.1 276 = .ok (.iconst 0, 1) := by decide +kernel
theorem d_Law_277 : decode m_Law.2.1 277 = .ok (.ireturn, 1) := by decide +kernel
theorem d_Law_278 : decode m_Law.2.1 278 = .ok (.aload_n 1, 1) := by decide +kernel
theorem d_Law_279 : decode m_Law.2.1 279 = .ok (.invokevirtual 23, 3) := by decide +kernel
theorem d_Law_282 : decode m_Law.2.1 282 = .ok (.aload_n 2, 1) := by decide +kernel
theorem d_Law_283 : decode m_Law.2.1 283 = .ok (.invokevirtual 27, 3) := by decide +kernel
theorem d_Law_286 : decode m_Law.2.1 286 = .ok (.if_icmp .eq 1266, 3) := by decide +kernel
theorem d_Law_289 : decode m_Law.2.1 289 = .ok (.iconst 0, 1) := by decide +kernel
theorem d_Law_290 : decode m_Law.2.1 290 = .ok (.ireturn, 1) := by decide +kernel
theorem d_Law_291 : decode m_Law.2.1 291 = .ok (.aload_n 1, 1) := by decide +kernel
theorem d_Law_292 : decode m_Law.2.1 292 = .ok (.aload_n 0, 1) := by decide +kernel
theorem d_Law_293 : decode m_Law.2.1 293 = .ok (.iload_n 3, 1) := by decide +kernel
theorem d_Law_294 : decode m_Law.2.1 294 = .ok (.iconst 1, 1) := by decide +kernel
theorem d_Law_295 : decode m_Law.2.1 295 = .ok (.iadd, 1) := by decide +kernel
theorem d_Law_296 : decode m_Law.2.1 296 = .ok (.iaload, 1) := by decide +kernel
theorem d_Law_297 : decode m_Law.2.1 297 = .ok (.aload_n 0, 1) := by decide +kernel
theorem d_Law_298 : decode m_Law.2.1 298 = .ok (.iload_n 3, 1) := by decide +kernel
theorem d_Law_299 : decode m_Law.2.1 299 = .ok (.iconst 2, 1) := by decide +kernel
theorem d_Law_300 : decode m_Law.2.1 300 = .ok (.iadd, 1) := by decide +kernel
theorem d_Law_301 : decode m_Law.2.1 301 = .ok (.iaload, 1) := by decide +kernel
theorem d_Law_302 : decode m_Law.2.1 302 = .ok (.aload_n 0, 1) := by decide +kernel
theorem d_Law_303 : decode m_Law.2.1 303 = .ok (.iload_n 3, 1) := by decide +kernel
theorem d_Law_304 : decode m_Law.2.1 304 = .ok (.iconst 3, 1) := by decide +kernel
theorem d_Law_305 : decode m_Law.2.1 305 = .ok (.iadd, 1) := by decide +kernel
theorem d_Law_306 : decode m_Law.2.1 306 = .ok (.iaload, 1) := by decide +kernel
theorem d_Law_307 : decode m_Law.2.1 307 = .ok (.aload_n 0, 1) := by decide +kernel
theorem d_Law_308 : decode m_Law.2.1 308 = .ok (.iload_n 3, 1) := by decide +kernel
theorem d_Law_309 : decode m_Law.2.1 309 = .ok (.iconst 4, 1) := by decide +kernel
theorem d_Law_310 : decode m_Law.2.1 310 = .ok (.iadd, 1) := by decide +kernel
theorem d_Law_311 : decode m_Law.2.1 311 = .ok (.iaload, 1) := by decide +kernel
theorem d_Law_312 : decode m_Law.2.1 312 = .ok (.invokevirtual 28, 3) := by decide +kernel
theorem d_Law_315 : decode m_Law.2.1 315 = .ok (.aload_n 2, 1) := by decide +kernel
theorem d_Law_316 : decode m_Law.2.1 316 = .ok (.aload_n 0, 1) := by decide +kernel
theorem d_Law_317 : decode m_Law.2.1 317 = .ok (.iload_n 3, 1) := by decide +kernel
theorem d_Law_318 : decode m_Law.2.1 318 = .ok (.iconst 1, 1) := by decide +kernel
theorem d_Law_319 : decode m_Law.2.1 319 = .ok (.iadd, 1) := by decide +kernel
theorem d_Law_320 : decode m_Law.2.1 320 = .ok (.iaload, 1) := by decide +kernel
theorem d_Law_321 : decode m_Law.2.1 321 = .ok (.aload_n 0, 1) := by decide +kernel
theorem d_Law_322 : decode m_Law.2.1 322 = .ok (.iload_n 3, 1) := by decide +kernel
theorem d_Law_323 : decode m_Law.2.1 323 = .ok (.iconst 2, 1) := by decide +kernel
theorem d_Law_324 : decode m_Law.2.1 324 = .ok (.iadd, 1) := by decide +kernel
theorem d_Law_325 : decode m_Law.2.1 325 = .ok (.iaload, 1) := by decide +kernel
theorem d_Law_326 : decode m_Law.2.1 326 = .ok (.aload_n 0, 1) := by decide +kernel
theorem d_Law_327 : decode m_Law.2.1 327 = .ok (.iload_n 3, 1) := by decide +kernel
theorem d_Law_328 : decode m_Law.2.1 328 = .ok (.iconst 3, 1) := by decide +kernel
theorem d_Law_329 : decode m_Law.2.1 329 = .ok (.iadd, 1) := by decide +kernel
theorem d_Law_330 : decode m_Law.2.1 330 = .ok (.iaload, 1) := by decide +kernel
theorem d_Law_331 : decode m_Law.2.1 331 = .ok (.aload_n 0, 1) := by decide +kernel
theorem d_Law_332 : decode m_Law.2.1 332 = .ok (.iload_n 3, 1) := by decide +kernel
theorem d_Law_333 : decode m_Law.2.1 333 = .ok (.iconst 4, 1) := by decide +kernel
theorem d_Law_334 : decode m_Law.2.1 334 = .ok (.iadd, 1) := by decide +kernel
theorem d_Law_335 : decode m_Law.2.1 335 = .ok (.iaload, 1) := by decide +kernel
theorem d_Law_336 : decode m_Law.2.1 336 = .ok (.invokevirtual 32, 3) := by decide +kernel
theorem d_Law_339 : decode m_Law.2.1 339 = .ok (.if_icmp .eq 1213, 3) := by decide +kernel
theorem d_Law_342 : decode m_Law.2.1 342 = .ok (.iconst 0, 1) := by decide +kernel
theorem d_Law_343 : decode m_Law.2.1 343 = .ok (.ireturn, 1) := by decide +kernel
theorem d_Law_344 : decode m_Law.2.1 344 = .ok (.aload_n 1, 1) := by decide +kernel
theorem d_Law_345 : decode m_Law.2.1 345 = .ok (.aload_n 0, 1) := by decide +kernel
theorem d_Law_346 : decode m_Law.2.1 346 = .ok (.iload_n 3, 1) := by decide +kernel
theorem d_Law_347 : decode m_Law.2.1 347 = .ok (.iconst 1, 1) := by decide +kernel
theorem d_Law_348 : decode m_Law.2.1 348 = .ok (.iadd, 1) := by decide +kernel
theorem d_Law_349 : decode m_Law.2.1 349 = .ok (.iaload, 1) := by decide +kernel
theorem d_Law_350 : decode m_Law.2.1 350 = .ok (.aload_n 0, 1) := by decide +kernel
theorem d_Law_351 : decode m_Law.2.1 351 = .ok (.iload_n 3, 1) := by decide +kernel
theorem d_Law_352 : decode m_Law.2.1 352 = .ok (.iconst 2, 1) := by decide +kernel
theorem d_Law_353 : decode m_Law.2.1 353 = .ok (.iadd, 1) := by decide +kernel
theorem d_Law_354 : decode m_Law.2.1 354 = .ok (.iaload, 1) := by decide +kernel
theorem d_Law_355 : decode m_Law.2.1 355 = .ok (.invokevirtual 33, 3) := by decide +kernel
theorem d_Law_358 : decode m_Law.2.1 358 = .ok (.aload_n 2, 1) := by decide +kernel
theorem d_Law_359 : decode m_Law.2.1 359 = .ok (.aload_n 0, 1) := by decide +kernel
theorem d_Law_360 : decode m_Law.2.1 360 = .ok (.iload_n 3, 1) := by decide +kernel
theorem d_Law_361 : decode m_Law.2.1 361 = .ok (.iconst 1, 1) := by decide +kernel
theorem d_Law_362 : decode m_Law.2.1 362 = .ok (.iadd, 1) := by decide +kernel
theorem d_Law_363 : decode m_Law.2.1 363 = .ok (.iaload, 1) := by decide +kernel
theorem d_Law_364 : decode m_Law.2.1 364 = .ok (.aload_n 0, 1) := by decide +kernel
theorem d_Law_365 : decode m_Law.2.1 365 = .ok (.iload_n 3, 1) := by decide +kernel
theorem d_Law_366 : decode m_Law.2.1 366 = .ok (.iconst 2, 1) := by decide +kernel
theorem d_Law_367 : decode m_Law.2.1 367 = .ok (.iadd, 1) := by decide +kernel
theorem d_Law_368 : decode m_Law.2.1 368 = .ok (.iaload, 1) := by decide +kernel
theorem d_Law_369 : decode m_Law.2.1 369 = .ok (.invokevirtual 37, 3) := by decide +kernel
theorem d_Law_372 : decode m_Law.2.1 372 = .ok (.if_icmp .eq 1180, 3) := by decide +kernel
theorem d_Law_375 : decode m_Law.2.1 375 = .ok (.iconst 0, 1) := by decide +kernel
theorem d_Law_376 : decode m_Law.2.1 376 = .ok (.ireturn, 1) := by decide +kernel
theorem d_Law_377 : decode m_Law.2.1 377 = .ok (.aload_n 1, 1) := by decide +kernel
theorem d_Law_378 : decode m_Law.2.1 378 = .ok (.aload_n 0, 1) := by decide +kernel
theorem d_Law_379 : decode m_Law.2.1 379 = .ok (.iload_n 3, 1) := by decide +kernel
theorem d_Law_380 : decode m_Law.2.1 380 = .ok (.iconst 1, 1) := by decide +kernel
theorem d_Law_381 : decode m_Law.2.1 381 = .ok (.iadd, 1) := by decide +kernel
theorem d_Law_382 : decode m_Law.2.1 382 = .ok (.iaload, 1) := by decide +kernel
theorem d_Law_383 : decode m_Law.2.1 383 = .ok (.aload_n 0, 1) := by decide +kernel
theorem d_Law_384 : decode m_Law.2.1 384 = .ok (.iload_n 3, 1) := by decide +kernel
theorem d_Law_385 : decode m_Law.2.1 385 = .ok (.iconst 2, 1) := by decide +kernel
theorem d_Law_386 : decode m_Law.2.1 386 = .ok (.iadd, 1) := by decide +kernel
theorem d_Law_387 : decode m_Law.2.1 387 = .ok (.iaload, 1) := by decide +kernel
theorem d_Law_388 : decode m_Law.2.1 388 = .ok (.invokevirtual 38, 3) := by decide +kernel
theorem d_Law_391 : decode m_Law.2.1 391 = .ok (.aload_n 2, 1) := by decide +kernel
theorem d_Law_392 : decode m_Law.2.1 392 = .ok (.aload_n 0, 1) := by decide +kernel
theorem d_Law_393 : decode m_Law.2.1 393 = .ok (.iload_n 3, 1) := by decide +kernel
theorem d_Law_394 : decode m_Law.2.1 394 = .ok (.iconst 1, 1) := by decide +kernel
theorem d_Law_395 : decode m_Law.2.1 395 = .ok (.iadd, 1) := by decide +kernel
theorem d_Law_396 : decode m_Law.2.1 396 = .ok (.iaload, 1) := by decide +kernel
theorem d_Law_397 : decode m_Law.2.1 397 = .ok (.aload_n 0, 1) := by decide +kernel
theorem d_Law_398 : decode m_Law.2.1 398 = .ok (.iload_n 3, 1) := by decide +kernel
theorem d_Law_399 : decode m_Law.2.1 399 = .ok (.iconst 2, 1) := by decide +kernel
theorem d_Law_400 : decode m_Law.2.1 400 = .ok (.iadd, 1) := by decide +kernel
theorem d_Law_401 : decode m_Law.2.1 401 = .ok (.iaload, 1) := by decide +kernel
theorem d_Law_402 : decode m_Law.2.1 402 = .ok (.invokevirtual 41, 3) := by decide +kernel
theorem d_Law_405 : decode m_Law.2.1 405 = .ok (.if_icmp .eq 1147, 3) := by decide +kernel
theorem d_Law_408 : decode m_Law.2.1 408 = .ok (.iconst 0, 1) := by decide +kernel
theorem d_Law_409 : decode m_Law.2.1 409 = .ok (.ireturn, 1) := by decide +kernel
theorem d_Law_410 : decode m_Law.2.1 410 = .ok (.aload_n 1, 1) := by decide +kernel
theorem d_Law_411 : decode m_Law.2.1 411 = .ok (.aload_n 0, 1) := by decide +kernel
theorem d_Law_412 : decode m_Law.2.1 412 = .ok (.iload_n 3, 1) := by decide +kernel
theorem d_Law_413 : decode m_Law.2.1 413 = .ok (.iconst 1, 1) := by decide +kernel
theorem d_Law_414 : decode m_Law.2.1 414 = .ok (.iadd, 1) := by decide +kernel
theorem d_Law_415 : decode m_Law.2.1 415 = .ok (.iaload, 1) := by decide +kernel
theorem d_Law_416 : decode m_Law.2.1 416 = .ok (.aload_n 0, 1) := by decide +kernel
theorem d_Law_417 : decode m_Law.2.1 417 = .ok (.iload_n 3, 1) := by decide +kernel
theorem d_Law_418 : decode m_Law.2.1 418 = .ok (.iconst 2, 1) := by decide +kernel
theorem d_Law_419 : decode m_Law.2.1 419 = .ok (.iadd, 1) := by decide +kernel
theorem d_Law_420 : decode m_Law.2.1 420 = .ok (.iaload, 1) := by decide +kernel
theorem d_Law_421 : decode m_Law.2.1 421 = .ok (.invokevirtual 42, 3) := by decide +kernel
theorem d_Law_424 : decode m_Law.2.1 424 = .ok (.aload_n 2, 1) := by decide +kernel
theorem d_Law_425 : decode m_Law.2.1 425 = .ok (.aload_n 0, 1) := by decide +kernel
theorem d_Law_426 : decode m_Law.2.1 426 = .ok (.iload_n 3, 1) := by decide +kernel
theorem d_Law_427 : decode m_Law.2.1 427 = .ok (.iconst 1, 1) := by decide +kernel
theorem d_Law_428 : decode m_Law.2.1 428 = .ok (.iadd, 1) := by decide +kernel
theorem d_Law_429 : decode m_Law.2.1 429 = .ok (.iaload, 1) := by decide +kernel
theorem d_Law_430 : decode m_Law.2.1 430 = .ok (.aload_n 0, 1) := by decide +kernel
theorem d_Law_431 : decode m_Law.2.1 431 = .ok (.iload_n 3, 1) := by decide +kernel
theorem d_Law_432 : decode m_Law.2.1 432 = .ok (.iconst 2, 1) := by decide +kernel
theorem d_Law_433 : decode m_Law.2.1 433 = .ok (.iadd, 1) := by decide +kernel
theorem d_Law_434 : decode m_Law.2.1 434 = .ok (.iaload, 1) := by decide +kernel
theorem d_Law_435 : decode m_Law.2.1 435 = .ok (.invokevirtual 45, 3) := by decide +kernel
theorem d_Law_438 : decode m_Law.2.1 438 = .ok (.if_icmp .eq 1114, 3) := by decide +kernel
theorem d_Law_441 : decode m_Law.2.1 441 = .ok (.iconst 0, 1) := by decide +kernel
theorem d_Law_442 : decode m_Law.2.1 442 = .ok (.ireturn, 1) := by decide +kernel
theorem d_Law_443 : decode m_Law.2.1 443 = .ok (.aload_n 1, 1) := by decide +kernel
theorem d_Law_444 : decode m_Law.2.1 444 = .ok (.aload_n 0, 1) := by decide +kernel
theorem d_Law_445 : decode m_Law.2.1 445 = .ok (.iload_n 3, 1) := by decide +kernel
theorem d_Law_446 : decode m_Law.2.1 446 = .ok (.iconst 1, 1) := by decide +kernel
theorem d_Law_447 : decode m_Law.2.1 447 = .ok (.iadd, 1) := by decide +kernel
theorem d_Law_448 : decode m_Law.2.1 448 = .ok (.iaload, 1) := by decide +kernel
theorem d_Law_449 : decode m_Law.2.1 449 = .ok (.aload_n 0, 1) := by decide +kernel
theorem d_Law_450 : decode m_Law.2.1 450 = .ok (.iload_n 3, 1) := by decide +kernel
theorem d_Law_451 : decode m_Law.2.1 451 = .ok (.iconst 2, 1) := by decide +kernel
theorem d_Law_452 : decode m_Law.2.1 452 = .ok (.iadd, 1) := by decide +kernel
theorem d_Law_453 : decode m_Law.2.1 453 = .ok (.iaload, 1) := by decide +kernel
theorem d_Law_454 : decode m_Law.2.1 454 = .ok (.aload_n 0, 1) := by decide +kernel
theorem d_Law_455 : decode m_Law.2.1 455 = .ok (.iload_n 3, 1) := by decide +kernel
theorem d_Law_456 : decode m_Law.2.1 456 = .ok (.iconst 3, 1) := by decide +kernel
theorem d_Law_457 : decode m_Law.2.1 457 = .ok (.iadd, 1) := by decide +kernel
theorem d_Law_458 : decode m_Law.2.1 458 = .ok (.iaload, 1) := by decide +kernel
theorem d_Law_459 : decode m_Law.2.1 459 = .ok (.aload_n 0, 1) := by decide +kernel
theorem d_Law_460 : decode m_Law.2.1 460 = .ok (.iload_n 3, 1) := by decide +kernel
theorem d_Law_461 : decode m_Law.2.1 461 = .ok (.iconst 4, 1) := by decide +kernel
theorem d_Law_462 : decode m_Law.2.1 462 = .ok (.iadd, 1) := by decide +kernel
theorem d_Law_463 : decode m_Law.2.1 463 = .ok (.iaload, 1) := by decide +kernel
theorem d_Law_464 : decode m_Law.2.1 464 = .ok (.invokevirtual 46, 3) := by decide +kernel
theorem d_Law_467 : decode m_Law.2.1 467 = .ok (.aload_n 2, 1) := by decide +kernel
theorem d_Law_468 : decode m_Law.2.1 468 = .ok (.aload_n 0, 1) := by decide +kernel
theorem d_Law_469 : decode m_Law.2.1 469 = .ok (.iload_n 3, 1) := by decide +kernel
theorem d_Law_470 : decode m_Law.2.1 470 = .ok (.iconst 1, 1) := by decide +kernel
theorem d_Law_471 : decode m_Law.2.1 471 = .ok (.iadd, 1) := by decide +kernel
theorem d_Law_472 : decode m_Law.2.1 472 = .ok (.iaload, 1) := by decide +kernel
theorem d_Law_473 : decode m_Law.2.1 473 = .ok (.aload_n 0, 1) := by decide +kernel
theorem d_Law_474 : decode m_Law.2.1 474 = .ok (.iload_n 3, 1) := by decide +kernel
theorem d_Law_475 : decode m_Law.2.1 475 = .ok (.iconst 2, 1) := by decide +kernel
theorem d_Law_476 : decode m_Law.2.1 476 = .ok (.iadd, 1) := by decide +kernel
theorem d_Law_477 : decode m_Law.2.1 477 = .ok (.iaload, 1) := by decide +kernel
theorem d_Law_478 : decode m_Law.2.1 478 = .ok (.aload_n 0, 1) := by decide +kernel
theorem d_Law_479 : decode m_Law.2.1 479 = .ok (.iload_n 3, 1) := by decide +kernel
theorem d_Law_480 : decode m_Law.2.1 480 = .ok (.iconst 3, 1) := by decide +kernel
theorem d_Law_481 : decode m_Law.2.1 481 = .ok (.iadd, 1) := by decide +kernel
theorem d_Law_482 : decode m_Law.2.1 482 = .ok (.iaload, 1) := by decide +kernel
theorem d_Law_483 : decode m_Law.2.1 483 = .ok (.aload_n 0, 1) := by decide +kernel
theorem d_Law_484 : decode m_Law.2.1 484 = .ok (.iload_n 3, 1) := by decide +kernel
theorem d_Law_485 : decode m_Law.2.1 485 = .ok (.iconst 4, 1) := by decide +kernel
theorem d_Law_486 : decode m_Law.2.1 486 = .ok (.iadd, 1) := by decide +kernel
theorem d_Law_487 : decode m_Law.2.1 487 = .ok (.iaload, 1) := by decide +kernel
theorem d_Law_488 : decode m_Law.2.1 488 = .ok (.invokevirtual 49, 3) := by decide +kernel
theorem d_Law_491 : decode m_Law.2.1 491 = .ok (.if_icmp .eq 1061, 3) := by decide +kernel
theorem d_Law_494 : decode m_Law.2.1 494 = .ok (.iconst 0, 1) := by decide +kernel
theorem d_Law_495 : decode m_Law.2.1 495 = .ok (.ireturn, 1) := by decide +kernel
theorem d_Law_496 : decode m_Law.2.1 496 = .ok (.aload_n 1, 1) := by decide +kernel
theorem d_Law_497 : decode m_Law.2.1 497 = .ok (.aload_n 0, 1) := by decide +kernel
theorem d_Law_498 : decode m_Law.2.1 498 = .ok (.iload_n 3, 1) := by decide +kernel
theorem d_Law_499 : decode m_Law.2.1 499 = .ok (.iconst 1, 1) := by decide +kernel
theorem d_Law_500 : decode m_Law.2.1 500 = .ok (.iadd, 1) := by decide +kernel
theorem d_Law_501 : decode m_Law.2.1 501 = .ok (.iaload, 1) := by decide +kernel
theorem d_Law_502 : decode m_Law.2.1 502 = .ok (.aload_n 0, 1) := by decide +kernel
theorem d_Law_503 : decode m_Law.2.1 503 = .ok (.iload_n 3, 1) := by decide +kernel
theorem d_Law_504 : decode m_Law.2.1 504 = .ok (.iconst 2, 1) := by decide +kernel
theorem d_Law_505 : decode m_Law.2.1 505 = .ok (.iadd, 1) := by decide +kernel
theorem d_Law_506 : decode m_Law.2.1 506 = .ok (.iaload, 1) := by decide +kernel
theorem d_Law_507 : decode m_Law.2.1 507 = .ok (.aload_n 0, 1) := by decide +kernel
theorem d_Law_508 : decode m_Law.2.1 508 = .ok (.iload_n 3, 1) := by decide +kernel
theorem d_Law_509 : decode m_Law.2.1 509 = .ok (.iconst 3, 1) := by decide +kernel
theorem d_Law_510 : decode m_Law.2.1 510 = .ok (.iadd, 1) := by decide +kernel
theorem d_Law_511 : decode m_Law.2.1 511 = .ok (.iaload, 1) := by decide +kernel
theorem d_Law_512 : decode m_Law.2.1 512 = .ok (.invokevirtual 50, 3) := by decide +kernel
theorem d_Law_515 : decode m_Law.2.1 515 = .ok (.aload_n 2, 1) := by decide +kernel
theorem d_Law_516 : decode m_Law.2.1 516 = .ok (.aload_n 0, 1) := by decide +kernel
theorem d_Law_517 : decode m_Law.2.1 517 = .ok (.iload_n 3, 1) := by decide +kernel
theorem d_Law_518 : decode m_Law.2.1 518 = .ok (.iconst 1, 1) := by decide +kernel
theorem d_Law_519 : decode m_Law.2.1 519 = .ok (.iadd, 1) := by decide +kernel
theorem d_Law_520 : decode m_Law.2.1 520 = .ok (.iaload, 1) := by decide +kernel
theorem d_Law_521 : decode m_Law.2.1 521 = .ok (.aload_n 0, 1) := by decide +kernel
theorem d_Law_522 : decode m_Law.2.1 522 = .ok (.iload_n 3, 1) := by decide +kernel
theorem d_Law_523 : decode m_Law.2.1 523 = .ok (.iconst 2, 1) := by decide +kernel
theorem d_Law_524 : decode m_Law.2.1 524 = .ok (.iadd, 1) := by decide +kernel
theorem d_Law_525 : decode m_Law.2.1 525 = .ok (.iaload, 1) := by decide +kernel
theorem d_Law_526 : decode m_Law.2.1 526 = .ok (.aload_n 0, 1) := by decide +kernel
theorem d_Law_527 : decode m_Law.2.1 527 = .ok (.iload_n 3, 1) := by decide +kernel
theorem d_Law_528 : decode m_Law.2.1 528 = .ok (.iconst 3, 1) := by decide +kernel
theorem d_Law_529 : decode m_Law.2.1 529 = .ok (.iadd, 1) := by decide +kernel
theorem d_Law_530 : decode m_Law.2.1 530 = .ok (.iaload, 1) := by decide +kernel
theorem d_Law_531 : decode m_Law.2.1 531 = .ok (.invokevirtual 54, 3) := by decide +kernel
theorem d_Law_534 : decode m_Law.2.1 534 = .ok (.if_icmp .eq 1018, 3) := by decide +kernel
theorem d_Law_537 : decode m_Law.2.1 537 = .ok (.iconst 0, 1) := by decide +kernel
theorem d_Law_538 : decode m_Law.2.1 538 = .ok (.ireturn, 1) := by decide +kernel
theorem d_Law_539 : decode m_Law.2.1 539 = .ok (.aload_n 1, 1) := by decide +kernel
theorem d_Law_540 : decode m_Law.2.1 540 = .ok (.aload_n 0, 1) := by decide +kernel
theorem d_Law_541 : decode m_Law.2.1 541 = .ok (.iload_n 3, 1) := by decide +kernel
theorem d_Law_542 : decode m_Law.2.1 542 = .ok (.iconst 1, 1) := by decide +kernel
theorem d_Law_543 : decode m_Law.2.1 543 = .ok (.iadd, 1) := by decide +kernel
theorem d_Law_544 : decode m_Law.2.1 544 = .ok (.iaload, 1) := by decide +kernel
theorem d_Law_545 : decode m_Law.2.1 545 = .ok (.aload_n 0, 1) := by decide +kernel
theorem d_Law_546 : decode m_Law.2.1 546 = .ok (.iload_n 3, 1) := by decide +kernel
theorem d_Law_547 : decode m_Law.2.1 547 = .ok (.iconst 2, 1) := by decide +kernel
theorem d_Law_548 : decode m_Law.2.1 548 = .ok (.iadd, 1) := by decide +kernel
theorem d_Law_549 : decode m_Law.2.1 549 = .ok (.iaload, 1) := by decide +kernel
theorem d_Law_550 : decode m_Law.2.1 550 = .ok (.aload_n 0, 1) := by decide +kernel
theorem d_Law_551 : decode m_Law.2.1 551 = .ok (.iload_n 3, 1) := by decide +kernel
theorem d_Law_552 : decode m_Law.2.1 552 = .ok (.iconst 3, 1) := by decide +kernel
theorem d_Law_553 : decode m_Law.2.1 553 = .ok (.iadd, 1) := by decide +kernel
theorem d_Law_554 : decode m_Law.2.1 554 = .ok (.iaload, 1) := by decide +kernel
theorem d_Law_555 : decode m_Law.2.1 555 = .ok (.invokevirtual 55, 3) := by decide +kernel
theorem d_Law_558 : decode m_Law.2.1 558 = .ok (.aload_n 2, 1) := by decide +kernel
theorem d_Law_559 : decode m_Law.2.1 559 = .ok (.aload_n 0, 1) := by decide +kernel
theorem d_Law_560 : decode m_Law.2.1 560 = .ok (.iload_n 3, 1) := by decide +kernel
theorem d_Law_561 : decode m_Law.2.1 561 = .ok (.iconst 1, 1) := by decide +kernel
theorem d_Law_562 : decode m_Law.2.1 562 = .ok (.iadd, 1) := by decide +kernel
theorem d_Law_563 : decode m_Law.2.1 563 = .ok (.iaload, 1) := by decide +kernel
theorem d_Law_564 : decode m_Law.2.1 564 = .ok (.aload_n 0, 1) := by decide +kernel
theorem d_Law_565 : decode m_Law.2.1 565 = .ok (.iload_n 3, 1) := by decide +kernel
theorem d_Law_566 : decode m_Law.2.1 566 = .ok (.iconst 2, 1) := by decide +kernel
theorem d_Law_567 : decode m_Law.2.1 567 = .ok (.iadd, 1) := by decide +kernel
theorem d_Law_568 : decode m_Law.2.1 568 = .ok (.iaload, 1) := by decide +kernel
theorem d_Law_569 : decode m_Law.2.1 569 = .ok (.aload_n 0, 1) := by decide +kernel
theorem d_Law_570 : decode m_Law.2.1 570 = .ok (.iload_n 3, 1) := by decide +kernel
theorem d_Law_571 : decode m_Law.2.1 571 = .ok (.iconst 3, 1) := by decide +kernel
theorem d_Law_572 : decode m_Law.2.1 572 = .ok (.iadd, 1) := by decide +kernel
theorem d_Law_573 : decode m_Law.2.1 573 = .ok (.iaload, 1) := by decide +kernel
theorem d_Law_574 : decode m_Law.2.1 574 = .ok (.invokevirtual 58, 3) := by decide +kernel
theorem d_Law_577 : decode m_Law.2.1 577 = .ok (.if_icmp .eq 975, 3) := by decide +kernel
theorem d_Law_580 : decode m_Law.2.1 580 = .ok (.iconst 0, 1) := by decide +kernel
theorem d_Law_581 : decode m_Law.2.1 581 = .ok (.ireturn, 1) := by decide +kernel
theorem d_Law_582 : decode m_Law.2.1 582 = .ok (.aload_n 1, 1) := by decide +kernel
theorem d_Law_583 : decode m_Law.2.1 583 = .ok (.aload_n 0, 1) := by decide +kernel
theorem d_Law_584 : decode m_Law.2.1 584 = .ok (.iload_n 3, 1) := by decide +kernel
theorem d_Law_585 : decode m_Law.2.1 585 = .ok (.iconst 1, 1) := by decide +kernel
theorem d_Law_586 : decode m_Law.2.1 586 = .ok (.iadd, 1) := by decide +kernel
theorem d_Law_587 : decode m_Law.2.1 587 = .ok (.iaload, 1) := by decide +kernel
theorem d_Law_588 : decode m_Law.2.1 588 = .ok (.aload_n 0, 1) := by decide +kernel
theorem d_Law_589 : decode m_Law.2.1 589 = .ok (.iload_n 3, 1) := by decide +kernel
theorem d_Law_590 : decode m_Law.2.1 590 = .ok (.iconst 2, 1) := by decide +kernel
theorem d_Law_591 : decode m_Law.2.1 591 = .ok (.iadd, 1) := by decide +kernel
theorem d_Law_592 : decode m_Law.2.1 592 = .ok (.iaload, 1) := by decide +kernel
theorem d_Law_593 : decode m_Law.2.1 593 = .ok (.aload_n 0, 1) := by decide +kernel
theorem d_Law_594 : decode m_Law.2.1 594 = .ok (.iload_n 3, 1) := by decide +kernel
theorem d_Law_595 : decode m_Law.2.1 595 = .ok (.iconst 3, 1) := by decide +kernel
theorem d_Law_596 : decode m_Law.2.1 596 = .ok (.iadd, 1) := by decide +kernel
theorem d_Law_597 : decode m_Law.2.1 597 = .ok (.iaload, 1) := by decide +kernel
theorem d_Law_598 : decode m_Law.2.1 598 = .ok (.invokevirtual 59, 3) := by decide +kernel
theorem d_Law_601 : decode m_Law.2.1 601 = .ok (.aload_n 2, 1) := by decide +kernel
theorem d_Law_602 : decode m_Law.2.1 602 = .ok (.aload_n 0, 1) := by decide +kernel
theorem d_Law_603 : decode m_Law.2.1 603 = .ok (.iload_n 3, 1) := by decide +kernel
theorem d_Law_604 : decode m_Law.2.1 604 = .ok (.iconst 1, 1) := by decide +kernel
theorem d_Law_605 : decode m_Law.2.1 605 = .ok (.iadd, 1) := by decide +kernel
theorem d_Law_606 : decode m_Law.2.1 606 = .ok (.iaload, 1) := by decide +kernel
theorem d_Law_607 : decode m_Law.2.1 607 = .ok (.aload_n 0, 1) := by decide +kernel
theorem d_Law_608 : decode m_Law.2.1 608 = .ok (.iload_n 3, 1) := by decide +kernel
theorem d_Law_609 : decode m_Law.2.1 609 = .ok (.iconst 2, 1) := by decide +kernel
theorem d_Law_610 : decode m_Law.2.1 610 = .ok (.iadd, 1) := by decide +kernel
theorem d_Law_611 : decode m_Law.2.1 611 = .ok (.iaload, 1) := by decide +kernel
theorem d_Law_612 : decode m_Law.2.1 612 = .ok (.aload_n 0, 1) := by decide +kernel
theorem d_Law_613 : decode m_Law.2.1 613 = .ok (.iload_n 3, 1) := by decide +kernel
theorem d_Law_614 : decode m_Law.2.1 614 = .ok (.iconst 3, 1) := by decide +kernel
theorem d_Law_615 : decode m_Law.2.1 615 = .ok (.iadd, 1) := by decide +kernel
theorem d_Law_616 : decode m_Law.2.1 616 = .ok (.iaload, 1) := by decide +kernel
theorem d_Law_617 : decode m_Law.2.1 617 = .ok (.invokevirtual 62, 3) := by decide +kernel
theorem d_Law_620 : decode m_Law.2.1 620 = .ok (.if_icmp .eq 932, 3) := by decide +kernel
theorem d_Law_623 : decode m_Law.2.1 623 = .ok (.iconst 0, 1) := by decide +kernel
theorem d_Law_624 : decode m_Law.2.1 624 = .ok (.ireturn, 1) := by decide +kernel
theorem d_Law_625 : decode m_Law.2.1 625 = .ok (.aload_n 1, 1) := by decide +kernel
theorem d_Law_626 : decode m_Law.2.1 626 = .ok (.aload_n 0, 1) := by decide +kernel
theorem d_Law_627 : decode m_Law.2.1 627 = .ok (.iload_n 3, 1) := by decide +kernel
theorem d_Law_628 : decode m_Law.2.1 628 = .ok (.iconst 1, 1) := by decide +kernel
theorem d_Law_629 : decode m_Law.2.1 629 = .ok (.iadd, 1) := by decide +kernel
theorem d_Law_630 : decode m_Law.2.1 630 = .ok (.iaload, 1) := by decide +kernel
theorem d_Law_631 : decode m_Law.2.1 631 = .ok (.invokevirtual 63, 3) := by decide +kernel
theorem d_Law_634 : decode m_Law.2.1 634 = .ok (.aload_n 2, 1) := by decide +kernel
theorem d_Law_635 : decode m_Law.2.1 635 = .ok (.aload_n 0, 1) := by decide +kernel
theorem d_Law_636 : decode m_Law.2.1 636 = .ok (.iload_n 3, 1) := by decide +kernel
theorem d_Law_637 : decode m_Law.2.1 637 = .ok (.iconst 1, 1) := by decide +kernel
theorem d_Law_638 : decode m_Law.2.1 638 = .ok (.iadd, 1) := by decide +kernel
theorem d_Law_639 : decode m_Law.2.1 639 = .ok (.iaload, 1) := by decide +kernel
theorem d_Law_640 : decode m_Law.2.1 640 = .ok (.invokevirtual 67, 3) := by decide +kernel
theorem d_Law_643 : decode m_Law.2.1 643 = .ok (.if_icmp .eq 909, 3) := by decide +kernel
theorem d_Law_646 : decode m_Law.2.1 646 = .ok (.iconst 0, 1) := by decide +kernel
theorem d_Law_647 : decode m_Law.2.1 647 = .ok (.ireturn, 1) := by decide +kernel
theorem d_Law_648 : decode m_Law.2.1 648 = .ok (.aload_n 1, 1) := by decide +kernel
theorem d_Law_649 : decode m_Law.2.1 649 = .ok (.aload_n 0, 1) := by decide +kernel
theorem d_Law_650 : decode m_Law.2.1 650 = .ok (.iload_n 3, 1) := by decide +kernel
theorem d_Law_651 : decode m_Law.2.1 651 = .ok (.iconst 1, 1) := by decide +kernel
theorem d_Law_652 : decode m_Law.2.1 652 = .ok (.iadd, 1) := by decide +kernel
theorem d_Law_653 : decode m_Law.2.1 653 = .ok (.iaload, 1) := by decide +kernel
theorem d_Law_654 : decode m_Law.2.1 654 = .ok (.aload_n 0, 1) := by decide +kernel
theorem d_Law_655 : decode m_Law.2.1 655 = .ok (.iload_n 3, 1) := by decide +kernel
theorem d_Law_656 : decode m_Law.2.1 656 = .ok (.iconst 2, 1) := by decide +kernel
theorem d_Law_657 : decode m_Law.2.1 657 = .ok (.iadd, 1) := by decide +kernel
theorem d_Law_658 : decode m_Law.2.1 658 = .ok (.iaload, 1) := by decide +kernel
theorem d_Law_659 : decode m_Law.2.1 659 = .ok (.invokevirtual 68, 3) := by decide +kernel
theorem d_Law_662 : decode m_Law.2.1 662 = .ok (.aload_n 2, 1) := by decide +kernel
theorem d_Law_663 : decode m_Law.2.1 663 = .ok (.aload_n 0, 1) := by decide +kernel
theorem d_Law_664 : decode m_Law.2.1 664 = .ok (.iload_n 3, 1) := by decide +kernel
theorem d_Law_665 : decode m_Law.2.1 665 = .ok (.iconst 1, 1) := by decide +kernel
theorem d_Law_666 : decode m_Law.2.1 666 = .ok (.iadd, 1) := by decide +kernel
theorem d_Law_667 : decode m_Law.2.1 667 = .ok (.iaload, 1) := by decide +kernel
theorem d_Law_668 : decode m_Law.2.1 668 = .ok (.aload_n 0, 1) := by decide +kernel
theorem d_Law_669 : decode m_Law.2.1 669 = .ok (.iload_n 3, 1) := by decide +kernel
theorem d_Law_670 : decode m_Law.2.1 670 = .ok (.iconst 2, 1) := by decide +kernel
theorem d_Law_671 : decode m_Law.2.1 671 = .ok (.iadd, 1) := by decide +kernel
theorem d_Law_672 : decode m_Law.2.1 672 = .ok (.iaload, 1) := by decide +kernel
theorem d_Law_673 : decode m_Law.2.1 673 = .ok (.invokevirtual 71, 3) := by decide +kernel
theorem d_Law_676 : decode m_Law.2.1 676 = .ok (.if_icmp .eq 876, 3) := by decide +kernel
theorem d_Law_679 : decode m_Law.2.1 679 = .ok (.iconst 0, 1) := by decide +kernel
theorem d_Law_680 : decode m_Law.2.1 680 = .ok (.ireturn, 1) := by decide +kernel
theorem d_Law_681 : decode m_Law.2.1 681 = .ok (.aload_n 1, 1) := by decide +kernel
theorem d_Law_682 : decode m_Law.2.1 682 = .ok (.aload_n 0, 1) := by decide +kernel
theorem d_Law_683 : decode m_Law.2.1 683 = .ok (.iload_n 3, 1) := by decide +kernel
theorem d_Law_684 : decode m_Law.2.1 684 = .ok (.iconst 1, 1) := by decide +kernel
theorem d_Law_685 : decode m_Law.2.1 685 = .ok (.iadd, 1) := by decide +kernel
theorem d_Law_686 : decode m_Law.2.1 686 = .ok (.iaload, 1) := by decide +kernel
theorem d_Law_687 : decode m_Law.2.1 687 = .ok (.invokevirtual 72, 3) := by decide +kernel
theorem d_Law_690 : decode m_Law.2.1 690 = .ok (.aload_n 2, 1) := by decide +kernel
theorem d_Law_691 : decode m_Law.2.1 691 = .ok (.aload_n 0, 1) := by decide +kernel
theorem d_Law_692 : decode m_Law.2.1 692 = .ok (.iload_n 3, 1) := by decide +kernel
theorem d_Law_693 : decode m_Law.2.1 693 = .ok (.iconst 1, 1) := by decide +kernel
theorem d_Law_694 : decode m_Law.2.1 694 = .ok (.iadd, 1) := by decide +kernel
theorem d_Law_695 : decode m_Law.2.1 695 = .ok (.iaload, 1) := by decide +kernel
theorem d_Law_696 : decode m_Law.2.1 696 = .ok (.invokevirtual 75, 3) := by decide +kernel
theorem d_Law_699 : decode m_Law.2.1 699 = .ok (.if_icmp .eq 853, 3) := by decide +kernel
theorem d_Law_702 : decode m_Law.2.1 702 = .ok (.iconst 0, 1) := by decide +kernel
theorem d_Law_703 : decode m_Law.2.1 703 = .ok (.ireturn, 1) := by decide +kernel
theorem d_Law_704 : decode m_Law.2.1 704 = .ok (.aload_n 1, 1) := by decide +kernel
theorem d_Law_705 : decode m_Law.2.1 705 = .ok (.aload_n 0, 1) := by decide +kernel
theorem d_Law_706 : decode m_Law.2.1 706 = .ok (.iload_n 3, 1) := by decide +kernel
theorem d_Law_707 : decode m_Law.2.1 707 = .ok (.iconst 1, 1) := by decide +kernel
theorem d_Law_708 : decode m_Law.2.1 708 = .ok (.iadd, 1) := by decide +kernel
theorem d_Law_709 : decode m_Law.2.1 709 = .ok (.iaload, 1) := by decide +kernel
theorem d_Law_710 : decode m_Law.2.1 710 = .ok (.invokevirtual 76, 3) := by decide +kernel
theorem d_Law_713 : decode m_Law.2.1 713 = .ok (.aload_n 2, 1) := by decide +kernel
theorem d_Law_714 : decode m_Law.2.1 714 = .ok (.aload_n 0, 1) := by decide +kernel
theorem d_Law_715 : decode m_Law.2.1 715 = .ok (.iload_n 3, 1) := by decide +kernel
theorem d_Law_716 : decode m_Law.2.1 716 = .ok (.iconst 1, 1) := by decide +kernel
theorem d_Law_717 : decode m_Law.2.1 717 = .ok (.iadd, 1) := by decide +kernel
theorem d_Law_718 : decode m_Law.2.1 718 = .ok (.iaload, 1) := by decide +kernel
theorem d_Law_719 : decode m_Law.2.1 719 = .ok (.invokevirtual 79, 3) := by decide +kernel
theorem d_Law_722 : decode m_Law.2.1 722 = .ok (.if_icmp .eq 830, 3) := by decide +kernel
theorem d_Law_725 : decode m_Law.2.1 725 = .ok (.iconst 0, 1) := by decide +kernel
theorem d_Law_726 : decode m_Law.2.1 726 = .ok (.ireturn, 1) := by decide +kernel
theorem d_Law_727 : decode m_Law.2.1 727 = .ok (.aload_n 1, 1) := by decide +kernel
theorem d_Law_728 : decode m_Law.2.1 728 = .ok (.invokevirtual 80, 3) := by decide +kernel
theorem d_Law_731 : decode m_Law.2.1 731 = .ok (.aload_n 2, 1) := by decide +kernel
theorem d_Law_732 : decode m_Law.2.1 732 = .ok (.invokevirtual 83, 3) := by decide +kernel
theorem d_Law_735 : decode m_Law.2.1 735 = .ok (.if_icmp .eq 817, 3) := by decide +kernel
theorem d_Law_738 : decode m_Law.2.1 738 = .ok (.iconst 0, 1) := by decide +kernel
theorem d_Law_739 : decode m_Law.2.1 739 = .ok (.ireturn, 1) := by decide +kernel
theorem d_Law_740 : decode m_Law.2.1 740 = .ok (.aload_n 1, 1) := by decide +kernel
theorem d_Law_741 : decode m_Law.2.1 741 = .ok (.aload_n 0, 1) := by decide +kernel
theorem d_Law_742 : decode m_Law.2.1 742 = .ok (.iload_n 3, 1) := by decide +kernel
theorem d_Law_743 : decode m_Law.2.1 743 = .ok (.iconst 1, 1) := by decide +kernel
theorem d_Law_744 : decode m_Law.2.1 744 = .ok (.iadd, 1) := by decide +kernel
theorem d_Law_745 : decode m_Law.2.1 745 = .ok (.iaload, 1) := by decide +kernel
theorem d_Law_746 : decode m_Law.2.1 746 = .ok (.aload_n 0, 1) := by decide +kernel
theorem d_Law_747 : decode m_Law.2.1 747 = .ok (.iload_n 3, 1) := by decide +kernel
theorem d_Law_748 : decode m_Law.2.1 748 = .ok (.iconst 2, 1) := by decide +kernel
theorem d_Law_749 : decode m_Law.2.1 749 = .ok (.iadd, 1) := by decide +kernel
theorem d_Law_750 : decode m_Law.2.1 750 = .ok (.iaload, 1) := by decide +kernel
theorem d_Law_751 : decode m_Law.2.1 751 = .ok (.invokevirtual 84, 3) := by decide +kernel
theorem d_Law_754 : decode m_Law.2.1 754 = .ok (.aload_n 2, 1) := by decide +kernel
theorem d_Law_755 : decode m_Law.2.1 755 = .ok (.aload_n 0, 1) := by decide +kernel
theorem d_Law_756 : decode m_Law.2.1 756 = .ok (.iload_n 3, 1) := by decide +kernel
theorem d_Law_757 : decode m_Law.2.1 757 = .ok (.iconst 1, 1) := by decide +kernel
theorem d_Law_758 : decode m_Law.2.1 758 = .ok (.iadd, 1) := by decide +kernel
theorem d_Law_759 : decode m_Law.2.1 759 = .ok (.iaload, 1) := by decide +kernel
theorem d_Law_760 : decode m_Law.2.1 760 = .ok (.aload_n 0, 1) := by decide +kernel
theorem d_Law_761 : decode m_Law.2.1 761 = .ok (.iload_n 3, 1) := by decide +kernel
theorem d_Law_762 : decode m_Law.2.1 762 = .ok (.iconst 2, 1) := by decide +kernel
theorem d_Law_763 : decode m_Law.2.1 763 = .ok (.iadd, 1) := by decide +kernel
theorem d_Law_764 : decode m_Law.2.1 764 = .ok (.iaload, 1) := by decide +kernel
theorem d_Law_765 : decode m_Law.2.1 765 = .ok (.invokevirtual 88, 3) := by decide +kernel
theorem d_Law_768 : decode m_Law.2.1 768 = .ok (.if_icmp .eq 784, 3) := by decide +kernel
theorem d_Law_771 : decode m_Law.2.1 771 = .ok (.iconst 0, 1) := by decide +kernel
theorem d_Law_772 : decode m_Law.2.1 772 = .ok (.ireturn, 1) := by decide +kernel
theorem d_Law_773 : decode m_Law.2.1 773 = .ok (.aload_n 1, 1) := by decide +kernel
theorem d_Law_774 : decode m_Law.2.1 774 = .ok (.aload_n 0, 1) := by decide +kernel
theorem d_Law_775 : decode m_Law.2.1 775 = .ok (.iload_n 3, 1) := by decide +kernel
theorem d_Law_776 : decode m_Law.2.1 776 = .ok (.iconst 1, 1) := by decide +kernel
theorem d_Law_777 : decode m_Law.2.1 777 = .ok (.iadd, 1) := by decide +kernel
theorem d_Law_778 : decode m_Law.2.1 778 = .ok (.iaload, 1) := by decide +kernel
theorem d_Law_779 : decode m_Law.2.1 779 = .ok (.aload_n 0, 1) := by decide +kernel
theorem d_Law_780 : decode m_Law.2.1 780 = .ok (.iload_n 3, 1) := by decide +kernel
theorem d_Law_781 : decode m_Law.2.1 781 = .ok (.iconst 2, 1) := by decide +kernel
theorem d_Law_782 : decode m_Law.2.1 782 = .ok (.iadd, 1) := by decide +kernel
theorem d_Law_783 : decode m_Law.2.1 783 = .ok (.iaload, 1) := by decide +kernel
theorem d_Law_784 : decode m_Law.2.1 784 = .ok (.invokevirtual 89, 3) := by decide +kernel
theorem d_Law_787 : decode m_Law.2.1 787 = .ok (.aload_n 2, 1) := by decide +kernel
theorem d_Law_788 : decode m_Law.2.1 788 = .ok (.aload_n 0, 1) := by decide +kernel
theorem d_Law_789 : decode m_Law.2.1 789 = .ok (.iload_n 3, 1) := by decide +kernel
theorem d_Law_790 : decode m_Law.2.1 790 = .ok (.iconst 1, 1) := by decide +kernel
theorem d_Law_791 : decode m_Law.2.1 791 = .ok (.iadd, 1) := by decide +kernel
theorem d_Law_792 : decode m_Law.2.1 792 = .ok (.iaload, 1) := by decide +kernel
theorem d_Law_793 : decode m_Law.2.1 793 = .ok (.aload_n 0, 1) := by decide +kernel
theorem d_Law_794 : decode m_Law.2.1 794 = .ok (.iload_n 3, 1) := by decide +kernel
theorem d_Law_795 : decode m_Law.2.1 795 = .ok (.iconst 2, 1) := by decide +kernel
theorem d_Law_796 : decode m_Law.2.1 796 = .ok (.iadd, 1) := by decide +kernel
theorem d_Law_797 : decode m_Law.2.1 797 = .ok (.iaload, 1) := by decide +kernel
theorem d_Law_798 : decode m_Law.2.1 798 = .ok (.invokevirtual 92, 3) := by decide +kernel
theorem d_Law_801 : decode m_Law.2.1 801 = .ok (.if_icmp .eq 751, 3) := by decide +kernel
theorem d_Law_804 : decode m_Law.2.1 804 = .ok (.iconst 0, 1) := by decide +kernel
theorem d_Law_805 : decode m_Law.2.1 805 = .ok (.ireturn, 1) := by decide +kernel
theorem d_Law_806 : decode m_Law.2.1 806 = .ok (.aload_n 1, 1) := by decide +kernel
theorem d_Law_807 : decode m_Law.2.1 807 = .ok (.aload_n 0, 1) := by decide +kernel
theorem d_Law_808 : decode m_Law.2.1 808 = .ok (.iload_n 3, 1) := by decide +kernel
theorem d_Law_809 : decode m_Law.2.1 809 = .ok (.iconst 1, 1) := by decide +kernel
theorem d_Law_810 : decode m_Law.2.1 810 = .ok (.iadd, 1) := by decide +kernel
theorem d_Law_811 : decode m_Law.2.1 811 = .ok (.iaload, 1) := by decide +kernel
theorem d_Law_812 : decode m_Law.2.1 812 = .ok (.aload_n 0, 1) := by decide +kernel
theorem d_Law_813 : decode m_Law.2.1 813 = .ok (.iload_n 3, 1) := by decide +kernel
theorem d_Law_814 : decode m_Law.2.1 814 = .ok (.iconst 2, 1) := by decide +kernel
theorem d_Law_815 : decode m_Law.2.1 815 = .ok (.iadd, 1) := by decide +kernel
theorem d_Law_816 : decode m_Law.2.1 816 = .ok (.iaload, 1) := by decide +kernel
theorem d_Law_817 : decode m_Law.2.1 817 = .ok (.aload_n 0, 1) := by decide +kernel
theorem d_Law_818 : decode m_Law.2.1 818 = .ok (.iload_n 3, 1) := by decide +kernel
theorem d_Law_819 : decode m_Law.2.1 819 = .ok (.iconst 3, 1) := by decide +kernel
theorem d_Law_820 : decode m_Law.2.1 820 = .ok (.iadd, 1) := by decide +kernel
theorem d_Law_821 : decode m_Law.2.1 821 = .ok (.iaload, 1) := by decide +kernel
theorem d_Law_822 : decode m_Law.2.1 822 = .ok (.invokevirtual 93, 3) := by decide +kernel
theorem d_Law_825 : decode m_Law.2.1 825 = .ok (.aload_n 2, 1) := by decide +kernel
theorem d_Law_826 : decode m_Law.2.1 826 = .ok (.aload_n 0, 1) := by decide +kernel
theorem d_Law_827 : decode m_Law.2.1 827 = .ok (.iload_n 3, 1) := by decide +kernel
theorem d_Law_828 : decode m_Law.2.1 828 = .ok (.iconst 1, 1) := by decide +kernel
theorem d_Law_829 : decode m_Law.2.1 829 = .ok (.iadd, 1) := by decide +kernel
theorem d_Law_830 : decode m_Law.2.1 830 = .ok (.iaload, 1) := by decide +kernel
theorem d_Law_831 : decode m_Law.2.1 831 = .ok (.aload_n 0, 1) := by decide +kernel
theorem d_Law_832 : decode m_Law.2.1 832 = .ok (.iload_n 3, 1) := by decide +kernel
theorem d_Law_833 : decode m_Law.2.1 833 = .ok (.iconst 2, 1) := by decide +kernel
theorem d_Law_834 : decode m_Law.2.1 834 = .ok (.iadd, 1) := by decide +kernel
theorem d_Law_835 : decode m_Law.2.1 835 = .ok (.iaload, 1) := by decide +kernel
theorem d_Law_836 : decode m_Law.2.1 836 = .ok (.aload_n 0, 1) := by decide +kernel
theorem d_Law_837 : decode m_Law.2.1 837 = .ok (.iload_n 3, 1) := by decide +kernel
theorem d_Law_838 : decode m_Law.2.1 838 = .ok (.iconst 3, 1) := by decide +kernel
theorem d_Law_839 : decode m_Law.2.1 839 = .ok (.iadd, 1) := by decide +kernel
theorem d_Law_840 : decode m_Law.2.1 840 = .ok (.iaload, 1) := by decide +kernel
theorem d_Law_841 : decode m_Law.2.1 841 = .ok (.invokevirtual 97, 3) := by decide +kernel
theorem d_Law_844 : decode m_Law.2.1 844 = .ok (.if_icmp .eq 708, 3) := by decide +kernel
theorem d_Law_847 : decode m_Law.2.1 847 = .ok (.iconst 0, 1) := by decide +kernel
theorem d_Law_848 : decode m_Law.2.1 848 = .ok (.ireturn, 1) := by decide +kernel
theorem d_Law_849 : decode m_Law.2.1 849 = .ok (.aload_n 1, 1) := by decide +kernel
theorem d_Law_850 : decode m_Law.2.1 850 = .ok (.aload_n 0, 1) := by decide +kernel
theorem d_Law_851 : decode m_Law.2.1 851 = .ok (.iload_n 3, 1) := by decide +kernel
theorem d_Law_852 : decode m_Law.2.1 852 = .ok (.iconst 1, 1) := by decide +kernel
theorem d_Law_853 : decode m_Law.2.1 853 = .ok (.iadd, 1) := by decide +kernel
theorem d_Law_854 : decode m_Law.2.1 854 = .ok (.iaload, 1) := by decide +kernel
theorem d_Law_855 : decode m_Law.2.1 855 = .ok (.aload_n 0, 1) := by decide +kernel
theorem d_Law_856 : decode m_Law.2.1 856 = .ok (.iload_n 3, 1) := by decide +kernel
theorem d_Law_857 : decode m_Law.2.1 857 = .ok (.iconst 2, 1) := by decide +kernel
theorem d_Law_858 : decode m_Law.2.1 858 = .ok (.iadd, 1) := by decide +kernel
theorem d_Law_859 : decode m_Law.2.1 859 = .ok (.iaload, 1) := by decide +kernel
theorem d_Law_860 : decode m_Law.2.1 860 = .ok (.aload_n 0, 1) := by decide +kernel
theorem d_Law_861 : decode m_Law.2.1 861 = .ok (.iload_n 3, 1) := by decide +kernel
theorem d_Law_862 : decode m_Law.2.1 862 = .ok (.iconst 3, 1) := by decide +kernel
theorem d_Law_863 : decode m_Law.2.1 863 = .ok (.iadd, 1) := by decide +kernel
theorem d_Law_864 : decode m_Law.2.1 864 = .ok (.iaload, 1) := by decide +kernel
theorem d_Law_865 : decode m_Law.2.1 865 = .ok (.invokevirtual 98, 3) := by decide +kernel
theorem d_Law_868 : decode m_Law.2.1 868 = .ok (.aload_n 2, 1) := by decide +kernel
theorem d_Law_869 : decode m_Law.2.1 869 = .ok (.aload_n 0, 1) := by decide +kernel
theorem d_Law_870 : decode m_Law.2.1 870 = .ok (.iload_n 3, 1) := by decide +kernel
theorem d_Law_871 : decode m_Law.2.1 871 = .ok (.iconst 1, 1) := by decide +kernel
theorem d_Law_872 : decode m_Law.2.1 872 = .ok (.iadd, 1) := by decide +kernel
theorem d_Law_873 : decode m_Law.2.1 873 = .ok (.iaload, 1) := by decide +kernel
theorem d_Law_874 : decode m_Law.2.1 874 = .ok (.aload_n 0, 1) := by decide +kernel
theorem d_Law_875 : decode m_Law.2.1 875 = .ok (.iload_n 3, 1) := by decide +kernel
theorem d_Law_876 : decode m_Law.2.1 876 = .ok (.iconst 2, 1) := by decide +kernel
theorem d_Law_877 : decode m_Law.2.1 877 = .ok (.iadd, 1) := by decide +kernel
theorem d_Law_878 : decode m_Law.2.1 878 = .ok (.iaload, 1) := by decide +kernel
theorem d_Law_879 : decode m_Law.2.1 879 = .ok (.aload_n 0, 1) := by decide +kernel
theorem d_Law_880 : decode m_Law.2.1 880 = .ok (.iload_n 3, 1) := by decide +kernel
theorem d_Law_881 : decode m_Law.2.1 881 = .ok (.iconst 3, 1) := by decide +kernel
theorem d_Law_882 : decode m_Law.2.1 882 = .ok (.iadd, 1) := by decide +kernel
theorem d_Law_883 : decode m_Law.2.1 883 = .ok (.iaload, 1) := by decide +kernel
theorem d_Law_884 : decode m_Law.2.1 884 = .ok (.invokevirtual 101, 3) := by decide +kernel
theorem d_Law_887 : decode m_Law.2.1 887 = .ok (.if_icmp .eq 665, 3) := by decide +kernel
theorem d_Law_890 : decode m_Law.2.1 890 = .ok (.iconst 0, 1) := by decide +kernel
theorem d_Law_891 : decode m_Law.2.1 891 = .ok (.ireturn, 1) := by decide +kernel
theorem d_Law_892 : decode m_Law.2.1 892 = .ok (.aload_n 1, 1) := by decide +kernel
theorem d_Law_893 : decode m_Law.2.1 893 = .ok (.aload_n 0, 1) := by decide +kernel
theorem d_Law_894 : decode m_Law.2.1 894 = .ok (.iload_n 3, 1) := by decide +kernel
theorem d_Law_895 : decode m_Law.2.1 895 = .ok (.iconst 1, 1) := by decide +kernel
theorem d_Law_896 : decode m_Law.2.1 896 = .ok (.iadd, 1) := by decide +kernel
theorem d_Law_897 : decode m_Law.2.1 897 = .ok (.iaload, 1) := by decide +kernel
theorem d_Law_898 : decode m_Law.2.1 898 = .ok (.aload_n 0, 1) := by decide +kernel
theorem d_Law_899 : decode m_Law.2.1 899 = .ok (.iload_n 3, 1) := by decide +kernel
theorem d_Law_900 : decode m_Law.2.1 900 = .ok (.iconst 2, 1) := by decide +kernel
theorem d_Law_901 : decode m_Law.2.1 901 = .ok (.iadd, 1) := by decide +kernel
theorem d_Law_902 : decode m_Law.2.1 902 = .ok (.iaload, 1) := by decide +kernel
theorem d_Law_903 : decode m_Law.2.1 903 = .ok (.aload_n 0, 1) := by decide +kernel
theorem d_Law_904 : decode m_Law.2.1 904 = .ok (.iload_n 3, 1) := by decide +kernel
theorem d_Law_905 : decode m_Law.2.1 905 = .ok (.iconst 3, 1) := by decide +kernel
theorem d_Law_906 : decode m_Law.2.1 906 = .ok (.iadd, 1) := by decide +kernel
theorem d_Law_907 : decode m_Law.2.1 907 = .ok (.iaload, 1) := by decide +kernel
theorem d_Law_908 : decode m_Law.2.1 908 = .ok (.invokevirtual 102, 3) := by decide +kernel
theorem d_Law_911 : decode m_Law.2.1 911 = .ok (.aload_n 2, 1) := by decide +kernel
theorem d_Law_912 : decode m_Law.2.1 912 = .ok (.aload_n 0, 1) := by decide +kernel
theorem d_Law_913 : decode m_Law.2.1 913 = .ok (.iload_n 3, 1) := by decide +kernel
theorem d_Law_914 : decode m_Law.2.1 914 = .ok (.iconst 1, 1) := by decide +kernel
theorem d_Law_915 : decode m_Law.2.1 915 = .ok (.iadd, 1) := by decide +kernel
theorem d_Law_916 : decode m_Law.2.1 916 = .ok (.iaload, 1) := by decide +kernel
theorem d_Law_917 : decode m_Law.2.1 917 = .ok (.aload_n 0, 1) := by decide +kernel
theorem d_Law_918 : decode m_Law.2.1 918 = .ok (.iload_n 3, 1) := by decide +kernel
theorem d_Law_919 : decode m_Law.2.1 919 = .ok (.iconst 2, 1) := by decide +kernel
theorem d_Law_920 : decode m_Law.2.1 920 = .ok (.iadd, 1) := by decide +kernel
theorem d_Law_921 : decode m_Law.2.1 921 = .ok (.iaload, 1) := by decide +kernel
theorem d_Law_922 : decode m_Law.2.1 922 = .ok (.aload_n 0, 1) := by decide +kernel
theorem d_Law_923 : decode m_Law.2.1 923 = .ok (.iload_n 3, 1) := by decide +kernel
theorem d_Law_924 : decode m_Law.2.1 924 = .ok (.iconst 3, 1) := by decide +kernel
theorem d_Law_925 : decode m_Law.2.1 925 = .ok (.iadd, 1) := by decide +kernel
theorem d_Law_926 : decode m_Law.2.1 926 = .ok (.iaload, 1) := by decide +kernel
theorem d_Law_927 : decode m_Law.2.1 927 = .ok (.invokevirtual 105, 3) := by decide +kernel
theorem d_Law_930 : decode m_Law.2.1 930 = .ok (.if_icmp .eq 622, 3) := by decide +kernel
theorem d_Law_933 : decode m_Law.2.1 933 = .ok (.iconst 0, 1) := by decide +kernel
theorem d_Law_934 : decode m_Law.2.1 934 = .ok (.ireturn, 1) := by decide +kernel
theorem d_Law_935 : decode m_Law.2.1 935 = .ok (.aload_n 1, 1) := by decide +kernel
theorem d_Law_936 : decode m_Law.2.1 936 = .ok (.aload_n 0, 1) := by decide +kernel
theorem d_Law_937 : decode m_Law.2.1 937 = .ok (.iload_n 3, 1) := by decide +kernel
theorem d_Law_938 : decode m_Law.2.1 938 = .ok (.iconst 1, 1) := by decide +kernel
theorem d_Law_939 : decode m_Law.2.1 939 = .ok (.iadd, 1) := by decide +kernel
theorem d_Law_940 : decode m_Law.2.1 940 = .ok (.iaload, 1) := by decide +kernel
theorem d_Law_941 : decode m_Law.2.1 941 = .ok (.aload_n 0, 1) := by decide +kernel
theorem d_Law_942 : decode m_Law.2.1 942 = .ok (.iload_n 3, 1) := by decide +kernel
theorem d_Law_943 : decode m_Law.2.1 943 = .ok (.iconst 2, 1) := by decide +kernel
theorem d_Law_944 : decode m_Law.2.1 944 = .ok (.iadd, 1) := by decide +kernel
theorem d_Law_945 : decode m_Law.2.1 945 = .ok (.iaload, 1) := by decide +kernel
theorem d_Law_946 : decode m_Law.2.1 946 = .ok (.aload_n 0, 1) := by decide +kernel
theorem d_Law_947 : decode m_Law.2.1 947 = .ok (.iload_n 3, 1) := by decide +kernel
theorem d_Law_948 : decode m_Law.2.1 948 = .ok (.iconst 3, 1) := by decide +kernel
theorem d_Law_949 : decode m_Law.2.1 949 = .ok (.iadd, 1) := by decide +kernel
theorem d_Law_950 : decode m_Law.2.1 950 = .ok (.iaload, 1) := by decide +kernel
theorem d_Law_951 : decode m_Law.2.1 951 = .ok (.invokevirtual 106, 3) := by decide +kernel
theorem d_Law_954 : decode m_Law.2.1 954 = .ok (.aload_n 2, 1) := by decide +kernel
theorem d_Law_955 : decode m_Law.2.1 955 = .ok (.aload_n 0, 1) := by decide +kernel
theorem d_Law_956 : decode m_Law.2.1 956 = .ok (.iload_n 3, 1) := by decide +kernel
theorem d_Law_957 : decode m_Law.2.1 957 = .ok (.iconst 1, 1) := by decide +kernel
theorem d_Law_958 : decode m_Law.2.1 958 = .ok (.iadd, 1) := by decide +kernel
theorem d_Law_959 : decode m_Law.2.1 959 = .ok (.iaload, 1) := by decide +kernel
theorem d_Law_960 : decode m_Law.2.1 960 = .ok (.aload_n 0, 1) := by decide +kernel
theorem d_Law_961 : decode m_Law.2.1 961 = .ok (.iload_n 3, 1) := by decide +kernel
theorem d_Law_962 : decode m_Law.2.1 962 = .ok (.iconst 2, 1) := by decide +kernel
theorem d_Law_963 : decode m_Law.2.1 963 = .ok (.iadd, 1) := by decide +kernel
theorem d_Law_964 : decode m_Law.2.1 964 = .ok (.iaload, 1) := by decide +kernel
theorem d_Law_965 : decode m_Law.2.1 965 = .ok (.aload_n 0, 1) := by decide +kernel
theorem d_Law_966 : decode m_Law.2.1 966 = .ok (.iload_n 3, 1) := by decide +kernel
theorem d_Law_967 : decode m_Law.2.1 967 = .ok (.iconst 3, 1) := by decide +kernel
theorem d_Law_968 : decode m_Law.2.1 968 = .ok (.iadd, 1) := by decide +kernel
theorem d_Law_969 : decode m_Law.2.1 969 = .ok (.iaload, 1) := by decide +kernel
theorem d_Law_970 : decode m_Law.2.1 970 = .ok (.invokevirtual 109, 3) := by decide +kernel
theorem d_Law_973 : decode m_Law.2.1 973 = .ok (.if_icmp .eq 579, 3) := by decide +kernel
theorem d_Law_976 : decode m_Law.2.1 976 = .ok (.iconst 0, 1) := by decide +kernel
theorem d_Law_977 : decode m_Law.2.1 977 = .ok (.ireturn, 1) := by decide +kernel
theorem d_Law_978 : decode m_Law.2.1 978 = .ok (.aload_n 1, 1) := by decide +kernel
theorem d_Law_979 : decode m_Law.2.1 979 = .ok (.aload_n 0, 1) := by decide +kernel
theorem d_Law_980 : decode m_Law.2.1 980 = .ok (.iload_n 3, 1) := by decide +kernel
theorem d_Law_981 : decode m_Law.2.1 981 = .ok (.iconst 1, 1) := by decide +kernel
theorem d_Law_982 : decode m_Law.2.1 982 = .ok (.iadd, 1) := by decide +kernel
theorem d_Law_983 : decode m_Law.2.1 983 = .ok (.iaload, 1) := by decide +kernel
theorem d_Law_984 : decode m_Law.2.1 984 = .ok (.aload_n 0, 1) := by decide +kernel
theorem d_Law_985 : decode m_Law.2.1 985 = .ok (.iload_n 3, 1) := by decide +kernel
theorem d_Law_986 : decode m_Law.2.1 986 = .ok (.iconst 2, 1) := by decide +kernel
theorem d_Law_987 : decode m_Law.2.1 987 = .ok (.iadd, 1) := by decide +kernel
theorem d_Law_988 : decode m_Law.2.1 988 = .ok (.iaload, 1) := by decide +kernel
theorem d_Law_989 : decode m_Law.2.1 989 = .ok (.aload_n 0, 1) := by decide +kernel
theorem d_Law_990 : decode m_Law.2.1 990 = .ok (.iload_n 3, 1) := by decide +kernel
theorem d_Law_991 : decode m_Law.2.1 991 = .ok (.iconst 3, 1) := by decide +kernel
theorem d_Law_992 : decode m_Law.2.1 992 = .ok (.iadd, 1) := by decide +kernel
theorem d_Law_993 : decode m_Law.2.1 993 = .ok (.iaload, 1) := by decide +kernel
theorem d_Law_994 : decode m_Law.2.1 994 = .ok (.aload_n 0, 1) := by decide +kernel
theorem d_Law_995 : decode m_Law.2.1 995 = .ok (.iload_n 3, 1) := by decide +kernel
theorem d_Law_996 : decode m_Law.2.1 996 = .ok (.iconst 4, 1) := by decide +kernel
theorem d_Law_997 : decode m_Law.2.1 997 = .ok (.iadd, 1) := by decide +kernel
theorem d_Law_998 : decode m_Law.2.1 998 = .ok (.iaload, 1) := by decide +kernel
theorem d_Law_999 : decode m_Law.2.1 999 = .ok (.aload_n 0, 1) := by decide +kernel
theorem d_Law_1000 : decode m_Law.2.1 1000 = .ok (.iload_n 3, 1) := by decide +kernel
theorem d_Law_1001 : decode m_Law.2.1 1001 = .ok (.iconst 5, 1) := by decide +kernel
theorem d_Law_1002 : decode m_Law.2.1 1002 = .ok (.iadd, 1) := by decide +kernel
theorem d_Law_1003 : decode m_Law.2.1 1003 = .ok (.iaload, 1) := by decide +kernel
theorem d_Law_1004 : decode m_Law.2.1 1004 = .ok (.invokevirtual 110, 3) := by decide +kernel
theorem d_Law_1007 : decode m_Law.2.1 1007 = .ok (.aload_n 2, 1) := by decide +kernel
theorem d_Law_1008 : decode m_Law.2.1 1008 = .ok (.aload_n 0, 1) := by decide +kernel
theorem d_Law_1009 : decode m_Law.2.1 1009 = .ok (.iload_n 3, 1) := by decide +kernel
theorem d_Law_1010 : decode m_Law.2.1 1010 = .ok (.iconst 1, 1) := by decide +kernel
theorem d_Law_1011 : decode m_Law.2.1 1011 = .ok (.iadd, 1) := by decide +kernel
theorem d_Law_1012 : decode m_Law.2.1 1012 = .ok (.iaload, 1) := by decide +kernel
theorem d_Law_1013 : decode m_Law.2.1 1013 = .ok (.aload_n 0, 1) := by decide +kernel
theorem d_Law_1014 : decode m_Law.2.1 1014 = .ok (.iload_n 3, 1) := by decide +kernel
theorem d_Law_1015 : decode m_Law.2.1 1015 = .ok (.iconst 2, 1) := by decide +kernel
theorem d_Law_1016 : decode m_Law.2.1 1016 = .ok (.iadd, 1) := by decide +kernel
theorem d_Law_1017 : decode m_Law.2.1 1017 = .ok (.iaload, 1) := by decide +kernel
theorem d_Law_1018 : decode m_Law.2.1 1018 = .ok (.aload_n 0, 1) := by decide +kernel
theorem d_Law_1019 : decode m_Law.2.1 1019 = .ok (.iload_n 3, 1) := by decide +kernel
theorem d_Law_1020 : decode m_Law.2.1 1020 = .ok (.iconst 3, 1) := by decide +kernel
theorem d_Law_1021 : decode m_Law.2.1 1021 = .ok (.iadd, 1) := by decide +kernel
theorem d_Law_1022 : decode m_Law.2.1 1022 = .ok (.iaload, 1) := by decide +kernel
theorem d_Law_1023 : decode m_Law.2.1 1023 = .ok (.aload_n 0, 1) := by decide +kernel
theorem d_Law_1024 : decode m_Law.2.1 1024 = .ok (.iload_n 3, 1) := by decide +kernel
theorem d_Law_1025 : decode m_Law.2.1 1025 = .ok (.iconst 4, 1) := by decide +kernel
theorem d_Law_1026 : decode m_Law.2.1 1026 = .ok (.iadd, 1) := by decide +kernel
theorem d_Law_1027 : decode m_Law.2.1 1027 = .ok (.iaload, 1) := by decide +kernel
theorem d_Law_1028 : decode m_Law.2.1 1028 = .ok (.aload_n 0, 1) := by decide +kernel
theorem d_Law_1029 : decode m_Law.2.1 1029 = .ok (.iload_n 3, 1) := by decide +kernel
theorem d_Law_1030 : decode m_Law.2.1 1030 = .ok (.iconst 5, 1) := by decide +kernel
theorem d_Law_1031 : decode m_Law.2.1 1031 = .ok (.iadd, 1) := by decide +kernel
theorem d_Law_1032 : decode m_Law.2.1 1032 = .ok (.iaload, 1) := by decide +kernel
theorem d_Law_1033 : decode m_Law.2.1 1033 = .ok (.invokevirtual 114, 3) := by decide +kernel
theorem d_Law_1036 : decode m_Law.2.1 1036 = .ok (.lcmp, 1) := by decide +kernel
theorem d_Law_1037 : decode m_Law.2.1 1037 = .ok (.ifCond .eq 515, 3) := by decide +kernel
theorem d_Law_1040 : decode m_Law.2.1 1040 = .ok (.iconst 0, 1) := by decide +kernel
theorem d_Law_1041 : decode m_Law.2.1 1041 = .ok (.ireturn, 1) := by decide +kernel
theorem d_Law_1042 : decode m_Law.2.1 1042 = .ok (.aload_n 1, 1) := by decide +kernel
theorem d_Law_1043 : decode m_Law.2.1 1043 = .ok (.aload_n 0, 1) := by decide +kernel
theorem d_Law_1044 : decode m_Law.2.1 1044 = .ok (.iload_n 3, 1) := by decide +kernel
theorem d_Law_1045 : decode m_Law.2.1 1045 = .ok (.iconst 1, 1) := by decide +kernel
theorem d_Law_1046 : decode m_Law.2.1 1046 = .ok (.iadd, 1) := by decide +kernel
theorem d_Law_1047 : decode m_Law.2.1 1047 = .ok (.iaload, 1) := by decide +kernel
theorem d_Law_1048 : decode m_Law.2.1 1048 = .ok (.aload_n 0, 1) := by decide +kernel
theorem d_Law_1049 : decode m_Law.2.1 1049 = .ok (.iload_n 3, 1) := by decide +kernel
theorem d_Law_1050 : decode m_Law.2.1 1050 = .ok (.iconst 2, 1) := by decide +kernel
theorem d_Law_1051 : decode m_Law.2.1 1051 = .ok (.iadd, 1) := by decide +kernel
theorem d_Law_1052 : decode m_Law.2.1 1052 = .ok (.iaload, 1) := by decide +kernel
theorem d_Law_1053 : decode m_Law.2.1 1053 = .ok (.aload_n 0, 1) := by decide +kernel
theorem d_Law_1054 : decode m_Law.2.1 1054 = .ok (.iload_n 3, 1) := by decide +kernel
theorem d_Law_1055 : decode m_Law.2.1 1055 = .ok (.iconst 3, 1) := by decide +kernel
theorem d_Law_1056 : decode m_Law.2.1 1056 = .ok (.iadd, 1) := by decide +kernel
theorem d_Law_1057 : decode m_Law.2.1 1057 = .ok (.iaload, 1) := by decide +kernel
theorem d_Law_1058 : decode m_Law.2.1 1058 = .ok (.aload_n 0, 1) := by decide +kernel
theorem d_Law_1059 : decode m_Law.2.1 1059 = .ok (.iload_n 3, 1) := by decide +kernel
theorem d_Law_1060 : decode m_Law.2.1 1060 = .ok (.iconst 4, 1) := by decide +kernel
theorem d_Law_1061 : decode m_Law.2.1 1061 = .ok (.iadd, 1) := by decide +kernel
theorem d_Law_1062 : decode m_Law.2.1 1062 = .ok (.iaload, 1) := by decide +kernel
theorem d_Law_1063 : decode m_Law.2.1 1063 = .ok (.aload_n 0, 1) := by decide +kernel
theorem d_Law_1064 : decode m_Law.2.1 1064 = .ok (.iload_n 3, 1) := by decide +kernel
theorem d_Law_1065 : decode m_Law.2.1 1065 = .ok (.iconst 5, 1) := by decide +kernel
theorem d_Law_1066 : decode m_Law.2.1 1066 = .ok (.iadd, 1) := by decide +kernel
theorem d_Law_1067 : decode m_Law.2.1 1067 = .ok (.iaload, 1) := by decide +kernel
theorem d_Law_1068 : decode m_Law.2.1 1068 = .ok (.invokevirtual 115, 3) := by decide +kernel
theorem d_Law_1071 : decode m_Law.2.1 1071 = .ok (.aload_n 2, 1) := by decide +kernel
theorem d_Law_1072 : decode m_Law.2.1 1072 = .ok (.aload_n 0, 1) := by decide +kernel
theorem d_Law_1073 : decode m_Law.2.1 1073 = .ok (.iload_n 3, 1) := by decide +kernel
theorem d_Law_1074 : decode m_Law.2.1 1074 = .ok (.iconst 1, 1) := by decide +kernel
theorem d_Law_1075 : decode m_Law.2.1 1075 = .ok (.iadd, 1) := by decide +kernel
theorem d_Law_1076 : decode m_Law.2.1 1076 = .ok (.iaload, 1) := by decide +kernel
theorem d_Law_1077 : decode m_Law.2.1 1077 = .ok (.aload_n 0, 1) := by decide +kernel
theorem d_Law_1078 : decode m_Law.2.1 1078 = .ok (.iload_n 3, 1) := by decide +kernel
theorem d_Law_1079 : decode m_Law.2.1 1079 = .ok (.iconst 2, 1) := by decide +kernel
theorem d_Law_1080 : decode m_Law.2.1 1080 = .ok (.iadd, 1) := by decide +kernel
theorem d_Law_1081 : decode m_Law.2.1 1081 = .ok (.iaload, 1) := by decide +kernel
theorem d_Law_1082 : decode m_Law.2.1 1082 = .ok (.aload_n 0, 1) := by decide +kernel
theorem d_Law_1083 : decode m_Law.2.1 1083 = .ok (.iload_n 3, 1) := by decide +kernel
theorem d_Law_1084 : decode m_Law.2.1 1084 = .ok (.iconst 3, 1) := by decide +kernel
theorem d_Law_1085 : decode m_Law.2.1 1085 = .ok (.iadd, 1) := by decide +kernel
theorem d_Law_1086 : decode m_Law.2.1 1086 = .ok (.iaload, 1) := by decide +kernel
theorem d_Law_1087 : decode m_Law.2.1 1087 = .ok (.aload_n 0, 1) := by decide +kernel
theorem d_Law_1088 : decode m_Law.2.1 1088 = .ok (.iload_n 3, 1) := by decide +kernel
theorem d_Law_1089 : decode m_Law.2.1 1089 = .ok (.iconst 4, 1) := by decide +kernel
theorem d_Law_1090 : decode m_Law.2.1 1090 = .ok (.iadd, 1) := by decide +kernel
theorem d_Law_1091 : decode m_Law.2.1 1091 = .ok (.iaload, 1) := by decide +kernel
theorem d_Law_1092 : decode m_Law.2.1 1092 = .ok (.aload_n 0, 1) := by decide +kernel
theorem d_Law_1093 : decode m_Law.2.1 1093 = .ok (.iload_n 3, 1) := by decide +kernel
theorem d_Law_1094 : decode m_Law.2.1 1094 = .ok (.iconst 5, 1) := by decide +kernel
theorem d_Law_1095 : decode m_Law.2.1 1095 = .ok (.iadd, 1) := by decide +kernel
theorem d_Law_1096 : decode m_Law.2.1 1096 = .ok (.iaload, 1) := by decide +kernel
theorem d_Law_1097 : decode m_Law.2.1 1097 = .ok (.invokevirtual 118, 3) := by decide +kernel
theorem d_Law_1100 : decode m_Law.2.1 1100 = .ok (.if_icmp .eq 452, 3) := by decide +kernel
theorem d_Law_1103 : decode m_Law.2.1 1103 = .ok (.iconst 0, 1) := by decide +kernel
theorem d_Law_1104 : decode m_Law.2.1 1104 = .ok (.ireturn, 1) := by decide +kernel
theorem d_Law_1105 : decode m_Law.2.1 1105 = .ok (.aload_n 1, 1) := by decide +kernel
theorem d_Law_1106 : decode m_Law.2.1 1106 = .ok (.aload_n 0, 1) := by decide +kernel
theorem d_Law_1107 : decode m_Law.2.1 1107 = .ok (.iload_n 3, 1) := by decide +kernel
theorem d_Law_1108 : decode m_Law.2.1 1108 = .ok (.iconst 1, 1) := by decide +kernel
theorem d_Law_1109 : decode m_Law.2.1 1109 = .ok (.iadd, 1) := by decide +kernel
theorem d_Law_1110 : decode m_Law.2.1 1110 = .ok (.iaload, 1) := by decide +kernel
theorem d_Law_1111 : decode m_Law.2.1 1111 = .ok (.aload_n 0, 1) := by decide +kernel
theorem d_Law_1112 : decode m_Law.2.1 1112 = .ok (.iload_n 3, 1) := by decide +kernel
theorem d_Law_1113 : decode m_Law.2.1 1113 = .ok (.iconst 2, 1) := by decide +kernel
theorem d_Law_1114 : decode m_Law.2.1 1114 = .ok (.iadd, 1) := by decide +kernel
theorem d_Law_1115 : decode m_Law.2.1 1115 = .ok (.iaload, 1) := by decide +kernel
theorem d_Law_1116 : decode m_Law.2.1 1116 = .ok (.invokevirtual 119, 3) := by decide +kernel
theorem d_Law_1119 : decode m_Law.2.1 1119 = .ok (.aload_n 2, 1) := by decide +kernel
theorem d_Law_1120 : decode m_Law.2.1 1120 = .ok (.aload_n 0, 1) := by decide +kernel
theorem d_Law_1121 : decode m_Law.2.1 1121 = .ok (.iload_n 3, 1) := by decide +kernel
theorem d_Law_1122 : decode m_Law.2.1 1122 = .ok (.iconst 1, 1) := by decide +kernel
theorem d_Law_1123 : decode m_Law.2.1 1123 = .ok (.iadd, 1) := by decide +kernel
theorem d_Law_1124 : decode m_Law.2.1 1124 = .ok (.iaload, 1) := by decide +kernel
theorem d_Law_1125 : decode m_Law.2.1 1125 = .ok (.aload_n 0, 1) := by decide +kernel
theorem d_Law_1126 : decode m_Law.2.1 1126 = .ok (.iload_n 3, 1) := by decide +kernel
theorem d_Law_1127 : decode m_Law.2.1 1127 = .ok (.iconst 2, 1) := by decide +kernel
theorem d_Law_1128 : decode m_Law.2.1 1128 = .ok (.iadd, 1) := by decide +kernel
theorem d_Law_1129 : decode m_Law.2.1 1129 = .ok (.iaload, 1) := by decide +kernel
theorem d_Law_1130 : decode m_Law.2.1 1130 = .ok (.invokevirtual 122, 3) := by decide +kernel
theorem d_Law_1133 : decode m_Law.2.1 1133 = .ok (.if_icmp .eq 419, 3) := by decide +kernel
theorem d_Law_1136 : decode m_Law.2.1 1136 = .ok (.iconst 0, 1) := by decide +kernel
theorem d_Law_1137 : decode m_Law.2.1 1137 = .ok (.ireturn, 1) := by decide +kernel
theorem d_Law_1138 : decode m_Law.2.1 1138 = .ok (.aload_n 1, 1) := by decide +kernel
theorem d_Law_1139 : decode m_Law.2.1 1139 = .ok (.aload_n 0, 1) := by decide +kernel
theorem d_Law_1140 : decode m_Law.2.1 1140 = .ok (.iload_n 3, 1) := by decide +kernel
theorem d_Law_1141 : decode m_Law.2.1 1141 = .ok (.iconst 1, 1) := by decide +kernel
theorem d_Law_1142 : decode m_Law.2.1 1142 = .ok (.iadd, 1) := by decide +kernel
theorem d_Law_1143 : decode m_Law.2.1 1143 = .ok (.iaload, 1) := by decide +kernel
theorem d_Law_1144 : decode m_Law.2.1 1144 = .ok (.aload_n 0, 1) := by decide +kernel
theorem d_Law_1145 : decode m_Law.2.1 1145 = .ok (.iload_n 3, 1) := by decide +kernel
theorem d_Law_1146 : decode m_Law.2.1 1146 = .ok (.iconst 2, 1) := by decide +kernel
theorem d_Law_1147 : decode m_Law.2.1 1147 = .ok (.iadd, 1) := by decide +kernel
theorem d_Law_1148 : decode m_Law.2.1 1148 = .ok (.iaload, 1) := by decide +kernel
theorem d_Law_1149 : decode m_Law.2.1 1149 = .ok (.aload_n 0, 1) := by decide +kernel
theorem d_Law_1150 : decode m_Law.2.1 1150 = .ok (.iload_n 3, 1) := by decide +kernel
theorem d_Law_1151 : decode m_Law.2.1 1151 = .ok (.iconst 3, 1) := by decide +kernel
theorem d_Law_1152 : decode m_Law.2.1 1152 = .ok (.iadd, 1) := by decide +kernel
theorem d_Law_1153 : decode m_Law.2.1 1153 = .ok (.iaload, 1) := by decide +kernel
theorem d_Law_1154 : decode m_Law.2.1 1154 = .ok (.invokevirtual 123, 3) := by decide +kernel
theorem d_Law_1157 : decode m_Law.2.1 1157 = .ok (.aload_n 2, 1) := by decide +kernel
theorem d_Law_1158 : decode m_Law.2.1 1158 = .ok (.aload_n 0, 1) := by decide +kernel
theorem d_Law_1159 : decode m_Law.2.1 1159 = .ok (.iload_n 3, 1) := by decide +kernel
theorem d_Law_1160 : decode m_Law.2.1 1160 = .ok (.iconst 1, 1) := by decide +kernel
theorem d_Law_1161 : decode m_Law.2.1 1161 = .ok (.iadd, 1) := by decide +kernel
theorem d_Law_1162 : decode m_Law.2.1 1162 = .ok (.iaload, 1) := by decide +kernel
theorem d_Law_1163 : decode m_Law.2.1 1163 = .ok (.aload_n 0, 1) := by decide +kernel
theorem d_Law_1164 : decode m_Law.2.1 1164 = .ok (.iload_n 3, 1) := by decide +kernel
theorem d_Law_1165 : decode m_Law.2.1 1165 = .ok (.iconst 2, 1) := by decide +kernel
theorem d_Law_1166 : decode m_Law.2.1 1166 = .ok (.iadd, 1) := by decide +kernel
theorem d_Law_1167 : decode m_Law.2.1 1167 = .ok (.iaload, 1) := by decide +kernel
theorem d_Law_1168 : decode m_Law.2.1 1168 = .ok (.aload_n 0, 1) := by decide +kernel
theorem d_Law_1169 : decode m_Law.2.1 1169 = .ok (.iload_n 3, 1) := by decide +kernel
theorem d_Law_1170 : decode m_Law.2.1 1170 = .ok (.iconst 3, 1) := by decide +kernel
theorem d_Law_1171 : decode m_Law.2.1 1171 = .ok (.iadd, 1) := by decide +kernel
theorem d_Law_1172 : decode m_Law.2.1 1172 = .ok (.iaload, 1) := by decide +kernel
theorem d_Law_1173 : decode m_Law.2.1 1173 = .ok (.invokevirtual 127, 3) := by decide +kernel
theorem d_Law_1176 : decode m_Law.2.1 1176 = .ok (.lcmp, 1) := by decide +kernel
theorem d_Law_1177 : decode m_Law.2.1 1177 = .ok (.ifCond .eq 375, 3) := by decide +kernel
theorem d_Law_1180 : decode m_Law.2.1 1180 = .ok (.iconst 0, 1) := by decide +kernel
theorem d_Law_1181 : decode m_Law.2.1 1181 = .ok (.ireturn, 1) := by decide +kernel
theorem d_Law_1182 : decode m_Law.2.1 1182 = .ok (.aload_n 1, 1) := by decide +kernel
theorem d_Law_1183 : decode m_Law.2.1 1183 = .ok (.aload_n 0, 1) := by decide +kernel
theorem d_Law_1184 : decode m_Law.2.1 1184 = .ok (.iload_n 3, 1) := by decide +kernel
theorem d_Law_1185 : decode m_Law.2.1 1185 = .ok (.iconst 1, 1) := by decide +kernel
theorem d_Law_1186 : decode m_Law.2.1 1186 = .ok (.iadd, 1) := by decide +kernel
theorem d_Law_1187 : decode m_Law.2.1 1187 = .ok (.iaload, 1) := by decide +kernel
theorem d_Law_1188 : decode m_Law.2.1 1188 = .ok (.aload_n 0, 1) := by decide +kernel
theorem d_Law_1189 : decode m_Law.2.1 1189 = .ok (.iload_n 3, 1) := by decide +kernel
theorem d_Law_1190 : decode m_Law.2.1 1190 = .ok (.iconst 2, 1) := by decide +kernel
theorem d_Law_1191 : decode m_Law.2.1 1191 = .ok (.iadd, 1) := by decide +kernel
theorem d_Law_1192 : decode m_Law.2.1 1192 = .ok (.iaload, 1) := by decide +kernel
theorem d_Law_1193 : decode m_Law.2.1 1193 = .ok (.invokevirtual 128, 3) := by decide +kernel
theorem d_Law_1196 : decode m_Law.2.1 1196 = .ok (.aload_n 2, 1) := by decide +kernel
theorem d_Law_1197 : decode m_Law.2.1 1197 = .ok (.aload_n 0, 1) := by decide +kernel
theorem d_Law_1198 : decode m_Law.2.1 1198 = .ok (.iload_n 3, 1) := by decide +kernel
theorem d_Law_1199 : decode m_Law.2.1 1199 = .ok (.iconst 1, 1) := by decide +kernel
theorem d_Law_1200 : decode m_Law.2.1 1200 = .ok (.iadd, 1) := by decide +kernel
theorem d_Law_1201 : decode m_Law.2.1 1201 = .ok (.iaload, 1) := by decide +kernel
theorem d_Law_1202 : decode m_Law.2.1 1202 = .ok (.aload_n 0, 1) := by decide +kernel
theorem d_Law_1203 : decode m_Law.2.1 1203 = .ok (.iload_n 3, 1) := by decide +kernel
theorem d_Law_1204 : decode m_Law.2.1 1204 = .ok (.iconst 2, 1) := by decide +kernel
theorem d_Law_1205 : decode m_Law.2.1 1205 = .ok (.iadd, 1) := by decide +kernel
theorem d_Law_1206 : decode m_Law.2.1 1206 = .ok (.iaload, 1) := by decide +kernel
theorem d_Law_1207 : decode m_Law.2.1 1207 = .ok (.invokevirtual 131, 3) := by decide +kernel
theorem d_Law_1210 : decode m_Law.2.1 1210 = .ok (.if_icmp .eq 342, 3) := by decide +kernel
theorem d_Law_1213 : decode m_Law.2.1 1213 = .ok (.iconst 0, 1) := by decide +kernel
theorem d_Law_1214 : decode m_Law.2.1 1214 = .ok (.ireturn, 1) := by decide +kernel
theorem d_Law_1215 : decode m_Law.2.1 1215 = .ok (.aload_n 1, 1) := by decide +kernel
theorem d_Law_1216 : decode m_Law.2.1 1216 = .ok (.aload_n 0, 1) := by decide +kernel
theorem d_Law_1217 : decode m_Law.2.1 1217 = .ok (.iload_n 3, 1) := by decide +kernel
theorem d_Law_1218 : decode m_Law.2.1 1218 = .ok (.iconst 1, 1) := by decide +kernel
theorem d_Law_1219 : decode m_Law.2.1 1219 = .ok (.iadd, 1) := by decide +kernel
theorem d_Law_1220 : decode m_Law.2.1 1220 = .ok (.iaload, 1) := by decide +kernel
theorem d_Law_1221 : decode m_Law.2.1 1221 = .ok (.aload_n 0, 1) := by decide +kernel
theorem d_Law_1222 : decode m_Law.2.1 1222 = .ok (.iload_n 3, 1) := by decide +kernel
theorem d_Law_1223 : decode m_Law.2.1 1223 = .ok (.iconst 2, 1) := by decide +kernel
theorem d_Law_1224 : decode m_Law.2.1 1224 = .ok (.iadd, 1) := by decide +kernel
theorem d_Law_1225 : decode m_Law.2.1 1225 = .ok (.iaload, 1) := by decide +kernel
theorem d_Law_1226 : decode m_Law.2.1 1226 = .ok (.aload_n 0, 1) := by decide +kernel
theorem d_Law_1227 : decode m_Law.2.1 1227 = .ok (.iload_n 3, 1) := by decide +kernel
theorem d_Law_1228 : decode m_Law.2.1 1228 = .ok (.iconst 3, 1) := by decide +kernel
theorem d_Law_1229 : decode m_Law.2.1 1229 = .ok (.iadd, 1) := by decide +kernel
theorem d_Law_1230 : decode m_Law.2.1 1230 = .ok (.iaload, 1) := by decide +kernel
theorem d_Law_1231 : decode m_Law.2.1 1231 = .ok (.aload_n 0, 1) := by decide +kernel
theorem d_Law_1232 : decode m_Law.2.1 1232 = .ok (.iload_n 3, 1) := by decide +kernel
theorem d_Law_1233 : decode m_Law.2.1 1233 = .ok (.iconst 4, 1) := by decide +kernel
theorem d_Law_1234 : decode m_Law.2.1 1234 = .ok (.iadd, 1) := by decide +kernel
theorem d_Law_1235 : decode m_Law.2.1 1235 = .ok (.iaload, 1) := by decide +kernel
theorem d_Law_1236 : decode m_Law.2.1 1236 = .ok (.invokevirtual 132, 3) := by decide +kernel
theorem d_Law_1239 : decode m_Law.2.1 1239 = .ok (.aload_n 2, 1) := by decide +kernel
theorem d_Law_1240 : decode m_Law.2.1 1240 = .ok (.aload_n 0, 1) := by decide +kernel
theorem d_Law_1241 : decode m_Law.2.1 1241 = .ok (.iload_n 3, 1) := by decide +kernel
theorem d_Law_1242 : decode m_Law.2.1 1242 = .ok (.iconst 1, 1) := by decide +kernel
theorem d_Law_1243 : decode m_Law.2.1 1243 = .ok (.iadd, 1) := by decide +kernel
theorem d_Law_1244 : decode m_Law.2.1 1244 = .ok (.iaload, 1) := by decide +kernel
theorem d_Law_1245 : decode m_Law.2.1 1245 = .ok (.aload_n 0, 1) := by decide +kernel
theorem d_Law_1246 : decode m_Law.2.1 1246 = .ok (.iload_n 3, 1) := by decide +kernel
theorem d_Law_1247 : decode m_Law.2.1 1247 = .ok (.iconst 2, 1) := by decide +kernel
theorem d_Law_1248 : decode m_Law.2.1 1248 = .ok (.iadd, 1) := by decide +kernel
theorem d_Law_1249 : decode m_Law.2.1 1249 = .ok (.iaload, 1) := by decide +kernel
theorem d_Law_1250 : decode m_Law.2.1 1250 = .ok (.aload_n 0, 1) := by decide +kernel
theorem d_Law_1251 : decode m_Law.2.1 1251 = .ok (.iload_n 3, 1) := by decide +kernel
theorem d_Law_1252 : decode m_Law.2.1 1252 = .ok (.iconst 3, 1) := by decide +kernel
theorem d_Law_1253 : decode m_Law.2.1 1253 = .ok (.iadd, 1) := by decide +kernel
theorem d_Law_1254 : decode m_Law.2.1 1254 = .ok (.iaload, 1) := by decide +kernel
theorem d_Law_1255 : decode m_Law.2.1 1255 = .ok (.aload_n 0, 1) := by decide +kernel
theorem d_Law_1256 : decode m_Law.2.1 1256 = .ok (.iload_n 3, 1) := by decide +kernel
theorem d_Law_1257 : decode m_Law.2.1 1257 = .ok (.iconst 4, 1) := by decide +kernel
theorem d_Law_1258 : decode m_Law.2.1 1258 = .ok (.iadd, 1) := by decide +kernel
theorem d_Law_1259 : decode m_Law.2.1 1259 = .ok (.iaload, 1) := by decide +kernel
theorem d_Law_1260 : decode m_Law.2.1 1260 = .ok (.invokevirtual 136, 3) := by decide +kernel
theorem d_Law_1263 : decode m_Law.2.1 1263 = .ok (.if_icmp .eq 289, 3) := by decide +kernel
theorem d_Law_1266 : decode m_Law.2.1 1266 = .ok (.iconst 0, 1) := by decide +kernel
theorem d_Law_1267 : decode m_Law.2.1 1267 = .ok (.ireturn, 1) := by decide +kernel
theorem d_Law_1268 : decode m_Law.2.1 1268 = .ok (.aload_n 1, 1) := by decide +kernel
theorem d_Law_1269 : decode m_Law.2.1 1269 = .ok (.aload_n 0, 1) := by decide +kernel
theorem d_Law_1270 : decode m_Law.2.1 1270 = .ok (.iload_n 3, 1) := by decide +kernel
theorem d_Law_1271 : decode m_Law.2.1 1271 = .ok (.iconst 1, 1) := by decide +kernel
theorem d_Law_1272 : decode m_Law.2.1 1272 = .ok (.iadd, 1) := by decide +kernel
theorem d_Law_1273 : decode m_Law.2.1 1273 = .ok (.iaload, 1) := by decide +kernel
theorem d_Law_1274 : decode m_Law.2.1 1274 = .ok (.invokevirtual 137, 3) := by decide +kernel
theorem d_Law_1277 : decode m_Law.2.1 1277 = .ok (.aload_n 2, 1) := by decide +kernel
theorem d_Law_1278 : decode m_Law.2.1 1278 = .ok (.aload_n 0, 1) := by decide +kernel
theorem d_Law_1279 : decode m_Law.2.1 1279 = .ok (.iload_n 3, 1) := by decide +kernel
theorem d_Law_1280 : decode m_Law.2.1 1280 = .ok (.iconst 1, 1) := by decide +kernel
theorem d_Law_1281 : decode m_Law.2.1 1281 = .ok (.iadd, 1) := by decide +kernel
theorem d_Law_1282 : decode m_Law.2.1 1282 = .ok (.iaload, 1) := by decide +kernel
theorem d_Law_1283 : decode m_Law.2.1 1283 = .ok (.invokevirtual 140, 3) := by decide +kernel
theorem d_Law_1286 : decode m_Law.2.1 1286 = .ok (.if_icmp .eq 266, 3) := by decide +kernel
theorem d_Law_1289 : decode m_Law.2.1 1289 = .ok (.iconst 0, 1) := by decide +kernel
theorem d_Law_1290 : decode m_Law.2.1 1290 = .ok (.ireturn, 1) := by decide +kernel
theorem d_Law_1291 : decode m_Law.2.1 1291 = .ok (.aload_n 1, 1) := by decide +kernel
theorem d_Law_1292 : decode m_Law.2.1 1292 = .ok (.aload_n 0, 1) := by decide +kernel
theorem d_Law_1293 : decode m_Law.2.1 1293 = .ok (.iload_n 3, 1) := by decide +kernel
theorem d_Law_1294 : decode m_Law.2.1 1294 = .ok (.iconst 1, 1) := by decide +kernel
theorem d_Law_1295 : decode m_Law.2.1 1295 = .ok (.iadd, 1) := by decide +kernel
theorem d_Law_1296 : decode m_Law.2.1 1296 = .ok (.iaload, 1) := by decide +kernel
theorem d_Law_1297 : decode m_Law.2.1 1297 = .ok (.aload_n 0, 1) := by decide +kernel
theorem d_Law_1298 : decode m_Law.2.1 1298 = .ok (.iload_n 3, 1) := by decide +kernel
theorem d_Law_1299 : decode m_Law.2.1 1299 = .ok (.iconst 2, 1) := by decide +kernel
theorem d_Law_1300 : decode m_Law.2.1 1300 = .ok (.iadd, 1) := by decide +kernel
theorem d_Law_1301 : decode m_Law.2.1 1301 = .ok (.iaload, 1) := by decide +kernel
theorem d_Law_1302 : decode m_Law.2.1 1302 = .ok (.invokevirtual 141, 3) := by decide +kernel
theorem d_Law_1305 : decode m_Law.2.1 1305 = .ok (.aload_n 2, 1) := by decide +kernel
theorem d_Law_1306 : decode m_Law.2.1 1306 = .ok (.aload_n 0, 1) := by decide +kernel
theorem d_Law_1307 : decode m_Law.2.1 1307 = .ok (.iload_n 3, 1) := by decide +kernel
theorem d_Law_1308 : decode m_Law.2.1 1308 = .ok (.iconst 1, 1) := by decide +kernel
theorem d_Law_1309 : decode m_Law.2.1 1309 = .ok (.iadd, 1) := by decide +kernel
theorem d_Law_1310 : decode m_Law.2.1 1310 = .ok (.iaload, 1) := by decide +kernel
theorem d_Law_1311 : decode m_Law.2.1 1311 = .ok (.aload_n 0, 1) := by decide +kernel
theorem d_Law_1312 : decode m_Law.2.1 1312 = .ok (.iload_n 3, 1) := by decide +kernel
theorem d_Law_1313 : decode m_Law.2.1 1313 = .ok (.iconst 2, 1) := by decide +kernel
theorem d_Law_1314 : decode m_Law.2.1 1314 = .ok (.iadd, 1) := by decide +kernel
theorem d_Law_1315 : decode m_Law.2.1 1315 = .ok (.iaload, 1) := by decide +kernel
theorem d_Law_1316 : decode m_Law.2.1 1316 = .ok (.invokevirtual 144, 3) := by decide +kernel
theorem d_Law_1319 : decode m_Law.2.1 1319 = .ok (.if_icmp .eq 233, 3) := by decide +kernel
theorem d_Law_1322 : decode m_Law.2.1 1322 = .ok (.iconst 0, 1) := by decide +kernel
theorem d_Law_1323 : decode m_Law.2.1 1323 = .ok (.ireturn, 1) := by decide +kernel
theorem d_Law_1324 : decode m_Law.2.1 1324 = .ok (.aload_n 1, 1) := by decide +kernel
theorem d_Law_1325 : decode m_Law.2.1 1325 = .ok (.aload_n 0, 1) := by decide +kernel
theorem d_Law_1326 : decode m_Law.2.1 1326 = .ok (.iload_n 3, 1) := by decide +kernel
theorem d_Law_1327 : decode m_Law.2.1 1327 = .ok (.iconst 1, 1) := by decide +kernel
theorem d_Law_1328 : decode m_Law.2.1 1328 = .ok (.iadd, 1) := by decide +kernel
theorem d_Law_1329 : decode m_Law.2.1 1329 = .ok (.iaload, 1) := by decide +kernel
theorem d_Law_1330 : decode m_Law.2.1 1330 = .ok (.aload_n 0, 1) := by decide +kernel
theorem d_Law_1331 : decode m_Law.2.1 1331 = .ok (.iload_n 3, 1) := by decide +kernel
theorem d_Law_1332 : decode m_Law.2.1 1332 = .ok (.iconst 2, 1) := by decide +kernel
theorem d_Law_1333 : decode m_Law.2.1 1333 = .ok (.iadd, 1) := by decide +kernel
theorem d_Law_1334 : decode m_Law.2.1 1334 = .ok (.iaload, 1) := by decide +kernel
theorem d_Law_1335 : decode m_Law.2.1 1335 = .ok (.invokevirtual 145, 3) := by decide +kernel
theorem d_Law_1338 : decode m_Law.2.1 1338 = .ok (.aload_n 2, 1) := by decide +kernel
theorem d_Law_1339 : decode m_Law.2.1 1339 = .ok (.aload_n 0, 1) := by decide +kernel
theorem d_Law_1340 : decode m_Law.2.1 1340 = .ok (.iload_n 3, 1) := by decide +kernel
theorem d_Law_1341 : decode m_Law.2.1 1341 = .ok (.iconst 1, 1) := by decide +kernel
theorem d_Law_1342 : decode m_Law.2.1 1342 = .ok (.iadd, 1) := by decide +kernel
theorem d_Law_1343 : decode m_Law.2.1 1343 = .ok (.iaload, 1) := by decide +kernel
theorem d_Law_1344 : decode m_Law.2.1 1344 = .ok (.aload_n 0, 1) := by decide +kernel
theorem d_Law_1345 : decode m_Law.2.1 1345 = .ok (.iload_n 3, 1) := by decide +kernel
theorem d_Law_1346 : decode m_Law.2.1 1346 = .ok (.iconst 2, 1) := by decide +kernel
theorem d_Law_1347 : decode m_Law.2.1 1347 = .ok (.iadd, 1) := by decide +kernel
theorem d_Law_1348 : decode m_Law.2.1 1348 = .ok (.iaload, 1) := by decide +kernel
theorem d_Law_1349 : decode m_Law.2.1 1349 = .ok (.invokevirtual 148, 3) := by decide +kernel
theorem d_Law_1352 : decode m_Law.2.1 1352 = .ok (.if_icmp .eq 200, 3) := by decide +kernel
theorem d_Law_1355 : decode m_Law.2.1 1355 = .ok (.iconst 0, 1) := by decide +kernel
theorem d_Law_1356 : decode m_Law.2.1 1356 = .ok (.ireturn, 1) := by decide +kernel
theorem d_Law_1357 : decode m_Law.2.1 1357 = .ok (.aload_n 1, 1) := by decide +kernel
theorem d_Law_1358 : decode m_Law.2.1 1358 = .ok (.aload_n 0, 1) := by decide +kernel
theorem d_Law_1359 : decode m_Law.2.1 1359 = .ok (.iload_n 3, 1) := by decide +kernel
theorem d_Law_1360 : decode m_Law.2.1 1360 = .ok (.iconst 1, 1) := by decide +kernel
theorem d_Law_1361 : decode m_Law.2.1 1361 = .ok (.iadd, 1) := by decide +kernel
theorem d_Law_1362 : decode m_Law.2.1 1362 = .ok (.iaload, 1) := by decide +kernel
theorem d_Law_1363 : decode m_Law.2.1 1363 = .ok (.aload_n 0, 1) := by decide +kernel
theorem d_Law_1364 : decode m_Law.2.1 1364 = .ok (.iload_n 3, 1) := by decide +kernel
theorem d_Law_1365 : decode m_Law.2.1 1365 = .ok (.iconst 2, 1) := by decide +kernel
theorem d_Law_1366 : decode m_Law.2.1 1366 = .ok (.iadd, 1) := by decide +kernel
theorem d_Law_1367 : decode m_Law.2.1 1367 = .ok (.iaload, 1) := by decide +kernel
theorem d_Law_1368 : decode m_Law.2.1 1368 = .ok (.aload_n 0, 1) := by decide +kernel
theorem d_Law_1369 : decode m_Law.2.1 1369 = .ok (.iload_n 3, 1) := by decide +kernel
theorem d_Law_1370 : decode m_Law.2.1 1370 = .ok (.iconst 3, 1) := by decide +kernel
theorem d_Law_1371 : decode m_Law.2.1 1371 = .ok (.iadd, 1) := by decide +kernel
theorem d_Law_1372 : decode m_Law.2.1 1372 = .ok (.iaload, 1) := by decide +kernel
theorem d_Law_1373 : decode m_Law.2.1 1373 = .ok (.invokevirtual 149, 3) := by decide +kernel
theorem d_Law_1376 : decode m_Law.2.1 1376 = .ok (.aload_n 2, 1) := by decide +kernel
theorem d_Law_1377 : decode m_Law.2.1 1377 = .ok (.aload_n 0, 1) := by decide +kernel
theorem d_Law_1378 : decode m_Law.2.1 1378 = .ok (.iload_n 3, 1) := by decide +kernel
theorem d_Law_1379 : decode m_Law.2.1 1379 = .ok (.iconst 1, 1) := by decide +kernel
theorem d_Law_1380 : decode m_Law.2.1 1380 = .ok (.iadd, 1) := by decide +kernel
theorem d_Law_1381 : decode m_Law.2.1 1381 = .ok (.iaload, 1) := by decide +kernel
theorem d_Law_1382 : decode m_Law.2.1 1382 = .ok (.aload_n 0, 1) := by decide +kernel
theorem d_Law_1383 : decode m_Law.2.1 1383 = .ok (.iload_n 3, 1) := by decide +kernel
theorem d_Law_1384 : decode m_Law.2.1 1384 = .ok (.iconst 2, 1) := by decide +kernel
theorem d_Law_1385 : decode m_Law.2.1 1385 = .ok (.iadd, 1) := by decide +kernel
theorem d_Law_1386 : decode m_Law.2.1 1386 = .ok (.iaload, 1) := by decide +kernel
theorem d_Law_1387 : decode m_Law.2.1 1387 = .ok (.aload_n 0, 1) := by decide +kernel
theorem d_Law_1388 : decode m_Law.2.1 1388 = .ok (.iload_n 3, 1) := by decide +kernel
theorem d_Law_1389 : decode m_Law.2.1 1389 = .ok (.iconst 3, 1) := by decide +kernel
theorem d_Law_1390 : decode m_Law.2.1 1390 = .ok (.iadd, 1) := by decide +kernel
theorem d_Law_1391 : decode m_Law.2.1 1391 = .ok (.iaload, 1) := by decide +kernel
theorem d_Law_1392 : decode m_Law.2.1 1392 = .ok (.invokevirtual 152, 3) := by decide +kernel
theorem d_Law_1395 : decode m_Law.2.1 1395 = .ok (.if_icmp .eq 157, 3) := by decide +kernel
theorem d_Law_1398 : decode m_Law.2.1 1398 = .ok (.iconst 0, 1) := by decide +kernel
theorem d_Law_1399 : decode m_Law.2.1 1399 = .ok (.ireturn, 1) := by decide +kernel
theorem d_Law_1400 : decode m_Law.2.1 1400 = .ok (.aload_n 1, 1) := by decide +kernel
theorem d_Law_1401 : decode m_Law.2.1 1401 = .ok (.aload_n 0, 1) := by decide +kernel
theorem d_Law_1402 : decode m_Law.2.1 1402 = .ok (.iload_n 3, 1) := by decide +kernel
theorem d_Law_1403 : decode m_Law.2.1 1403 = .ok (.iconst 1, 1) := by decide +kernel
theorem d_Law_1404 : decode m_Law.2.1 1404 = .ok (.iadd, 1) := by decide +kernel
theorem d_Law_1405 : decode m_Law.2.1 1405 = .ok (.iaload, 1) := by decide +kernel
theorem d_Law_1406 : decode m_Law.2.1 1406 = .ok (.aload_n 0, 1) := by decide +kernel
theorem d_Law_1407 : decode m_Law.2.1 1407 = .ok (.iload_n 3, 1) := by decide +kernel
theorem d_Law_1408 : decode m_Law.2.1 1408 = .ok (.iconst 2, 1) := by decide +kernel
theorem d_Law_1409 : decode m_Law.2.1 1409 = .ok (.iadd, 1) := by decide +kernel
theorem d_Law_1410 : decode m_Law.2.1 1410 = .ok (.iaload, 1) := by decide +kernel
theorem d_Law_1411 : decode m_Law.2.1 1411 = .ok (.aload_n 0, 1) := by decide +kernel
theorem d_Law_1412 : decode m_Law.2.1 1412 = .ok (.iload_n 3, 1) := by decide +kernel
theorem d_Law_1413 : decode m_Law.2.1 1413 = .ok (.iconst 3, 1) := by decide +kernel
theorem d_Law_1414 : decode m_Law.2.1 1414 = .ok (.iadd, 1) := by decide +kernel
theorem d_Law_1415 : decode m_Law.2.1 1415 = .ok (.iaload, 1) := by decide +kernel
theorem d_Law_1416 : decode m_Law.2.1 1416 = .ok (.invokevirtual 153, 3) := by decide +kernel
theorem d_Law_1419 : decode m_Law.2.1 1419 = .ok (.aload_n 2, 1) := by decide +kernel
theorem d_Law_1420 : decode m_Law.2.1 1420 = .ok (.aload_n 0, 1) := by decide +kernel
theorem d_Law_1421 : decode m_Law.2.1 1421 = .ok (.iload_n 3, 1) := by decide +kernel
theorem d_Law_1422 : decode m_Law.2.1 1422 = .ok (.iconst 1, 1) := by decide +kernel
theorem d_Law_1423 : decode m_Law.2.1 1423 = .ok (.iadd, 1) := by decide +kernel
theorem d_Law_1424 : decode m_Law.2.1 1424 = .ok (.iaload, 1) := by decide +kernel
theorem d_Law_1425 : decode m_Law.2.1 1425 = .ok (.aload_n 0, 1) := by decide +kernel
theorem d_Law_1426 : decode m_Law.2.1 1426 = .ok (.iload_n 3, 1) := by decide +kernel
theorem d_Law_1427 : decode m_Law.2.1 1427 = .ok (.iconst 2, 1) := by decide +kernel
theorem d_Law_1428 : decode m_Law.2.1 1428 = .ok (.iadd, 1) := by decide +kernel
theorem d_Law_1429 : decode m_Law.2.1 1429 = .ok (.iaload, 1) := by decide +kernel
theorem d_Law_1430 : decode m_Law.2.1 1430 = .ok (.aload_n 0, 1) := by decide +kernel
theorem d_Law_1431 : decode m_Law.2.1 1431 = .ok (.iload_n 3, 1) := by decide +kernel
theorem d_Law_1432 : decode m_Law.2.1 1432 = .ok (.iconst 3, 1) := by decide +kernel
theorem d_Law_1433 : decode m_Law.2.1 1433 = .ok (.iadd, 1) := by decide +kernel
theorem d_Law_1434 : decode m_Law.2.1 1434 = .ok (.iaload, 1) := by decide +kernel
theorem d_Law_1435 : decode m_Law.2.1 1435 = .ok (.invokevirtual 156, 3) := by decide +kernel
theorem d_Law_1438 : decode m_Law.2.1 1438 = .ok (.if_icmp .eq 114, 3) := by decide +kernel
theorem d_Law_1441 : decode m_Law.2.1 1441 = .ok (.iconst 0, 1) := by decide +kernel
theorem d_Law_1442 : decode m_Law.2.1 1442 = .ok (.ireturn, 1) := by decide +kernel
theorem d_Law_1443 : decode m_Law.2.1 1443 = .ok (.aload_n 1, 1) := by decide +kernel
theorem d_Law_1444 : decode m_Law.2.1 1444 = .ok (.aload_n 0, 1) := by decide +kernel
theorem d_Law_1445 : decode m_Law.2.1 1445 = .ok (.iload_n 3, 1) := by decide +kernel
theorem d_Law_1446 : decode m_Law.2.1 1446 = .ok (.iconst 1, 1) := by decide +kernel
theorem d_Law_1447 : decode m_Law.2.1 1447 = .ok (.iadd, 1) := by decide +kernel
theorem d_Law_1448 : decode m_Law.2.1 1448 = .ok (.iaload, 1) := by decide +kernel
theorem d_Law_1449 : decode m_Law.2.1 1449 = .ok (.aload_n 0, 1) := by decide +kernel
theorem d_Law_1450 : decode m_Law.2.1 1450 = .ok (.iload_n 3, 1) := by decide +kernel
theorem d_Law_1451 : decode m_Law.2.1 1451 = .ok (.iconst 2, 1) := by decide +kernel
theorem d_Law_1452 : decode m_Law.2.1 1452 = .ok (.iadd, 1) := by decide +kernel
theorem d_Law_1453 : decode m_Law.2.1 1453 = .ok (.iaload, 1) := by decide +kernel
theorem d_Law_1454 : decode m_Law.2.1 1454 = .ok (.aload_n 0, 1) := by decide +kernel
theorem d_Law_1455 : decode m_Law.2.1 1455 = .ok (.iload_n 3, 1) := by decide +kernel
theorem d_Law_1456 : decode m_Law.2.1 1456 = .ok (.iconst 3, 1) := by decide +kernel
theorem d_Law_1457 : decode m_Law.2.1 1457 = .ok (.iadd, 1) := by decide +kernel
theorem d_Law_1458 : decode m_Law.2.1 1458 = .ok (.iaload, 1) := by decide +kernel
theorem d_Law_1459 : decode m_Law.2.1 1459 = .ok (.invokevirtual 157, 3) := by decide +kernel
theorem d_Law_1462 : decode m_Law.2.1 1462 = .ok (.aload_n 2, 1) := by decide +kernel
theorem d_Law_1463 : decode m_Law.2.1 1463 = .ok (.aload_n 0, 1) := by decide +kernel
theorem d_Law_1464 : decode m_Law.2.1 1464 = .ok (.iload_n 3, 1) := by decide +kernel
theorem d_Law_1465 : decode m_Law.2.1 1465 = .ok (.iconst 1, 1) := by decide +kernel
theorem d_Law_1466 : decode m_Law.2.1 1466 = .ok (.iadd, 1) := by decide +kernel
theorem d_Law_1467 : decode m_Law.2.1 1467 = .ok (.iaload, 1) := by decide +kernel
theorem d_Law_1468 : decode m_Law.2.1 1468 = .ok (.aload_n 0, 1) := by decide +kernel
theorem d_Law_1469 : decode m_Law.2.1 1469 = .ok (.iload_n 3, 1) := by decide +kernel
theorem d_Law_1470 : decode m_Law.2.1 1470 = .ok (.iconst 2, 1) := by decide +kernel
theorem d_Law_1471 : decode m_Law.2.1 1471 = .ok (.iadd, 1) := by decide +kernel
theorem d_Law_1472 : decode m_Law.2.1 1472 = .ok (.iaload, 1) := by decide +kernel
theorem d_Law_1473 : decode m_Law.2.1 1473 = .ok (.aload_n 0, 1) := by decide +kernel
theorem d_Law_1474 : decode m_Law.2.1 1474 = .ok (.iload_n 3, 1) := by decide +kernel
theorem d_Law_1475 : decode m_Law.2.1 1475 = .ok (.iconst 3, 1) := by decide +kernel
theorem d_Law_1476 : decode m_Law.2.1 1476 = .ok (.iadd, 1) := by decide +kernel
theorem d_Law_1477 : decode m_Law.2.1 1477 = .ok (.iaload, 1) := by decide +kernel
theorem d_Law_1478 : decode m_Law.2.1 1478 = .ok (.invokevirtual 160, 3) := by decide +kernel
theorem d_Law_1481 : decode m_Law.2.1 1481 = .ok (.if_icmp .eq 71, 3) := by decide +kernel
theorem d_Law_1484 : decode m_Law.2.1 1484 = .ok (.iconst 0, 1) := by decide +kernel
theorem d_Law_1485 : decode m_Law.2.1 1485 = .ok (.ireturn, 1) := by decide +kernel
theorem d_Law_1486 : decode m_Law.2.1 1486 = .ok (.aload_n 1, 1) := by decide +kernel
theorem d_Law_1487 : decode m_Law.2.1 1487 = .ok (.aload_n 0, 1) := by decide +kernel
theorem d_Law_1488 : decode m_Law.2.1 1488 = .ok (.iload_n 3, 1) := by decide +kernel
theorem d_Law_1489 : decode m_Law.2.1 1489 = .ok (.iconst 1, 1) := by decide +kernel
theorem d_Law_1490 : decode m_Law.2.1 1490 = .ok (.iadd, 1) := by decide +kernel
theorem d_Law_1491 : decode m_Law.2.1 1491 = .ok (.iaload, 1) := by decide +kernel
theorem d_Law_1492 : decode m_Law.2.1 1492 = .ok (.aload_n 0, 1) := by decide +kernel
theorem d_Law_1493 : decode m_Law.2.1 1493 = .ok (.iload_n 3, 1) := by decide +kernel
theorem d_Law_1494 : decode m_Law.2.1 1494 = .ok (.iconst 2, 1) := by decide +kernel
theorem d_Law_1495 : decode m_Law.2.1 1495 = .ok (.iadd, 1) := by decide +kernel
theorem d_Law_1496 : decode m_Law.2.1 1496 = .ok (.iaload, 1) := by decide +kernel
theorem d_Law_1497 : decode m_Law.2.1 1497 = .ok (.aload_n 0, 1) := by decide +kernel
theorem d_Law_1498 : decode m_Law.2.1 1498 = .ok (.iload_n 3, 1) := by decide +kernel
theorem d_Law_1499 : decode m_Law.2.1 1499 = .ok (.iconst 3, 1) := by decide +kernel
theorem d_Law_1500 : decode m_Law.2.1 1500 = .ok (.iadd, 1) := by decide +kernel
theorem d_Law_1501 : decode m_Law.2.1 1501 = .ok (.iaload, 1) := by decide +kernel
theorem d_Law_1502 : decode m_Law.2.1 1502 = .ok (.invokevirtual 161, 3) := by decide +kernel
theorem d_Law_1505 : decode m_Law.2.1 1505 = .ok (.aload_n 2, 1) := by decide +kernel
theorem d_Law_1506 : decode m_Law.2.1 1506 = .ok (.aload_n 0, 1) := by decide +kernel
theorem d_Law_1507 : decode m_Law.2.1 1507 = .ok (.iload_n 3, 1) := by decide +kernel
theorem d_Law_1508 : decode m_Law.2.1 1508 = .ok (.iconst 1, 1) := by decide +kernel
theorem d_Law_1509 : decode m_Law.2.1 1509 = .ok (.iadd, 1) := by decide +kernel
theorem d_Law_1510 : decode m_Law.2.1 1510 = .ok (.iaload, 1) := by decide +kernel
theorem d_Law_1511 : decode m_Law.2.1 1511 = .ok (.aload_n 0, 1) := by decide +kernel
theorem d_Law_1512 : decode m_Law.2.1 1512 = .ok (.iload_n 3, 1) := by decide +kernel
theorem d_Law_1513 : decode m_Law.2.1 1513 = .ok (.iconst 2, 1) := by decide +kernel
theorem d_Law_1514 : decode m_Law.2.1 1514 = .ok (.iadd, 1) := by decide +kernel
theorem d_Law_1515 : decode m_Law.2.1 1515 = .ok (.iaload, 1) := by decide +kernel
theorem d_Law_1516 : decode m_Law.2.1 1516 = .ok (.aload_n 0, 1) := by decide +kernel
theorem d_Law_1517 : decode m_Law.2.1 1517 = .ok (.iload_n 3, 1) := by decide +kernel
theorem d_Law_1518 : decode m_Law.2.1 1518 = .ok (.iconst 3, 1) := by decide +kernel
theorem d_Law_1519 : decode m_Law.2.1 1519 = .ok (.iadd, 1) := by decide +kernel
theorem d_Law_1520 : decode m_Law.2.1 1520 = .ok (.iaload, 1) := by decide +kernel
theorem d_Law_1521 : decode m_Law.2.1 1521 = .ok (.invokevirtual 164, 3) := by decide +kernel
theorem d_Law_1524 : decode m_Law.2.1 1524 = .ok (.if_icmp .eq 28, 3) := by decide +kernel
theorem d_Law_1527 : decode m_Law.2.1 1527 = .ok (.iconst 0, 1) := by decide +kernel
theorem d_Law_1528 : decode m_Law.2.1 1528 = .ok (.ireturn, 1) := by decide +kernel
theorem d_Law_1529 : decode m_Law.2.1 1529 = .ok (.aload_n 1, 1) := by decide +kernel
theorem d_Law_1530 : decode m_Law.2.1 1530 = .ok (.aload_n 0, 1) := by decide +kernel
theorem d_Law_1531 : decode m_Law.2.1 1531 = .ok (.iload_n 3, 1) := by decide +kernel
theorem d_Law_1532 : decode m_Law.2.1 1532 = .ok (.iconst 1, 1) := by decide +kernel
theorem d_Law_1533 : decode m_Law.2.1 1533 = .ok (.iadd, 1) := by decide +kernel
theorem d_Law_1534 : decode m_Law.2.1 1534 = .ok (.iaload, 1) := by decide +kernel
theorem d_Law_1535 : decode m_Law.2.1 1535 = .ok (.invokevirtual 165, 3) := by decide +kernel
theorem d_Law_1538 : decode m_Law.2.1 1538 = .ok (.aload_n 2, 1) := by decide +kernel
theorem d_Law_1539 : decode m_Law.2.1 1539 = .ok (.aload_n 0, 1) := by decide +kernel
theorem d_Law_1540 : decode m_Law.2.1 1540 = .ok (.iload_n 3, 1) := by decide +kernel
theorem d_Law_1541 : decode m_Law.2.1 1541 = .ok (.iconst 1, 1) := by decide +kernel
theorem d_Law_1542 : decode m_Law.2.1 1542 = .ok (.iadd, 1) := by decide +kernel
theorem d_Law_1543 : decode m_Law.2.1 1543 = .ok (.iaload, 1) := by decide +kernel
theorem d_Law_1544 : decode m_Law.2.1 1544 = .ok (.invokevirtual 168, 3) := by decide +kernel
theorem d_Law_1547 : decode m_Law.2.1 1547 = .ok (.if_icmp .eq 5, 3) := by decide +kernel
theorem d_Law_1550 : decode m_Law.2.1 1550 = .ok (.iconst 0, 1) := by decide +kernel
theorem d_Law_1551 : decode m_Law.2.1 1551 = .ok (.ireturn, 1) := by decide +kernel
theorem d_Law_1552 : decode m_Law.2.1 1552 = .ok (.iinc 3 6, 3) := by decide +kernel
theorem d_Law_1555 : decode m_Law.2.1 1555 = .ok (.goto (-1537), 3) := by decide +kernel
theorem d_Law_1558 : decode m_Law.2.1 1558 = .ok (.iconst 1, 1) := by decide +kernel
theorem d_Law_1559 : decode m_Law.2.1 1559 = .ok (.ireturn, 1) := by decide +kernel
theorem ok_S_init : MOK m_S_init 0 := ⟨tm_1 (List.mem_of_getElem? (i := 24) rfl), tm_1 (List.mem_of_getElem? (i := 1) rfl), by decide +kernel, by decide, by decide +kernel⟩
theorem io_S_init : Cond.instanceMethod m_S_init.1 ∈ lw_tbl := tm_1 (List.mem_of_getElem? (i := 23) rfl)
theorem ok_S_arrange : MOK m_S_arrange 2 := ⟨tm_4 (List.mem_of_getElem? (i := 65) rfl), tm_1 (List.mem_of_getElem? (i := 1) rfl), by decide +kernel, by decide, by decide +kernel⟩
theorem io_S_arrange : Cond.instanceMethod m_S_arrange.1 ∈ lw_tbl := tm_4 (List.mem_of_getElem? (i := 63) rfl)
theorem so_S_arrange : Cond.selects m_S_arrange.1.cls m_S_arrange.1 m_S_arrange.1 ∈ lw_tbl := tm_4 (List.mem_of_getElem? (i := 64) rfl)
theorem ok_S_at : MOK m_S_at 5 := ⟨tm_5 (List.mem_of_getElem? (i := 94) rfl), tm_1 (List.mem_of_getElem? (i := 1) rfl), by decide +kernel, by decide, by decide +kernel⟩
theorem io_S_at : Cond.instanceMethod m_S_at.1 ∈ lw_tbl := tm_5 (List.mem_of_getElem? (i := 92) rfl)
theorem so_S_at : Cond.selects m_S_at.1.cls m_S_at.1 m_S_at.1 ∈ lw_tbl := tm_5 (List.mem_of_getElem? (i := 93) rfl)
theorem ok_S_back : MOK m_S_back 1 := ⟨tm_2 (List.mem_of_getElem? (i := 61) rfl), tm_1 (List.mem_of_getElem? (i := 1) rfl), by decide +kernel, by decide, by decide +kernel⟩
theorem io_S_back : Cond.instanceMethod m_S_back.1 ∈ lw_tbl := tm_2 (List.mem_of_getElem? (i := 59) rfl)
theorem so_S_back : Cond.selects m_S_back.1.cls m_S_back.1 m_S_back.1 ∈ lw_tbl := tm_2 (List.mem_of_getElem? (i := 60) rfl)
theorem ok_S_best : MOK m_S_best 3 := ⟨tm_5 (List.mem_of_getElem? (i := 151) rfl), tm_1 (List.mem_of_getElem? (i := 1) rfl), by decide +kernel, by decide, by decide +kernel⟩
theorem io_S_best : Cond.instanceMethod m_S_best.1 ∈ lw_tbl := tm_5 (List.mem_of_getElem? (i := 149) rfl)
theorem so_S_best : Cond.selects m_S_best.1.cls m_S_best.1 m_S_best.1 ∈ lw_tbl := tm_5 (List.mem_of_getElem? (i := 150) rfl)
theorem ok_S_bestText : MOK m_S_bestText 3 := ⟨tm_5 (List.mem_of_getElem? (i := 155) rfl), tm_1 (List.mem_of_getElem? (i := 1) rfl), by decide +kernel, by decide, by decide +kernel⟩
theorem io_S_bestText : Cond.instanceMethod m_S_bestText.1 ∈ lw_tbl := tm_5 (List.mem_of_getElem? (i := 153) rfl)
theorem so_S_bestText : Cond.selects m_S_bestText.1.cls m_S_bestText.1 m_S_bestText.1 ∈ lw_tbl := tm_5 (List.mem_of_getElem? (i := 154) rfl)
theorem ok_S_box : MOK m_S_box 5 := ⟨tm_5 (List.mem_of_getElem? (i := 54) rfl), tm_1 (List.mem_of_getElem? (i := 1) rfl), by decide +kernel, by decide, by decide +kernel⟩
theorem io_S_box : Cond.instanceMethod m_S_box.1 ∈ lw_tbl := tm_5 (List.mem_of_getElem? (i := 52) rfl)
theorem so_S_box : Cond.selects m_S_box.1.cls m_S_box.1 m_S_box.1 ∈ lw_tbl := tm_5 (List.mem_of_getElem? (i := 53) rfl)
theorem ok_S_column : MOK m_S_column 2 := ⟨tm_5 (List.mem_of_getElem? (i := 106) rfl), tm_1 (List.mem_of_getElem? (i := 1) rfl), by decide +kernel, by decide, by decide +kernel⟩
theorem io_S_column : Cond.instanceMethod m_S_column.1 ∈ lw_tbl := tm_5 (List.mem_of_getElem? (i := 104) rfl)
theorem so_S_column : Cond.selects m_S_column.1.cls m_S_column.1 m_S_column.1 ∈ lw_tbl := tm_5 (List.mem_of_getElem? (i := 105) rfl)
theorem ok_S_count : MOK m_S_count 1 := ⟨tm_5 (List.mem_of_getElem? (i := 209) rfl), tm_1 (List.mem_of_getElem? (i := 1) rfl), by decide +kernel, by decide, by decide +kernel⟩
theorem io_S_count : Cond.instanceMethod m_S_count.1 ∈ lw_tbl := tm_5 (List.mem_of_getElem? (i := 207) rfl)
theorem so_S_count : Cond.selects m_S_count.1.cls m_S_count.1 m_S_count.1 ∈ lw_tbl := tm_5 (List.mem_of_getElem? (i := 208) rfl)
theorem ok_S_covered : MOK m_S_covered 3 := ⟨tm_5 (List.mem_of_getElem? (i := 110) rfl), tm_1 (List.mem_of_getElem? (i := 1) rfl), by decide +kernel, by decide, by decide +kernel⟩
theorem io_S_covered : Cond.instanceMethod m_S_covered.1 ∈ lw_tbl := tm_5 (List.mem_of_getElem? (i := 108) rfl)
theorem so_S_covered : Cond.selects m_S_covered.1.cls m_S_covered.1 m_S_covered.1 ∈ lw_tbl := tm_5 (List.mem_of_getElem? (i := 109) rfl)
theorem ok_S_exchange : MOK m_S_exchange 4 := ⟨tm_3 (List.mem_of_getElem? (i := 78) rfl), tm_1 (List.mem_of_getElem? (i := 1) rfl), by decide +kernel, by decide, by decide +kernel⟩
theorem io_S_exchange : Cond.instanceMethod m_S_exchange.1 ∈ lw_tbl := tm_3 (List.mem_of_getElem? (i := 76) rfl)
theorem so_S_exchange : Cond.selects m_S_exchange.1.cls m_S_exchange.1 m_S_exchange.1 ∈ lw_tbl := tm_3 (List.mem_of_getElem? (i := 77) rfl)
theorem ok_S_feed : MOK m_S_feed 5 := ⟨tm_2 (List.mem_of_getElem? (i := 53) rfl), tm_1 (List.mem_of_getElem? (i := 1) rfl), by decide +kernel, by decide, by decide +kernel⟩
theorem io_S_feed : Cond.instanceMethod m_S_feed.1 ∈ lw_tbl := tm_2 (List.mem_of_getElem? (i := 51) rfl)
theorem so_S_feed : Cond.selects m_S_feed.1.cls m_S_feed.1 m_S_feed.1 ∈ lw_tbl := tm_2 (List.mem_of_getElem? (i := 52) rfl)
theorem ok_S_gap : MOK m_S_gap 1 := ⟨tm_4 (List.mem_of_getElem? (i := 176) rfl), tm_1 (List.mem_of_getElem? (i := 1) rfl), by decide +kernel, by decide, by decide +kernel⟩
theorem io_S_gap : Cond.instanceMethod m_S_gap.1 ∈ lw_tbl := tm_4 (List.mem_of_getElem? (i := 174) rfl)
theorem so_S_gap : Cond.selects m_S_gap.1.cls m_S_gap.1 m_S_gap.1 ∈ lw_tbl := tm_4 (List.mem_of_getElem? (i := 175) rfl)
theorem ok_S_insert : MOK m_S_insert 3 := ⟨tm_3 (List.mem_of_getElem? (i := 237) rfl), tm_1 (List.mem_of_getElem? (i := 1) rfl), by decide +kernel, by decide, by decide +kernel⟩
theorem io_S_insert : Cond.instanceMethod m_S_insert.1 ∈ lw_tbl := tm_3 (List.mem_of_getElem? (i := 235) rfl)
theorem so_S_insert : Cond.selects m_S_insert.1.cls m_S_insert.1 m_S_insert.1 ∈ lw_tbl := tm_3 (List.mem_of_getElem? (i := 236) rfl)
theorem ok_S_inside : MOK m_S_inside 3 := ⟨tm_5 (List.mem_of_getElem? (i := 49) rfl), tm_1 (List.mem_of_getElem? (i := 1) rfl), by decide +kernel, by decide, by decide +kernel⟩
theorem io_S_inside : Cond.instanceMethod m_S_inside.1 ∈ lw_tbl := tm_5 (List.mem_of_getElem? (i := 47) rfl)
theorem so_S_inside : Cond.selects m_S_inside.1.cls m_S_inside.1 m_S_inside.1 ∈ lw_tbl := tm_5 (List.mem_of_getElem? (i := 48) rfl)
theorem ok_S_join : MOK m_S_join 2 := ⟨tm_3 (List.mem_of_getElem? (i := 177) rfl), tm_1 (List.mem_of_getElem? (i := 1) rfl), by decide +kernel, by decide, by decide +kernel⟩
theorem io_S_join : Cond.instanceMethod m_S_join.1 ∈ lw_tbl := tm_3 (List.mem_of_getElem? (i := 175) rfl)
theorem so_S_join : Cond.selects m_S_join.1.cls m_S_join.1 m_S_join.1 ∈ lw_tbl := tm_3 (List.mem_of_getElem? (i := 176) rfl)
theorem ok_S_joined : MOK m_S_joined 3 := ⟨tm_5 (List.mem_of_getElem? (i := 163) rfl), tm_1 (List.mem_of_getElem? (i := 1) rfl), by decide +kernel, by decide, by decide +kernel⟩
theorem io_S_joined : Cond.instanceMethod m_S_joined.1 ∈ lw_tbl := tm_5 (List.mem_of_getElem? (i := 161) rfl)
theorem so_S_joined : Cond.selects m_S_joined.1.cls m_S_joined.1 m_S_joined.1 ∈ lw_tbl := tm_5 (List.mem_of_getElem? (i := 162) rfl)
theorem ok_S_least : MOK m_S_least 2 := ⟨tm_5 (List.mem_of_getElem? (i := 137) rfl), tm_1 (List.mem_of_getElem? (i := 1) rfl), by decide +kernel, by decide, by decide +kernel⟩
theorem io_S_least : Cond.instanceMethod m_S_least.1 ∈ lw_tbl := tm_5 (List.mem_of_getElem? (i := 135) rfl)
theorem so_S_least : Cond.selects m_S_least.1.cls m_S_least.1 m_S_least.1 ∈ lw_tbl := tm_5 (List.mem_of_getElem? (i := 136) rfl)
theorem ok_S_letter : MOK m_S_letter 3 := ⟨tm_5 (List.mem_of_getElem? (i := 45) rfl), tm_1 (List.mem_of_getElem? (i := 1) rfl), by decide +kernel, by decide, by decide +kernel⟩
theorem io_S_letter : Cond.instanceMethod m_S_letter.1 ∈ lw_tbl := tm_5 (List.mem_of_getElem? (i := 43) rfl)
theorem so_S_letter : Cond.selects m_S_letter.1.cls m_S_letter.1 m_S_letter.1 ∈ lw_tbl := tm_5 (List.mem_of_getElem? (i := 44) rfl)
theorem ok_S_line : MOK m_S_line 2 := ⟨tm_4 (List.mem_of_getElem? (i := 211) rfl), tm_1 (List.mem_of_getElem? (i := 1) rfl), by decide +kernel, by decide, by decide +kernel⟩
theorem io_S_line : Cond.instanceMethod m_S_line.1 ∈ lw_tbl := tm_4 (List.mem_of_getElem? (i := 209) rfl)
theorem so_S_line : Cond.selects m_S_line.1.cls m_S_line.1 m_S_line.1 ∈ lw_tbl := tm_4 (List.mem_of_getElem? (i := 210) rfl)
theorem ok_S_mirror : MOK m_S_mirror 1 := ⟨tm_4 (List.mem_of_getElem? (i := 60) rfl), tm_1 (List.mem_of_getElem? (i := 1) rfl), by decide +kernel, by decide, by decide +kernel⟩
theorem io_S_mirror : Cond.instanceMethod m_S_mirror.1 ∈ lw_tbl := tm_4 (List.mem_of_getElem? (i := 58) rfl)
theorem so_S_mirror : Cond.selects m_S_mirror.1.cls m_S_mirror.1 m_S_mirror.1 ∈ lw_tbl := tm_4 (List.mem_of_getElem? (i := 59) rfl)
theorem ok_S_move : MOK m_S_move 3 := ⟨tm_4 (List.mem_of_getElem? (i := 52) rfl), tm_1 (List.mem_of_getElem? (i := 1) rfl), by decide +kernel, by decide, by decide +kernel⟩
theorem io_S_move : Cond.instanceMethod m_S_move.1 ∈ lw_tbl := tm_4 (List.mem_of_getElem? (i := 50) rfl)
theorem so_S_move : Cond.selects m_S_move.1.cls m_S_move.1 m_S_move.1 ∈ lw_tbl := tm_4 (List.mem_of_getElem? (i := 51) rfl)
theorem ok_S_part : MOK m_S_part 2 := ⟨tm_3 (List.mem_of_getElem? (i := 207) rfl), tm_1 (List.mem_of_getElem? (i := 1) rfl), by decide +kernel, by decide, by decide +kernel⟩
theorem io_S_part : Cond.instanceMethod m_S_part.1 ∈ lw_tbl := tm_3 (List.mem_of_getElem? (i := 205) rfl)
theorem so_S_part : Cond.selects m_S_part.1.cls m_S_part.1 m_S_part.1 ∈ lw_tbl := tm_3 (List.mem_of_getElem? (i := 206) rfl)
theorem ok_S_release : MOK m_S_release 3 := ⟨tm_4 (List.mem_of_getElem? (i := 48) rfl), tm_1 (List.mem_of_getElem? (i := 1) rfl), by decide +kernel, by decide, by decide +kernel⟩
theorem io_S_release : Cond.instanceMethod m_S_release.1 ∈ lw_tbl := tm_4 (List.mem_of_getElem? (i := 46) rfl)
theorem so_S_release : Cond.selects m_S_release.1.cls m_S_release.1 m_S_release.1 ∈ lw_tbl := tm_4 (List.mem_of_getElem? (i := 47) rfl)
theorem ok_S_same : MOK m_S_same 4 := ⟨tm_5 (List.mem_of_getElem? (i := 129) rfl), tm_1 (List.mem_of_getElem? (i := 1) rfl), by decide +kernel, by decide, by decide +kernel⟩
theorem io_S_same : Cond.instanceMethod m_S_same.1 ∈ lw_tbl := tm_5 (List.mem_of_getElem? (i := 127) rfl)
theorem so_S_same : Cond.selects m_S_same.1.cls m_S_same.1 m_S_same.1 ∈ lw_tbl := tm_5 (List.mem_of_getElem? (i := 128) rfl)
theorem ok_S_scale : MOK m_S_scale 3 := ⟨tm_5 (List.mem_of_getElem? (i := 19) rfl), tm_1 (List.mem_of_getElem? (i := 1) rfl), by decide +kernel, by decide, by decide +kernel⟩
theorem io_S_scale : Cond.instanceMethod m_S_scale.1 ∈ lw_tbl := tm_5 (List.mem_of_getElem? (i := 17) rfl)
theorem so_S_scale : Cond.selects m_S_scale.1.cls m_S_scale.1 m_S_scale.1 ∈ lw_tbl := tm_5 (List.mem_of_getElem? (i := 18) rfl)
theorem ok_S_side : MOK m_S_side 1 := ⟨tm_4 (List.mem_of_getElem? (i := 172) rfl), tm_1 (List.mem_of_getElem? (i := 1) rfl), by decide +kernel, by decide, by decide +kernel⟩
theorem io_S_side : Cond.instanceMethod m_S_side.1 ∈ lw_tbl := tm_4 (List.mem_of_getElem? (i := 170) rfl)
theorem so_S_side : Cond.selects m_S_side.1.cls m_S_side.1 m_S_side.1 ∈ lw_tbl := tm_4 (List.mem_of_getElem? (i := 171) rfl)
theorem ok_S_sign : MOK m_S_sign 2 := ⟨tm_4 (List.mem_of_getElem? (i := 184) rfl), tm_1 (List.mem_of_getElem? (i := 1) rfl), by decide +kernel, by decide, by decide +kernel⟩
theorem io_S_sign : Cond.instanceMethod m_S_sign.1 ∈ lw_tbl := tm_4 (List.mem_of_getElem? (i := 182) rfl)
theorem so_S_sign : Cond.selects m_S_sign.1.cls m_S_sign.1 m_S_sign.1 ∈ lw_tbl := tm_4 (List.mem_of_getElem? (i := 183) rfl)
theorem ok_S_smallest : MOK m_S_smallest 2 := ⟨tm_5 (List.mem_of_getElem? (i := 114) rfl), tm_1 (List.mem_of_getElem? (i := 1) rfl), by decide +kernel, by decide, by decide +kernel⟩
theorem io_S_smallest : Cond.instanceMethod m_S_smallest.1 ∈ lw_tbl := tm_5 (List.mem_of_getElem? (i := 112) rfl)
theorem so_S_smallest : Cond.selects m_S_smallest.1.cls m_S_smallest.1 m_S_smallest.1 ∈ lw_tbl := tm_5 (List.mem_of_getElem? (i := 113) rfl)
theorem ok_S_spell : MOK m_S_spell 3 := ⟨tm_5 (List.mem_of_getElem? (i := 167) rfl), tm_1 (List.mem_of_getElem? (i := 1) rfl), by decide +kernel, by decide, by decide +kernel⟩
theorem io_S_spell : Cond.instanceMethod m_S_spell.1 ∈ lw_tbl := tm_5 (List.mem_of_getElem? (i := 165) rfl)
theorem so_S_spell : Cond.selects m_S_spell.1.cls m_S_spell.1 m_S_spell.1 ∈ lw_tbl := tm_5 (List.mem_of_getElem? (i := 166) rfl)
theorem ok_S_square : MOK m_S_square 3 := ⟨tm_4 (List.mem_of_getElem? (i := 220) rfl), tm_1 (List.mem_of_getElem? (i := 1) rfl), by decide +kernel, by decide, by decide +kernel⟩
theorem io_S_square : Cond.instanceMethod m_S_square.1 ∈ lw_tbl := tm_4 (List.mem_of_getElem? (i := 218) rfl)
theorem so_S_square : Cond.selects m_S_square.1.cls m_S_square.1 m_S_square.1 ∈ lw_tbl := tm_4 (List.mem_of_getElem? (i := 219) rfl)
theorem ok_S_swap : MOK m_S_swap 4 := ⟨tm_3 (List.mem_of_getElem? (i := 224) rfl), tm_1 (List.mem_of_getElem? (i := 1) rfl), by decide +kernel, by decide, by decide +kernel⟩
theorem io_S_swap : Cond.instanceMethod m_S_swap.1 ∈ lw_tbl := tm_3 (List.mem_of_getElem? (i := 222) rfl)
theorem so_S_swap : Cond.selects m_S_swap.1.cls m_S_swap.1 m_S_swap.1 ∈ lw_tbl := tm_3 (List.mem_of_getElem? (i := 223) rfl)
theorem ok_S_text : MOK m_S_text 0 := ⟨tm_2 (List.mem_of_getElem? (i := 65) rfl), tm_1 (List.mem_of_getElem? (i := 1) rfl), by decide +kernel, by decide, by decide +kernel⟩
theorem io_S_text : Cond.instanceMethod m_S_text.1 ∈ lw_tbl := tm_2 (List.mem_of_getElem? (i := 63) rfl)
theorem so_S_text : Cond.selects m_S_text.1.cls m_S_text.1 m_S_text.1 ∈ lw_tbl := tm_2 (List.mem_of_getElem? (i := 64) rfl)
theorem ok_S_turn : MOK m_S_turn 2 := ⟨tm_3 (List.mem_of_getElem? (i := 161) rfl), tm_1 (List.mem_of_getElem? (i := 1) rfl), by decide +kernel, by decide, by decide +kernel⟩
theorem io_S_turn : Cond.instanceMethod m_S_turn.1 ∈ lw_tbl := tm_3 (List.mem_of_getElem? (i := 159) rfl)
theorem so_S_turn : Cond.selects m_S_turn.1.cls m_S_turn.1 m_S_turn.1 ∈ lw_tbl := tm_3 (List.mem_of_getElem? (i := 160) rfl)
theorem ok_S_undo : MOK m_S_undo 0 := ⟨tm_4 (List.mem_of_getElem? (i := 180) rfl), tm_1 (List.mem_of_getElem? (i := 1) rfl), by decide +kernel, by decide, by decide +kernel⟩
theorem io_S_undo : Cond.instanceMethod m_S_undo.1 ∈ lw_tbl := tm_4 (List.mem_of_getElem? (i := 178) rfl)
theorem so_S_undo : Cond.selects m_S_undo.1.cls m_S_undo.1 m_S_undo.1 ∈ lw_tbl := tm_4 (List.mem_of_getElem? (i := 179) rfl)
theorem ok_S_ways : MOK m_S_ways 2 := ⟨tm_5 (List.mem_of_getElem? (i := 142) rfl), tm_1 (List.mem_of_getElem? (i := 1) rfl), by decide +kernel, by decide, by decide +kernel⟩
theorem io_S_ways : Cond.instanceMethod m_S_ways.1 ∈ lw_tbl := tm_5 (List.mem_of_getElem? (i := 140) rfl)
theorem so_S_ways : Cond.selects m_S_ways.1.cls m_S_ways.1 m_S_ways.1 ∈ lw_tbl := tm_5 (List.mem_of_getElem? (i := 141) rfl)
theorem ok_M_init : MOK m_M_init 0 := ⟨tm_5 (List.mem_of_getElem? (i := 229) rfl), tm_1 (List.mem_of_getElem? (i := 9) rfl), by decide +kernel, by decide, by decide +kernel⟩
theorem io_M_init : Cond.instanceMethod m_M_init.1 ∈ lw_tbl := tm_5 (List.mem_of_getElem? (i := 228) rfl)
theorem ok_M_arrange : MOK m_M_arrange 2 := ⟨tm_8 (List.mem_of_getElem? (i := 10) rfl), tm_1 (List.mem_of_getElem? (i := 9) rfl), by decide +kernel, by decide, by decide +kernel⟩
theorem io_M_arrange : Cond.instanceMethod m_M_arrange.1 ∈ lw_tbl := tm_8 (List.mem_of_getElem? (i := 8) rfl)
theorem so_M_arrange : Cond.selects m_M_arrange.1.cls m_M_arrange.1 m_M_arrange.1 ∈ lw_tbl := tm_8 (List.mem_of_getElem? (i := 9) rfl)
theorem ok_M_at : MOK m_M_at 5 := ⟨tm_7 (List.mem_of_getElem? (i := 65) rfl), tm_1 (List.mem_of_getElem? (i := 9) rfl), by decide +kernel, by decide, by decide +kernel⟩
theorem io_M_at : Cond.instanceMethod m_M_at.1 ∈ lw_tbl := tm_7 (List.mem_of_getElem? (i := 63) rfl)
theorem so_M_at : Cond.selects m_M_at.1.cls m_M_at.1 m_M_at.1 ∈ lw_tbl := tm_7 (List.mem_of_getElem? (i := 64) rfl)
theorem ok_M_back : MOK m_M_back 1 := ⟨tm_8 (List.mem_of_getElem? (i := 114) rfl), tm_1 (List.mem_of_getElem? (i := 9) rfl), by decide +kernel, by decide, by decide +kernel⟩
theorem io_M_back : Cond.instanceMethod m_M_back.1 ∈ lw_tbl := tm_8 (List.mem_of_getElem? (i := 112) rfl)
theorem so_M_back : Cond.selects m_M_back.1.cls m_M_back.1 m_M_back.1 ∈ lw_tbl := tm_8 (List.mem_of_getElem? (i := 113) rfl)
theorem ok_M_best : MOK m_M_best 3 := ⟨tm_8 (List.mem_of_getElem? (i := 58) rfl), tm_1 (List.mem_of_getElem? (i := 9) rfl), by decide +kernel, by decide, by decide +kernel⟩
theorem io_M_best : Cond.instanceMethod m_M_best.1 ∈ lw_tbl := tm_8 (List.mem_of_getElem? (i := 56) rfl)
theorem so_M_best : Cond.selects m_M_best.1.cls m_M_best.1 m_M_best.1 ∈ lw_tbl := tm_8 (List.mem_of_getElem? (i := 57) rfl)
theorem ok_M_bestText : MOK m_M_bestText 3 := ⟨tm_8 (List.mem_of_getElem? (i := 62) rfl), tm_1 (List.mem_of_getElem? (i := 9) rfl), by decide +kernel, by decide, by decide +kernel⟩
theorem io_M_bestText : Cond.instanceMethod m_M_bestText.1 ∈ lw_tbl := tm_8 (List.mem_of_getElem? (i := 60) rfl)
theorem so_M_bestText : Cond.selects m_M_bestText.1.cls m_M_bestText.1 m_M_bestText.1 ∈ lw_tbl := tm_8 (List.mem_of_getElem? (i := 61) rfl)
theorem ok_M_box : MOK m_M_box 5 := ⟨tm_6 (List.mem_of_getElem? (i := 217) rfl), tm_1 (List.mem_of_getElem? (i := 9) rfl), by decide +kernel, by decide, by decide +kernel⟩
theorem io_M_box : Cond.instanceMethod m_M_box.1 ∈ lw_tbl := tm_6 (List.mem_of_getElem? (i := 215) rfl)
theorem so_M_box : Cond.selects m_M_box.1.cls m_M_box.1 m_M_box.1 ∈ lw_tbl := tm_6 (List.mem_of_getElem? (i := 216) rfl)
theorem ok_M_column : MOK m_M_column 2 := ⟨tm_7 (List.mem_of_getElem? (i := 73) rfl), tm_1 (List.mem_of_getElem? (i := 9) rfl), by decide +kernel, by decide, by decide +kernel⟩
theorem io_M_column : Cond.instanceMethod m_M_column.1 ∈ lw_tbl := tm_7 (List.mem_of_getElem? (i := 71) rfl)
theorem so_M_column : Cond.selects m_M_column.1.cls m_M_column.1 m_M_column.1 ∈ lw_tbl := tm_7 (List.mem_of_getElem? (i := 72) rfl)
theorem ok_M_count : MOK m_M_count 1 := ⟨tm_8 (List.mem_of_getElem? (i := 106) rfl), tm_1 (List.mem_of_getElem? (i := 9) rfl), by decide +kernel, by decide, by decide +kernel⟩
theorem io_M_count : Cond.instanceMethod m_M_count.1 ∈ lw_tbl := tm_8 (List.mem_of_getElem? (i := 104) rfl)
theorem so_M_count : Cond.selects m_M_count.1.cls m_M_count.1 m_M_count.1 ∈ lw_tbl := tm_8 (List.mem_of_getElem? (i := 105) rfl)
theorem ok_M_covered : MOK m_M_covered 3 := ⟨tm_7 (List.mem_of_getElem? (i := 81) rfl), tm_1 (List.mem_of_getElem? (i := 9) rfl), by decide +kernel, by decide, by decide +kernel⟩
theorem io_M_covered : Cond.instanceMethod m_M_covered.1 ∈ lw_tbl := tm_7 (List.mem_of_getElem? (i := 79) rfl)
theorem so_M_covered : Cond.selects m_M_covered.1.cls m_M_covered.1 m_M_covered.1 ∈ lw_tbl := tm_7 (List.mem_of_getElem? (i := 80) rfl)
theorem ok_M_exchange : MOK m_M_exchange 4 := ⟨tm_7 (List.mem_of_getElem? (i := 102) rfl), tm_1 (List.mem_of_getElem? (i := 9) rfl), by decide +kernel, by decide, by decide +kernel⟩
theorem io_M_exchange : Cond.instanceMethod m_M_exchange.1 ∈ lw_tbl := tm_7 (List.mem_of_getElem? (i := 100) rfl)
theorem so_M_exchange : Cond.selects m_M_exchange.1.cls m_M_exchange.1 m_M_exchange.1 ∈ lw_tbl := tm_7 (List.mem_of_getElem? (i := 101) rfl)
theorem ok_M_feed : MOK m_M_feed 5 := ⟨tm_8 (List.mem_of_getElem? (i := 110) rfl), tm_1 (List.mem_of_getElem? (i := 9) rfl), by decide +kernel, by decide, by decide +kernel⟩
theorem io_M_feed : Cond.instanceMethod m_M_feed.1 ∈ lw_tbl := tm_8 (List.mem_of_getElem? (i := 108) rfl)
theorem so_M_feed : Cond.selects m_M_feed.1.cls m_M_feed.1 m_M_feed.1 ∈ lw_tbl := tm_8 (List.mem_of_getElem? (i := 109) rfl)
theorem ok_M_gap : MOK m_M_gap 1 := ⟨tm_7 (List.mem_of_getElem? (i := 202) rfl), tm_1 (List.mem_of_getElem? (i := 9) rfl), by decide +kernel, by decide, by decide +kernel⟩
theorem io_M_gap : Cond.instanceMethod m_M_gap.1 ∈ lw_tbl := tm_7 (List.mem_of_getElem? (i := 200) rfl)
theorem so_M_gap : Cond.selects m_M_gap.1.cls m_M_gap.1 m_M_gap.1 ∈ lw_tbl := tm_7 (List.mem_of_getElem? (i := 201) rfl)
theorem ok_M_insert : MOK m_M_insert 3 := ⟨tm_7 (List.mem_of_getElem? (i := 172) rfl), tm_1 (List.mem_of_getElem? (i := 9) rfl), by decide +kernel, by decide, by decide +kernel⟩
theorem io_M_insert : Cond.instanceMethod m_M_insert.1 ∈ lw_tbl := tm_7 (List.mem_of_getElem? (i := 170) rfl)
theorem so_M_insert : Cond.selects m_M_insert.1.cls m_M_insert.1 m_M_insert.1 ∈ lw_tbl := tm_7 (List.mem_of_getElem? (i := 171) rfl)
theorem ok_M_inside : MOK m_M_inside 3 := ⟨tm_8 (List.mem_of_getElem? (i := 98) rfl), tm_1 (List.mem_of_getElem? (i := 9) rfl), by decide +kernel, by decide, by decide +kernel⟩
theorem io_M_inside : Cond.instanceMethod m_M_inside.1 ∈ lw_tbl := tm_8 (List.mem_of_getElem? (i := 96) rfl)
theorem so_M_inside : Cond.selects m_M_inside.1.cls m_M_inside.1 m_M_inside.1 ∈ lw_tbl := tm_8 (List.mem_of_getElem? (i := 97) rfl)
theorem ok_M_join : MOK m_M_join 2 := ⟨tm_7 (List.mem_of_getElem? (i := 137) rfl), tm_1 (List.mem_of_getElem? (i := 9) rfl), by decide +kernel, by decide, by decide +kernel⟩
theorem io_M_join : Cond.instanceMethod m_M_join.1 ∈ lw_tbl := tm_7 (List.mem_of_getElem? (i := 135) rfl)
theorem so_M_join : Cond.selects m_M_join.1.cls m_M_join.1 m_M_join.1 ∈ lw_tbl := tm_7 (List.mem_of_getElem? (i := 136) rfl)
theorem ok_M_joined : MOK m_M_joined 3 := ⟨tm_8 (List.mem_of_getElem? (i := 66) rfl), tm_1 (List.mem_of_getElem? (i := 9) rfl), by decide +kernel, by decide, by decide +kernel⟩
theorem io_M_joined : Cond.instanceMethod m_M_joined.1 ∈ lw_tbl := tm_8 (List.mem_of_getElem? (i := 64) rfl)
theorem so_M_joined : Cond.selects m_M_joined.1.cls m_M_joined.1 m_M_joined.1 ∈ lw_tbl := tm_8 (List.mem_of_getElem? (i := 65) rfl)
theorem ok_M_least : MOK m_M_least 2 := ⟨tm_7 (List.mem_of_getElem? (i := 97) rfl), tm_1 (List.mem_of_getElem? (i := 9) rfl), by decide +kernel, by decide, by decide +kernel⟩
theorem io_M_least : Cond.instanceMethod m_M_least.1 ∈ lw_tbl := tm_7 (List.mem_of_getElem? (i := 95) rfl)
theorem so_M_least : Cond.selects m_M_least.1.cls m_M_least.1 m_M_least.1 ∈ lw_tbl := tm_7 (List.mem_of_getElem? (i := 96) rfl)
theorem ok_M_letter : MOK m_M_letter 3 := ⟨tm_8 (List.mem_of_getElem? (i := 94) rfl), tm_1 (List.mem_of_getElem? (i := 9) rfl), by decide +kernel, by decide, by decide +kernel⟩
theorem io_M_letter : Cond.instanceMethod m_M_letter.1 ∈ lw_tbl := tm_8 (List.mem_of_getElem? (i := 92) rfl)
theorem so_M_letter : Cond.selects m_M_letter.1.cls m_M_letter.1 m_M_letter.1 ∈ lw_tbl := tm_8 (List.mem_of_getElem? (i := 93) rfl)
theorem ok_M_line : MOK m_M_line 2 := ⟨tm_8 (List.mem_of_getElem? (i := 78) rfl), tm_1 (List.mem_of_getElem? (i := 9) rfl), by decide +kernel, by decide, by decide +kernel⟩
theorem io_M_line : Cond.instanceMethod m_M_line.1 ∈ lw_tbl := tm_8 (List.mem_of_getElem? (i := 76) rfl)
theorem so_M_line : Cond.selects m_M_line.1.cls m_M_line.1 m_M_line.1 ∈ lw_tbl := tm_8 (List.mem_of_getElem? (i := 77) rfl)
theorem ok_M_mirror : MOK m_M_mirror 1 := ⟨tm_7 (List.mem_of_getElem? (i := 190) rfl), tm_1 (List.mem_of_getElem? (i := 9) rfl), by decide +kernel, by decide, by decide +kernel⟩
theorem io_M_mirror : Cond.instanceMethod m_M_mirror.1 ∈ lw_tbl := tm_7 (List.mem_of_getElem? (i := 188) rfl)
theorem so_M_mirror : Cond.selects m_M_mirror.1.cls m_M_mirror.1 m_M_mirror.1 ∈ lw_tbl := tm_7 (List.mem_of_getElem? (i := 189) rfl)
theorem ok_M_move : MOK m_M_move 3 := ⟨tm_7 (List.mem_of_getElem? (i := 186) rfl), tm_1 (List.mem_of_getElem? (i := 9) rfl), by decide +kernel, by decide, by decide +kernel⟩
theorem io_M_move : Cond.instanceMethod m_M_move.1 ∈ lw_tbl := tm_7 (List.mem_of_getElem? (i := 184) rfl)
theorem so_M_move : Cond.selects m_M_move.1.cls m_M_move.1 m_M_move.1 ∈ lw_tbl := tm_7 (List.mem_of_getElem? (i := 185) rfl)
theorem ok_M_part : MOK m_M_part 2 := ⟨tm_7 (List.mem_of_getElem? (i := 156) rfl), tm_1 (List.mem_of_getElem? (i := 9) rfl), by decide +kernel, by decide, by decide +kernel⟩
theorem io_M_part : Cond.instanceMethod m_M_part.1 ∈ lw_tbl := tm_7 (List.mem_of_getElem? (i := 154) rfl)
theorem so_M_part : Cond.selects m_M_part.1.cls m_M_part.1 m_M_part.1 ∈ lw_tbl := tm_7 (List.mem_of_getElem? (i := 155) rfl)
theorem ok_M_release : MOK m_M_release 3 := ⟨tm_7 (List.mem_of_getElem? (i := 182) rfl), tm_1 (List.mem_of_getElem? (i := 9) rfl), by decide +kernel, by decide, by decide +kernel⟩
theorem io_M_release : Cond.instanceMethod m_M_release.1 ∈ lw_tbl := tm_7 (List.mem_of_getElem? (i := 180) rfl)
theorem so_M_release : Cond.selects m_M_release.1.cls m_M_release.1 m_M_release.1 ∈ lw_tbl := tm_7 (List.mem_of_getElem? (i := 181) rfl)
theorem ok_M_same : MOK m_M_same 4 := ⟨tm_8 (List.mem_of_getElem? (i := 102) rfl), tm_1 (List.mem_of_getElem? (i := 9) rfl), by decide +kernel, by decide, by decide +kernel⟩
theorem io_M_same : Cond.instanceMethod m_M_same.1 ∈ lw_tbl := tm_8 (List.mem_of_getElem? (i := 100) rfl)
theorem so_M_same : Cond.selects m_M_same.1.cls m_M_same.1 m_M_same.1 ∈ lw_tbl := tm_8 (List.mem_of_getElem? (i := 101) rfl)
theorem ok_M_side : MOK m_M_side 1 := ⟨tm_7 (List.mem_of_getElem? (i := 194) rfl), tm_1 (List.mem_of_getElem? (i := 9) rfl), by decide +kernel, by decide, by decide +kernel⟩
theorem io_M_side : Cond.instanceMethod m_M_side.1 ∈ lw_tbl := tm_7 (List.mem_of_getElem? (i := 192) rfl)
theorem so_M_side : Cond.selects m_M_side.1.cls m_M_side.1 m_M_side.1 ∈ lw_tbl := tm_7 (List.mem_of_getElem? (i := 193) rfl)
theorem ok_M_sign : MOK m_M_sign 2 := ⟨tm_8 (List.mem_of_getElem? (i := 70) rfl), tm_1 (List.mem_of_getElem? (i := 9) rfl), by decide +kernel, by decide, by decide +kernel⟩
theorem io_M_sign : Cond.instanceMethod m_M_sign.1 ∈ lw_tbl := tm_8 (List.mem_of_getElem? (i := 68) rfl)
theorem so_M_sign : Cond.selects m_M_sign.1.cls m_M_sign.1 m_M_sign.1 ∈ lw_tbl := tm_8 (List.mem_of_getElem? (i := 69) rfl)
theorem ok_M_smallest : MOK m_M_smallest 2 := ⟨tm_7 (List.mem_of_getElem? (i := 85) rfl), tm_1 (List.mem_of_getElem? (i := 9) rfl), by decide +kernel, by decide, by decide +kernel⟩
theorem io_M_smallest : Cond.instanceMethod m_M_smallest.1 ∈ lw_tbl := tm_7 (List.mem_of_getElem? (i := 83) rfl)
theorem so_M_smallest : Cond.selects m_M_smallest.1.cls m_M_smallest.1 m_M_smallest.1 ∈ lw_tbl := tm_7 (List.mem_of_getElem? (i := 84) rfl)
theorem ok_M_spell : MOK m_M_spell 3 := ⟨tm_7 (List.mem_of_getElem? (i := 210) rfl), tm_1 (List.mem_of_getElem? (i := 9) rfl), by decide +kernel, by decide, by decide +kernel⟩
theorem io_M_spell : Cond.instanceMethod m_M_spell.1 ∈ lw_tbl := tm_7 (List.mem_of_getElem? (i := 208) rfl)
theorem so_M_spell : Cond.selects m_M_spell.1.cls m_M_spell.1 m_M_spell.1 ∈ lw_tbl := tm_7 (List.mem_of_getElem? (i := 209) rfl)
theorem ok_M_square : MOK m_M_square 3 := ⟨tm_8 (List.mem_of_getElem? (i := 86) rfl), tm_1 (List.mem_of_getElem? (i := 9) rfl), by decide +kernel, by decide, by decide +kernel⟩
theorem io_M_square : Cond.instanceMethod m_M_square.1 ∈ lw_tbl := tm_8 (List.mem_of_getElem? (i := 84) rfl)
theorem so_M_square : Cond.selects m_M_square.1.cls m_M_square.1 m_M_square.1 ∈ lw_tbl := tm_8 (List.mem_of_getElem? (i := 85) rfl)
theorem ok_M_swap : MOK m_M_swap 4 := ⟨tm_7 (List.mem_of_getElem? (i := 164) rfl), tm_1 (List.mem_of_getElem? (i := 9) rfl), by decide +kernel, by decide, by decide +kernel⟩
theorem io_M_swap : Cond.instanceMethod m_M_swap.1 ∈ lw_tbl := tm_7 (List.mem_of_getElem? (i := 162) rfl)
theorem so_M_swap : Cond.selects m_M_swap.1.cls m_M_swap.1 m_M_swap.1 ∈ lw_tbl := tm_7 (List.mem_of_getElem? (i := 163) rfl)
theorem ok_M_text : MOK m_M_text 0 := ⟨tm_8 (List.mem_of_getElem? (i := 118) rfl), tm_1 (List.mem_of_getElem? (i := 9) rfl), by decide +kernel, by decide, by decide +kernel⟩
theorem io_M_text : Cond.instanceMethod m_M_text.1 ∈ lw_tbl := tm_8 (List.mem_of_getElem? (i := 116) rfl)
theorem so_M_text : Cond.selects m_M_text.1.cls m_M_text.1 m_M_text.1 ∈ lw_tbl := tm_8 (List.mem_of_getElem? (i := 117) rfl)
theorem ok_M_tightest : MOK m_M_tightest 1 := ⟨tm_7 (List.mem_of_getElem? (i := 89) rfl), tm_1 (List.mem_of_getElem? (i := 9) rfl), by decide +kernel, by decide, by decide +kernel⟩
theorem io_M_tightest : Cond.instanceMethod m_M_tightest.1 ∈ lw_tbl := tm_7 (List.mem_of_getElem? (i := 87) rfl)
theorem so_M_tightest : Cond.selects m_M_tightest.1.cls m_M_tightest.1 m_M_tightest.1 ∈ lw_tbl := tm_7 (List.mem_of_getElem? (i := 88) rfl)
theorem ok_M_turn : MOK m_M_turn 2 := ⟨tm_7 (List.mem_of_getElem? (i := 114) rfl), tm_1 (List.mem_of_getElem? (i := 9) rfl), by decide +kernel, by decide, by decide +kernel⟩
theorem io_M_turn : Cond.instanceMethod m_M_turn.1 ∈ lw_tbl := tm_7 (List.mem_of_getElem? (i := 112) rfl)
theorem so_M_turn : Cond.selects m_M_turn.1.cls m_M_turn.1 m_M_turn.1 ∈ lw_tbl := tm_7 (List.mem_of_getElem? (i := 113) rfl)
theorem ok_M_undo : MOK m_M_undo 0 := ⟨tm_7 (List.mem_of_getElem? (i := 206) rfl), tm_1 (List.mem_of_getElem? (i := 9) rfl), by decide +kernel, by decide, by decide +kernel⟩
theorem io_M_undo : Cond.instanceMethod m_M_undo.1 ∈ lw_tbl := tm_7 (List.mem_of_getElem? (i := 204) rfl)
theorem so_M_undo : Cond.selects m_M_undo.1.cls m_M_undo.1 m_M_undo.1 ∈ lw_tbl := tm_7 (List.mem_of_getElem? (i := 205) rfl)
theorem ok_M_ways : MOK m_M_ways 2 := ⟨tm_8 (List.mem_of_getElem? (i := 54) rfl), tm_1 (List.mem_of_getElem? (i := 9) rfl), by decide +kernel, by decide, by decide +kernel⟩
theorem io_M_ways : Cond.instanceMethod m_M_ways.1 ∈ lw_tbl := tm_8 (List.mem_of_getElem? (i := 52) rfl)
theorem so_M_ways : Cond.selects m_M_ways.1.cls m_M_ways.1 m_M_ways.1 ∈ lw_tbl := tm_8 (List.mem_of_getElem? (i := 53) rfl)
theorem lk_Law_9 : LK "SignSquaresLaw" 9 m_S_init := Or.inl (tm_1 (List.mem_of_getElem? (i := 22) rfl))
theorem lk_Law_12 : LK "SignSquaresLaw" 12 m_M_init := Or.inl (tm_5 (List.mem_of_getElem? (i := 227) rfl))
theorem lk_Law_13 : LK "SignSquaresLaw" 13 m_S_feed := Or.inl (tm_2 (List.mem_of_getElem? (i := 50) rfl))
theorem lk_Law_17 : LK "SignSquaresLaw" 17 m_M_feed := Or.inl (tm_8 (List.mem_of_getElem? (i := 107) rfl))
theorem lk_Law_18 : LK "SignSquaresLaw" 18 m_S_back := Or.inl (tm_2 (List.mem_of_getElem? (i := 58) rfl))
theorem lk_Law_22 : LK "SignSquaresLaw" 22 m_M_back := Or.inl (tm_8 (List.mem_of_getElem? (i := 111) rfl))
theorem lk_Law_23 : LK "SignSquaresLaw" 23 m_S_text := Or.inl (tm_2 (List.mem_of_getElem? (i := 62) rfl))
theorem lk_Law_27 : LK "SignSquaresLaw" 27 m_M_text := Or.inl (tm_8 (List.mem_of_getElem? (i := 115) rfl))
theorem lk_Law_28 : LK "SignSquaresLaw" 28 m_S_exchange := Or.inl (tm_3 (List.mem_of_getElem? (i := 75) rfl))
theorem lk_Law_32 : LK "SignSquaresLaw" 32 m_M_exchange := Or.inl (tm_7 (List.mem_of_getElem? (i := 99) rfl))
theorem lk_Law_33 : LK "SignSquaresLaw" 33 m_S_turn := Or.inl (tm_3 (List.mem_of_getElem? (i := 158) rfl))
theorem lk_Law_37 : LK "SignSquaresLaw" 37 m_M_turn := Or.inl (tm_7 (List.mem_of_getElem? (i := 111) rfl))
theorem lk_Law_38 : LK "SignSquaresLaw" 38 m_S_join := Or.inl (tm_3 (List.mem_of_getElem? (i := 174) rfl))
theorem lk_Law_41 : LK "SignSquaresLaw" 41 m_M_join := Or.inl (tm_7 (List.mem_of_getElem? (i := 134) rfl))
theorem lk_Law_42 : LK "SignSquaresLaw" 42 m_S_part := Or.inl (tm_3 (List.mem_of_getElem? (i := 204) rfl))
theorem lk_Law_45 : LK "SignSquaresLaw" 45 m_M_part := Or.inl (tm_7 (List.mem_of_getElem? (i := 153) rfl))
theorem lk_Law_46 : LK "SignSquaresLaw" 46 m_S_swap := Or.inl (tm_3 (List.mem_of_getElem? (i := 221) rfl))
theorem lk_Law_49 : LK "SignSquaresLaw" 49 m_M_swap := Or.inl (tm_7 (List.mem_of_getElem? (i := 161) rfl))
theorem lk_Law_50 : LK "SignSquaresLaw" 50 m_S_insert := Or.inl (tm_3 (List.mem_of_getElem? (i := 234) rfl))
theorem lk_Law_54 : LK "SignSquaresLaw" 54 m_M_insert := Or.inl (tm_7 (List.mem_of_getElem? (i := 169) rfl))
theorem lk_Law_55 : LK "SignSquaresLaw" 55 m_S_release := Or.inl (tm_4 (List.mem_of_getElem? (i := 45) rfl))
theorem lk_Law_58 : LK "SignSquaresLaw" 58 m_M_release := Or.inl (tm_7 (List.mem_of_getElem? (i := 179) rfl))
theorem lk_Law_59 : LK "SignSquaresLaw" 59 m_S_move := Or.inl (tm_4 (List.mem_of_getElem? (i := 49) rfl))
theorem lk_Law_62 : LK "SignSquaresLaw" 62 m_M_move := Or.inl (tm_7 (List.mem_of_getElem? (i := 183) rfl))
theorem lk_Law_63 : LK "SignSquaresLaw" 63 m_S_mirror := Or.inl (tm_4 (List.mem_of_getElem? (i := 57) rfl))
theorem lk_Law_67 : LK "SignSquaresLaw" 67 m_M_mirror := Or.inl (tm_7 (List.mem_of_getElem? (i := 187) rfl))
theorem lk_Law_68 : LK "SignSquaresLaw" 68 m_S_arrange := Or.inl (tm_4 (List.mem_of_getElem? (i := 62) rfl))
theorem lk_Law_71 : LK "SignSquaresLaw" 71 m_M_arrange := Or.inl (tm_8 (List.mem_of_getElem? (i := 7) rfl))
theorem lk_Law_72 : LK "SignSquaresLaw" 72 m_S_side := Or.inl (tm_4 (List.mem_of_getElem? (i := 169) rfl))
theorem lk_Law_75 : LK "SignSquaresLaw" 75 m_M_side := Or.inl (tm_7 (List.mem_of_getElem? (i := 191) rfl))
theorem lk_Law_76 : LK "SignSquaresLaw" 76 m_S_gap := Or.inl (tm_4 (List.mem_of_getElem? (i := 173) rfl))
theorem lk_Law_79 : LK "SignSquaresLaw" 79 m_M_gap := Or.inl (tm_7 (List.mem_of_getElem? (i := 199) rfl))
theorem lk_Law_80 : LK "SignSquaresLaw" 80 m_S_undo := Or.inl (tm_4 (List.mem_of_getElem? (i := 177) rfl))
theorem lk_Law_83 : LK "SignSquaresLaw" 83 m_M_undo := Or.inl (tm_7 (List.mem_of_getElem? (i := 203) rfl))
theorem lk_Law_84 : LK "SignSquaresLaw" 84 m_S_sign := Or.inl (tm_4 (List.mem_of_getElem? (i := 181) rfl))
theorem lk_Law_88 : LK "SignSquaresLaw" 88 m_M_sign := Or.inl (tm_8 (List.mem_of_getElem? (i := 67) rfl))
theorem lk_Law_89 : LK "SignSquaresLaw" 89 m_S_line := Or.inl (tm_4 (List.mem_of_getElem? (i := 208) rfl))
theorem lk_Law_92 : LK "SignSquaresLaw" 92 m_M_line := Or.inl (tm_8 (List.mem_of_getElem? (i := 75) rfl))
theorem lk_Law_93 : LK "SignSquaresLaw" 93 m_S_square := Or.inl (tm_4 (List.mem_of_getElem? (i := 217) rfl))
theorem lk_Law_97 : LK "SignSquaresLaw" 97 m_M_square := Or.inl (tm_8 (List.mem_of_getElem? (i := 83) rfl))
theorem lk_Law_98 : LK "SignSquaresLaw" 98 m_S_scale := Or.inl (tm_5 (List.mem_of_getElem? (i := 16) rfl))
theorem lk_Law_101 : LK "SignSquaresLaw" 101 m_M_scale := Or.inl (tm_7 (List.mem_of_getElem? (i := 74) rfl))
theorem lk_Law_102 : LK "SignSquaresLaw" 102 m_S_letter := Or.inl (tm_5 (List.mem_of_getElem? (i := 42) rfl))
theorem lk_Law_105 : LK "SignSquaresLaw" 105 m_M_letter := Or.inl (tm_8 (List.mem_of_getElem? (i := 91) rfl))
theorem lk_Law_106 : LK "SignSquaresLaw" 106 m_S_inside := Or.inl (tm_5 (List.mem_of_getElem? (i := 46) rfl))
theorem lk_Law_109 : LK "SignSquaresLaw" 109 m_M_inside := Or.inl (tm_8 (List.mem_of_getElem? (i := 95) rfl))
theorem lk_Law_110 : LK "SignSquaresLaw" 110 m_S_box := Or.inl (tm_5 (List.mem_of_getElem? (i := 51) rfl))
theorem lk_Law_114 : LK "SignSquaresLaw" 114 m_M_box := Or.inl (tm_6 (List.mem_of_getElem? (i := 214) rfl))
theorem lk_Law_115 : LK "SignSquaresLaw" 115 m_S_at := Or.inl (tm_5 (List.mem_of_getElem? (i := 91) rfl))
theorem lk_Law_118 : LK "SignSquaresLaw" 118 m_M_at := Or.inl (tm_7 (List.mem_of_getElem? (i := 62) rfl))
theorem lk_Law_119 : LK "SignSquaresLaw" 119 m_S_column := Or.inl (tm_5 (List.mem_of_getElem? (i := 103) rfl))
theorem lk_Law_122 : LK "SignSquaresLaw" 122 m_M_column := Or.inl (tm_7 (List.mem_of_getElem? (i := 70) rfl))
theorem lk_Law_123 : LK "SignSquaresLaw" 123 m_S_covered := Or.inl (tm_5 (List.mem_of_getElem? (i := 107) rfl))
theorem lk_Law_127 : LK "SignSquaresLaw" 127 m_M_covered := Or.inl (tm_7 (List.mem_of_getElem? (i := 78) rfl))
theorem lk_Law_128 : LK "SignSquaresLaw" 128 m_S_smallest := Or.inl (tm_5 (List.mem_of_getElem? (i := 111) rfl))
theorem lk_Law_131 : LK "SignSquaresLaw" 131 m_M_smallest := Or.inl (tm_7 (List.mem_of_getElem? (i := 82) rfl))
theorem lk_Law_132 : LK "SignSquaresLaw" 132 m_S_same := Or.inl (tm_5 (List.mem_of_getElem? (i := 126) rfl))
theorem lk_Law_136 : LK "SignSquaresLaw" 136 m_M_same := Or.inl (tm_8 (List.mem_of_getElem? (i := 99) rfl))
theorem lk_Law_137 : LK "SignSquaresLaw" 137 m_S_tightest := Or.inl (tm_5 (List.mem_of_getElem? (i := 130) rfl))
theorem lk_Law_140 : LK "SignSquaresLaw" 140 m_M_tightest := Or.inl (tm_7 (List.mem_of_getElem? (i := 86) rfl))
theorem lk_Law_141 : LK "SignSquaresLaw" 141 m_S_least := Or.inl (tm_5 (List.mem_of_getElem? (i := 134) rfl))
theorem lk_Law_144 : LK "SignSquaresLaw" 144 m_M_least := Or.inl (tm_7 (List.mem_of_getElem? (i := 94) rfl))
theorem lk_Law_145 : LK "SignSquaresLaw" 145 m_S_ways := Or.inl (tm_5 (List.mem_of_getElem? (i := 139) rfl))
theorem lk_Law_148 : LK "SignSquaresLaw" 148 m_M_ways := Or.inl (tm_8 (List.mem_of_getElem? (i := 51) rfl))
theorem lk_Law_149 : LK "SignSquaresLaw" 149 m_S_best := Or.inl (tm_5 (List.mem_of_getElem? (i := 148) rfl))
theorem lk_Law_152 : LK "SignSquaresLaw" 152 m_M_best := Or.inl (tm_8 (List.mem_of_getElem? (i := 55) rfl))
theorem lk_Law_153 : LK "SignSquaresLaw" 153 m_S_bestText := Or.inl (tm_5 (List.mem_of_getElem? (i := 152) rfl))
theorem lk_Law_156 : LK "SignSquaresLaw" 156 m_M_bestText := Or.inl (tm_8 (List.mem_of_getElem? (i := 59) rfl))
theorem lk_Law_157 : LK "SignSquaresLaw" 157 m_S_joined := Or.inl (tm_5 (List.mem_of_getElem? (i := 160) rfl))
theorem lk_Law_160 : LK "SignSquaresLaw" 160 m_M_joined := Or.inl (tm_8 (List.mem_of_getElem? (i := 63) rfl))
theorem lk_Law_161 : LK "SignSquaresLaw" 161 m_S_spell := Or.inl (tm_5 (List.mem_of_getElem? (i := 164) rfl))
theorem lk_Law_164 : LK "SignSquaresLaw" 164 m_M_spell := Or.inl (tm_7 (List.mem_of_getElem? (i := 207) rfl))
theorem lk_Law_165 : LK "SignSquaresLaw" 165 m_S_count := Or.inl (tm_5 (List.mem_of_getElem? (i := 206) rfl))
theorem lk_Law_168 : LK "SignSquaresLaw" 168 m_M_count := Or.inl (tm_8 (List.mem_of_getElem? (i := 103) rfl))
theorem nw_Law_7 : Cond.classLink "SignSquaresLaw" 7 "SignSquares" ∈ lw_tbl := tm_1 (List.mem_of_getElem? (i := 20) rfl)
theorem nw_Law_10 : Cond.classLink "SignSquaresLaw" 10 "SignSquaresModel" ∈ lw_tbl := tm_5 (List.mem_of_getElem? (i := 225) rfl)
theorem b_Law_0 {E : EV} {d : Nat} {Q : Option AV → St → Prop} {σ : St} {L : Nat} {f : Nat → Int} (hX : XT E (-7) .int L f) (h : (0 < (nx σ)) ∧ (WMv E m_S_init d [aP (nx σ)] (al σ 9 9) (fun σ1 => (0 < (nx σ1)) ∧ (WMv E m_M_init d [aP (nx σ1)] (al σ1 10 74) (fun σ3 => WP E m_Law (d + 1) 18 [(0, aP (-7)), (1, aP (nx σ)), (2, aP (nx σ1)), (3, aI 0)] [] σ3 Q))))) : WP E m_Law (d + 1) 0 [(0, aP (-7))] [] σ Q := by
  refine s_new (ci := 9) d_Law_0 (by decide) rfl inG9 tyX9_ok (df_9 E) nw_Law_7 in_9 ii_9 ?_
  refine s_dup d_Law_3 (Nat.ne_of_beq_eq_false rfl) ?_
  obtain ⟨g2, h⟩ := h
  refine s_callI (as := []) d_Law_4 ok_S_init lk_Law_9 io_S_init rfl rfl rfl (Nat.le_of_ble_eq_true rfl) rfl g2 (WM.mono h ?_)
  rintro _ σ1 ⟨rfl, hp, h⟩
  show WP E m_Law (d + 1) 7 [(0, aP (-7))] [aP (nx σ)] σ1 Q
  refine s_astore_n d_Law_7 rfl (by decide) rfl ?_
  refine s_new (ci := 10) d_Law_8 (by decide) rfl inG10 tyX10_ok (df_10 E) nw_Law_10 in_10 ii_10 ?_
  refine s_dup d_Law_11 (Nat.ne_of_beq_eq_false rfl) ?_
  obtain ⟨g4, h⟩ := h
  refine s_callI (as := []) d_Law_12 ok_M_init lk_Law_12 io_M_init rfl rfl rfl (Nat.le_of_ble_eq_true rfl) rfl g4 (WM.mono h ?_)
  rintro _ σ3 ⟨rfl, hp, h⟩
  show WP E m_Law (d + 1) 15 [(1, aP (nx σ)), (0, aP (-7))] [aP (nx σ1)] σ3 Q
  refine s_astore_n d_Law_15 rfl (by decide) rfl ?_
  refine s_iconst d_Law_16 ?_
  refine s_istore_n d_Law_17 rfl (by decide) rfl ?_
  refine wp_drop [3, 2, 1, 0] rfl ?_
  exact h
theorem b_Law_18 {E : EV} {d : Nat} {Q : Option AV → St → Prop} {σ : St} {L : Nat} {f : Nat → Int} (hX : XT E (-7) .int L f) (x3 : Int) (h : (rI x3) ∧ (rI (L - 6)) ∧ (((L - 6) < x3 → Q (some (aI 1)) σ) ∧ (¬ (L - 6) < x3 → (0 ≤ x3 ∧ x3 < L) ∧ (rI (iand (f (Int.toNat x3)) 63)) ∧ (((iand (f (Int.toNat x3)) 63) = 0 → WP E m_Law (d + 1) 192 [(0, aP (-7)), (1, aP 1), (2, aP 42), (3, aI x3)] [] σ Q) ∧ ((iand (f (Int.toNat x3)) 63) = 1 → WP E m_Law (d + 1) 255 [(0, aP (-7)), (1, aP 1), (2, aP 42), (3, aI x3)] [] σ Q) ∧ ((iand (f (Int.toNat x3)) 63) = 2 → WP E m_Law (d + 1) 278 [(0, aP (-7)), (1, aP 1), (2, aP 42), (3, aI x3)] [] σ Q) ∧ ((iand (f (Int.toNat x3)) 63) = 3 → WP E m_Law (d + 1) 291 [(0, aP (-7)), (1, aP 1), (2, aP 42), (3, aI x3)] [] σ Q) ∧ ((iand (f (Int.toNat x3)) 63) = 4 → WP E m_Law (d + 1) 344 [(0, aP (-7)), (1, aP 1), (2, aP 42), (3, aI x3)] [] σ Q) ∧ ((iand (f (Int.toNat x3)) 63) = 5 → WP E m_Law (d + 1) 377 [(0, aP (-7)), (1, aP 1), (2, aP 42), (3, aI x3)] [] σ Q) ∧ ((iand (f (Int.toNat x3)) 63) = 6 → WP E m_Law (d + 1) 410 [(0, aP (-7)), (1, aP 1), (2, aP 42), (3, aI x3)] [] σ Q) ∧ ((iand (f (Int.toNat x3)) 63) = 7 → WP E m_Law (d + 1) 443 [(0, aP (-7)), (1, aP 1), (2, aP 42), (3, aI x3)] [] σ Q) ∧ ((iand (f (Int.toNat x3)) 63) = 8 → WP E m_Law (d + 1) 496 [(0, aP (-7)), (1, aP 1), (2, aP 42), (3, aI x3)] [] σ Q) ∧ ((iand (f (Int.toNat x3)) 63) = 9 → WP E m_Law (d + 1) 539 [(0, aP (-7)), (1, aP 1), (2, aP 42), (3, aI x3)] [] σ Q) ∧ ((iand (f (Int.toNat x3)) 63) = 10 → WP E m_Law (d + 1) 582 [(0, aP (-7)), (1, aP 1), (2, aP 42), (3, aI x3)] [] σ Q) ∧ ((iand (f (Int.toNat x3)) 63) = 11 → WP E m_Law (d + 1) 625 [(0, aP (-7)), (1, aP 1), (2, aP 42), (3, aI x3)] [] σ Q) ∧ ((iand (f (Int.toNat x3)) 63) = 12 → WP E m_Law (d + 1) 648 [(0, aP (-7)), (1, aP 1), (2, aP 42), (3, aI x3)] [] σ Q) ∧ ((iand (f (Int.toNat x3)) 63) = 13 → WP E m_Law (d + 1) 681 [(0, aP (-7)), (1, aP 1), (2, aP 42), (3, aI x3)] [] σ Q) ∧ ((iand (f (Int.toNat x3)) 63) = 14 → WP E m_Law (d + 1) 704 [(0, aP (-7)), (1, aP 1), (2, aP 42), (3, aI x3)] [] σ Q) ∧ ((iand (f (Int.toNat x3)) 63) = 15 → WP E m_Law (d + 1) 727 [(0, aP (-7)), (1, aP 1), (2, aP 42), (3, aI x3)] [] σ Q) ∧ ((iand (f (Int.toNat x3)) 63) = 16 → WP E m_Law (d + 1) 740 [(0, aP (-7)), (1, aP 1), (2, aP 42), (3, aI x3)] [] σ Q) ∧ ((iand (f (Int.toNat x3)) 63) = 17 → WP E m_Law (d + 1) 773 [(0, aP (-7)), (1, aP 1), (2, aP 42), (3, aI x3)] [] σ Q) ∧ ((iand (f (Int.toNat x3)) 63) = 18 → WP E m_Law (d + 1) 806 [(0, aP (-7)), (1, aP 1), (2, aP 42), (3, aI x3)] [] σ Q) ∧ ((iand (f (Int.toNat x3)) 63) = 19 → WP E m_Law (d + 1) 849 [(0, aP (-7)), (1, aP 1), (2, aP 42), (3, aI x3)] [] σ Q) ∧ ((iand (f (Int.toNat x3)) 63) = 20 → WP E m_Law (d + 1) 892 [(0, aP (-7)), (1, aP 1), (2, aP 42), (3, aI x3)] [] σ Q) ∧ ((iand (f (Int.toNat x3)) 63) = 21 → WP E m_Law (d + 1) 935 [(0, aP (-7)), (1, aP 1), (2, aP 42), (3, aI x3)] [] σ Q) ∧ ((iand (f (Int.toNat x3)) 63) = 22 → WP E m_Law (d + 1) 978 [(0, aP (-7)), (1, aP 1), (2, aP 42), (3, aI x3)] [] σ Q) ∧ ((iand (f (Int.toNat x3)) 63) = 23 → WP E m_Law (d + 1) 1042 [(0, aP (-7)), (1, aP 1), (2, aP 42), (3, aI x3)] [] σ Q) ∧ ((iand (f (Int.toNat x3)) 63) = 24 → WP E m_Law (d + 1) 1105 [(0, aP (-7)), (1, aP 1), (2, aP 42), (3, aI x3)] [] σ Q) ∧ ((iand (f (Int.toNat x3)) 63) = 25 → WP E m_Law (d + 1) 1138 [(0, aP (-7)), (1, aP 1), (2, aP 42), (3, aI x3)] [] σ Q) ∧ ((iand (f (Int.toNat x3)) 63) = 26 → WP E m_Law (d + 1) 1182 [(0, aP (-7)), (1, aP 1), (2, aP 42), (3, aI x3)] [] σ Q) ∧ ((iand (f (Int.toNat x3)) 63) = 27 → WP E m_Law (d + 1) 1215 [(0, aP (-7)), (1, aP 1), (2, aP 42), (3, aI x3)] [] σ Q) ∧ ((iand (f (Int.toNat x3)) 63) = 28 → WP E m_Law (d + 1) 1268 [(0, aP (-7)), (1, aP 1), (2, aP 42), (3, aI x3)] [] σ Q) ∧ ((iand (f (Int.toNat x3)) 63) = 29 → WP E m_Law (d + 1) 1291 [(0, aP (-7)), (1, aP 1), (2, aP 42), (3, aI x3)] [] σ Q) ∧ ((iand (f (Int.toNat x3)) 63) = 30 → WP E m_Law (d + 1) 1324 [(0, aP (-7)), (1, aP 1), (2, aP 42), (3, aI x3)] [] σ Q) ∧ ((iand (f (Int.toNat x3)) 63) = 31 → WP E m_Law (d + 1) 1357 [(0, aP (-7)), (1, aP 1), (2, aP 42), (3, aI x3)] [] σ Q) ∧ ((iand (f (Int.toNat x3)) 63) = 32 → WP E m_Law (d + 1) 1400 [(0, aP (-7)), (1, aP 1), (2, aP 42), (3, aI x3)] [] σ Q) ∧ ((iand (f (Int.toNat x3)) 63) = 33 → WP E m_Law (d + 1) 1443 [(0, aP (-7)), (1, aP 1), (2, aP 42), (3, aI x3)] [] σ Q) ∧ ((iand (f (Int.toNat x3)) 63) = 34 → WP E m_Law (d + 1) 1486 [(0, aP (-7)), (1, aP 1), (2, aP 42), (3, aI x3)] [] σ Q) ∧ ((iand (f (Int.toNat x3)) 63) = 35 → WP E m_Law (d + 1) 1529 [(0, aP (-7)), (1, aP 1), (2, aP 42), (3, aI x3)] [] σ Q) ∧ (¬ (0 ≤ (iand (f (Int.toNat x3)) 63) ∧ (iand (f (Int.toNat x3)) 63) ≤ 35) → WP E m_Law (d + 1) 1552 [(0, aP (-7)), (1, aP 1), (2, aP 42), (3, aI x3)] [] σ Q))))) : WP E m_Law (d + 1) 18 [(0, aP (-7)), (1, aP 1), (2, aP 42), (3, aI x3)] [] σ Q := by
  refine s_iload_n 3 d_Law_18 rfl rfl ?_
  refine s_aload_n 0 d_Law_19 rfl rfl ?_
  refine s_alenX d_Law_20 hX ?_
  refine s_bipush d_Law_21 (by decide) ?_
  refine s_isub d_Law_23 ?_
  obtain ⟨g1, h⟩ := h
  obtain ⟨g2, h⟩ := h
  refine s_icmp_gt d_Law_24 rfl g1 g2 (fun c => ?_) (fun c => ?_)
  · have h := h.1 c
    refine s_iconst d_Law_1558 ?_
    exact s_zreturn d_Law_1559 rfl (by decide) h
  · have h := h.2 c
    refine s_aload_n 0 d_Law_27 rfl rfl ?_
    refine s_iload_n 3 d_Law_28 rfl rfl ?_
    obtain ⟨g3, h⟩ := h
    refine s_ialdX d_Law_29 hX g3 ?_
    refine s_bipush d_Law_30 (by decide) ?_
    refine s_iand d_Law_32 ?_
    obtain ⟨g4, h⟩ := h
    by_cases c0 : (iand (f (Int.toNat x3)) 63) = 0
    · have h := h.1 c0
      refine s_tableIn d_Law_33 g4 (by rw [c0]; decide) (by rw [c0]; rfl) (tgt := 192) rfl ?_
      exact h
    by_cases c1 : (iand (f (Int.toNat x3)) 63) = 1
    · have h := h.2.1 c1
      refine s_tableIn d_Law_33 g4 (by rw [c1]; decide) (by rw [c1]; rfl) (tgt := 255) rfl ?_
      exact h
    by_cases c2 : (iand (f (Int.toNat x3)) 63) = 2
    · have h := h.2.2.1 c2
      refine s_tableIn d_Law_33 g4 (by rw [c2]; decide) (by rw [c2]; rfl) (tgt := 278) rfl ?_
      exact h
    by_cases c3 : (iand (f (Int.toNat x3)) 63) = 3
    · have h := h.2.2.2.1 c3
      refine s_tableIn d_Law_33 g4 (by rw [c3]; decide) (by rw [c3]; rfl) (tgt := 291) rfl ?_
      exact h
    by_cases c4 : (iand (f (Int.toNat x3)) 63) = 4
    · have h := h.2.2.2.2.1 c4
      refine s_tableIn d_Law_33 g4 (by rw [c4]; decide) (by rw [c4]; rfl) (tgt := 344) rfl ?_
      exact h
    by_cases c5 : (iand (f (Int.toNat x3)) 63) = 5
    · have h := h.2.2.2.2.2.1 c5
      refine s_tableIn d_Law_33 g4 (by rw [c5]; decide) (by rw [c5]; rfl) (tgt := 377) rfl ?_
      exact h
    by_cases c6 : (iand (f (Int.toNat x3)) 63) = 6
    · have h := h.2.2.2.2.2.2.1 c6
      refine s_tableIn d_Law_33 g4 (by rw [c6]; decide) (by rw [c6]; rfl) (tgt := 410) rfl ?_
      exact h
    by_cases c7 : (iand (f (Int.toNat x3)) 63) = 7
    · have h := h.2.2.2.2.2.2.2.1 c7
      refine s_tableIn d_Law_33 g4 (by rw [c7]; decide) (by rw [c7]; rfl) (tgt := 443) rfl ?_
      exact h
    by_cases c8 : (iand (f (Int.toNat x3)) 63) = 8
    · have h := h.2.2.2.2.2.2.2.2.1 c8
      refine s_tableIn d_Law_33 g4 (by rw [c8]; decide) (by rw [c8]; rfl) (tgt := 496) rfl ?_
      exact h
    by_cases c9 : (iand (f (Int.toNat x3)) 63) = 9
    · have h := h.2.2.2.2.2.2.2.2.2.1 c9
      refine s_tableIn d_Law_33 g4 (by rw [c9]; decide) (by rw [c9]; rfl) (tgt := 539) rfl ?_
      exact h
    by_cases c10 : (iand (f (Int.toNat x3)) 63) = 10
    · have h := h.2.2.2.2.2.2.2.2.2.2.1 c10
      refine s_tableIn d_Law_33 g4 (by rw [c10]; decide) (by rw [c10]; rfl) (tgt := 582) rfl ?_
      exact h
    by_cases c11 : (iand (f (Int.toNat x3)) 63) = 11
    · have h := h.2.2.2.2.2.2.2.2.2.2.2.1 c11
      refine s_tableIn d_Law_33 g4 (by rw [c11]; decide) (by rw [c11]; rfl) (tgt := 625) rfl ?_
      exact h
    by_cases c12 : (iand (f (Int.toNat x3)) 63) = 12
    · have h := h.2.2.2.2.2.2.2.2.2.2.2.2.1 c12
      refine s_tableIn d_Law_33 g4 (by rw [c12]; decide) (by rw [c12]; rfl) (tgt := 648) rfl ?_
      exact h
    by_cases c13 : (iand (f (Int.toNat x3)) 63) = 13
    · have h := h.2.2.2.2.2.2.2.2.2.2.2.2.2.1 c13
      refine s_tableIn d_Law_33 g4 (by rw [c13]; decide) (by rw [c13]; rfl) (tgt := 681) rfl ?_
      exact h
    by_cases c14 : (iand (f (Int.toNat x3)) 63) = 14
    · have h := h.2.2.2.2.2.2.2.2.2.2.2.2.2.2.1 c14
      refine s_tableIn d_Law_33 g4 (by rw [c14]; decide) (by rw [c14]; rfl) (tgt := 704) rfl ?_
      exact h
    by_cases c15 : (iand (f (Int.toNat x3)) 63) = 15
    · have h := h.2.2.2.2.2.2.2.2.2.2.2.2.2.2.2.1 c15
      refine s_tableIn d_Law_33 g4 (by rw [c15]; decide) (by rw [c15]; rfl) (tgt := 727) rfl ?_
      exact h
    by_cases c16 : (iand (f (Int.toNat x3)) 63) = 16
    · have h := h.2.2.2.2.2.2.2.2.2.2.2.2.2.2.2.2.1 c16
      refine s_tableIn d_Law_33 g4 (by rw [c16]; decide) (by rw [c16]; rfl) (tgt := 740) rfl ?_
      exact h
    by_cases c17 : (iand (f (Int.toNat x3)) 63) = 17
    · have h := h.2.2.2.2.2.2.2.2.2.2.2.2.2.2.2.2.2.1 c17
      refine s_tableIn d_Law_33 g4 (by rw [c17]; decide) (by rw [c17]; rfl) (tgt := 773) rfl ?_
      exact h
    by_cases c18 : (iand (f (Int.toNat x3)) 63) = 18
    · have h := h.2.2.2.2.2.2.2.2.2.2.2.2.2.2.2.2.2.2.1 c18
      refine s_tableIn d_Law_33 g4 (by rw [c18]; decide) (by rw [c18]; rfl) (tgt := 806) rfl ?_
      exact h
    by_cases c19 : (iand (f (Int.toNat x3)) 63) = 19
    · have h := h.2.2.2.2.2.2.2.2.2.2.2.2.2.2.2.2.2.2.2.1 c19
      refine s_tableIn d_Law_33 g4 (by rw [c19]; decide) (by rw [c19]; rfl) (tgt := 849) rfl ?_
      exact h
    by_cases c20 : (iand (f (Int.toNat x3)) 63) = 20
    · have h := h.2.2.2.2.2.2.2.2.2.2.2.2.2.2.2.2.2.2.2.2.1 c20
      refine s_tableIn d_Law_33 g4 (by rw [c20]; decide) (by rw [c20]; rfl) (tgt := 892) rfl ?_
      exact h
    by_cases c21 : (iand (f (Int.toNat x3)) 63) = 21
    · have h := h.2.2.2.2.2.2.2.2.2.2.2.2.2.2.2.2.2.2.2.2.2.1 c21
      refine s_tableIn d_Law_33 g4 (by rw [c21]; decide) (by rw [c21]; rfl) (tgt := 935) rfl ?_
      exact h
    by_cases c22 : (iand (f (Int.toNat x3)) 63) = 22
    · have h := h.2.2.2.2.2.2.2.2.2.2.2.2.2.2.2.2.2.2.2.2.2.2.1 c22
      refine s_tableIn d_Law_33 g4 (by rw [c22]; decide) (by rw [c22]; rfl) (tgt := 978) rfl ?_
      exact h
    by_cases c23 : (iand (f (Int.toNat x3)) 63) = 23
    · have h := h.2.2.2.2.2.2.2.2.2.2.2.2.2.2.2.2.2.2.2.2.2.2.2.1 c23
      refine s_tableIn d_Law_33 g4 (by rw [c23]; decide) (by rw [c23]; rfl) (tgt := 1042) rfl ?_
      exact h
    by_cases c24 : (iand (f (Int.toNat x3)) 63) = 24
    · have h := h.2.2.2.2.2.2.2.2.2.2.2.2.2.2.2.2.2.2.2.2.2.2.2.2.1 c24
      refine s_tableIn d_Law_33 g4 (by rw [c24]; decide) (by rw [c24]; rfl) (tgt := 1105) rfl ?_
      exact h
    by_cases c25 : (iand (f (Int.toNat x3)) 63) = 25
    · have h := h.2.2.2.2.2.2.2.2.2.2.2.2.2.2.2.2.2.2.2.2.2.2.2.2.2.1 c25
      refine s_tableIn d_Law_33 g4 (by rw [c25]; decide) (by rw [c25]; rfl) (tgt := 1138) rfl ?_
      exact h
    by_cases c26 : (iand (f (Int.toNat x3)) 63) = 26
    · have h := h.2.2.2.2.2.2.2.2.2.2.2.2.2.2.2.2.2.2.2.2.2.2.2.2.2.2.1 c26
      refine s_tableIn d_Law_33 g4 (by rw [c26]; decide) (by rw [c26]; rfl) (tgt := 1182) rfl ?_
      exact h
    by_cases c27 : (iand (f (Int.toNat x3)) 63) = 27
    · have h := h.2.2.2.2.2.2.2.2.2.2.2.2.2.2.2.2.2.2.2.2.2.2.2.2.2.2.2.1 c27
      refine s_tableIn d_Law_33 g4 (by rw [c27]; decide) (by rw [c27]; rfl) (tgt := 1215) rfl ?_
      exact h
    by_cases c28 : (iand (f (Int.toNat x3)) 63) = 28
    · have h := h.2.2.2.2.2.2.2.2.2.2.2.2.2.2.2.2.2.2.2.2.2.2.2.2.2.2.2.2.1 c28
      refine s_tableIn d_Law_33 g4 (by rw [c28]; decide) (by rw [c28]; rfl) (tgt := 1268) rfl ?_
      exact h
    by_cases c29 : (iand (f (Int.toNat x3)) 63) = 29
    · have h := h.2.2.2.2.2.2.2.2.2.2.2.2.2.2.2.2.2.2.2.2.2.2.2.2.2.2.2.2.2.1 c29
      refine s_tableIn d_Law_33 g4 (by rw [c29]; decide) (by rw [c29]; rfl) (tgt := 1291) rfl ?_
      exact h
    by_cases c30 : (iand (f (Int.toNat x3)) 63) = 30
    · have h := h.2.2.2.2.2.2.2.2.2.2.2.2.2.2.2.2.2.2.2.2.2.2.2.2.2.2.2.2.2.2.1 c30
      refine s_tableIn d_Law_33 g4 (by rw [c30]; decide) (by rw [c30]; rfl) (tgt := 1324) rfl ?_
      exact h
    by_cases c31 : (iand (f (Int.toNat x3)) 63) = 31
    · have h := h.2.2.2.2.2.2.2.2.2.2.2.2.2.2.2.2.2.2.2.2.2.2.2.2.2.2.2.2.2.2.2.1 c31
      refine s_tableIn d_Law_33 g4 (by rw [c31]; decide) (by rw [c31]; rfl) (tgt := 1357) rfl ?_
      exact h
    by_cases c32 : (iand (f (Int.toNat x3)) 63) = 32
    · have h := h.2.2.2.2.2.2.2.2.2.2.2.2.2.2.2.2.2.2.2.2.2.2.2.2.2.2.2.2.2.2.2.2.1 c32
      refine s_tableIn d_Law_33 g4 (by rw [c32]; decide) (by rw [c32]; rfl) (tgt := 1400) rfl ?_
      exact h
    by_cases c33 : (iand (f (Int.toNat x3)) 63) = 33
    · have h := h.2.2.2.2.2.2.2.2.2.2.2.2.2.2.2.2.2.2.2.2.2.2.2.2.2.2.2.2.2.2.2.2.2.1 c33
      refine s_tableIn d_Law_33 g4 (by rw [c33]; decide) (by rw [c33]; rfl) (tgt := 1443) rfl ?_
      exact h
    by_cases c34 : (iand (f (Int.toNat x3)) 63) = 34
    · have h := h.2.2.2.2.2.2.2.2.2.2.2.2.2.2.2.2.2.2.2.2.2.2.2.2.2.2.2.2.2.2.2.2.2.2.1 c34
      refine s_tableIn d_Law_33 g4 (by rw [c34]; decide) (by rw [c34]; rfl) (tgt := 1486) rfl ?_
      exact h
    by_cases c35 : (iand (f (Int.toNat x3)) 63) = 35
    · have h := h.2.2.2.2.2.2.2.2.2.2.2.2.2.2.2.2.2.2.2.2.2.2.2.2.2.2.2.2.2.2.2.2.2.2.2.1 c35
      refine s_tableIn d_Law_33 g4 (by rw [c35]; decide) (by rw [c35]; rfl) (tgt := 1529) rfl ?_
      exact h
    have c : ¬ (0 ≤ (iand (f (Int.toNat x3)) 63) ∧ (iand (f (Int.toNat x3)) 63) ≤ 35) := by omega
    have h := h.2.2.2.2.2.2.2.2.2.2.2.2.2.2.2.2.2.2.2.2.2.2.2.2.2.2.2.2.2.2.2.2.2.2.2.2 c
    refine s_tableOut d_Law_33 g4 c (tgt := 1552) rfl ?_
    exact h
theorem b_Law_192 {E : EV} {d : Nat} {Q : Option AV → St → Prop} {σ : St} {L : Nat} {f : Nat → Int} (hX : XT E (-7) .int L f) (x3 : Int) (hF : Fix σ) (h : (0 ≤ (x3 + 1) ∧ (x3 + 1) < L) ∧ (0 ≤ (x3 + 2) ∧ (x3 + 2) < L) ∧ (0 ≤ (x3 + 3) ∧ (x3 + 3) < L) ∧ (0 ≤ (x3 + 4) ∧ (x3 + 4) < L) ∧ (0 ≤ (x3 + 5) ∧ (x3 + 5) < L) ∧ (WMi E m_S_feed d [aP 1, aI (f (Int.toNat (x3 + 1))), aI (f (Int.toNat (x3 + 2))), aI (f (Int.toNat (x3 + 3))), aI (f (Int.toNat (x3 + 4))), aI (f (Int.toNat (x3 + 5)))] σ (fun v6 σ6 => Fix σ6 ∧ (0 ≤ (x3 + 1) ∧ (x3 + 1) < L) ∧ (0 ≤ (x3 + 2) ∧ (x3 + 2) < L) ∧ (0 ≤ (x3 + 3) ∧ (x3 + 3) < L) ∧ (0 ≤ (x3 + 4) ∧ (x3 + 4) < L) ∧ (0 ≤ (x3 + 5) ∧ (x3 + 5) < L) ∧ (WMi E m_M_feed d [aP 42, aI (f (Int.toNat (x3 + 1))), aI (f (Int.toNat (x3 + 2))), aI (f (Int.toNat (x3 + 3))), aI (f (Int.toNat (x3 + 4))), aI (f (Int.toNat (x3 + 5)))] σ6 (fun v12 σ12 => (rI v6) ∧ (rI v12) ∧ ((v6 = v12 → WP E m_Law (d + 1) 1552 [(0, aP (-7)), (1, aP 1), (2, aP 42), (3, aI x3)] [] σ12 Q) ∧ (¬ v6 = v12 → Q (some (aI 0)) σ12))))))) : WP E m_Law (d + 1) 192 [(0, aP (-7)), (1, aP 1), (2, aP 42), (3, aI x3)] [] σ Q := by
  refine s_aload_n 1 d_Law_192 rfl rfl ?_
  refine s_aload_n 0 d_Law_193 rfl rfl ?_
  refine s_iload_n 3 d_Law_194 rfl rfl ?_
  refine s_iconst d_Law_195 ?_
  refine s_iadd d_Law_196 ?_
  obtain ⟨g1, h⟩ := h
  refine s_ialdX d_Law_197 hX g1 ?_
  refine s_aload_n 0 d_Law_198 rfl rfl ?_
  refine s_iload_n 3 d_Law_199 rfl rfl ?_
  refine s_iconst d_Law_200 ?_
  refine s_iadd d_Law_201 ?_
  obtain ⟨g2, h⟩ := h
  refine s_ialdX d_Law_202 hX g2 ?_
  refine s_aload_n 0 d_Law_203 rfl rfl ?_
  refine s_iload_n 3 d_Law_204 rfl rfl ?_
  refine s_iconst d_Law_205 ?_
  refine s_iadd d_Law_206 ?_
  obtain ⟨g3, h⟩ := h
  refine s_ialdX d_Law_207 hX g3 ?_
  refine s_aload_n 0 d_Law_208 rfl rfl ?_
  refine s_iload_n 3 d_Law_209 rfl rfl ?_
  refine s_iconst d_Law_210 ?_
  refine s_iadd d_Law_211 ?_
  obtain ⟨g4, h⟩ := h
  refine s_ialdX d_Law_212 hX g4 ?_
  refine s_aload_n 0 d_Law_213 rfl rfl ?_
  refine s_iload_n 3 d_Law_214 rfl rfl ?_
  refine s_iconst d_Law_215 ?_
  refine s_iadd d_Law_216 ?_
  obtain ⟨g5, h⟩ := h
  refine s_ialdX d_Law_217 hX g5 ?_
  refine s_callV (as := [aI (f (Int.toNat (x3 + 1))), aI (f (Int.toNat (x3 + 2))), aI (f (Int.toNat (x3 + 3))), aI (f (Int.toNat (x3 + 4))), aI (f (Int.toNat (x3 + 5)))]) (ci := 9) d_Law_218 ok_S_feed lk_Law_13 io_S_feed so_S_feed (by decide) rfl rfl rfl (Nat.le_of_ble_eq_true rfl) rfl (sf_1 hF) (WM.mono h ?_)
  rintro _ σ6 ⟨v6, rfl, hp, h⟩
  obtain ⟨hF6, h⟩ := h
  show WP E m_Law (d + 1) 221 [(0, aP (-7)), (1, aP 1), (2, aP 42), (3, aI x3)] [aI v6] σ6 Q
  refine s_aload_n 2 d_Law_221 rfl rfl ?_
  refine s_aload_n 0 d_Law_222 rfl rfl ?_
  refine s_iload_n 3 d_Law_223 rfl rfl ?_
  refine s_iconst d_Law_224 ?_
  refine s_iadd d_Law_225 ?_
  obtain ⟨g7, h⟩ := h
  refine s_ialdX d_Law_226 hX g7 ?_
  refine s_aload_n 0 d_Law_227 rfl rfl ?_
  refine s_iload_n 3 d_Law_228 rfl rfl ?_
  refine s_iconst d_Law_229 ?_
  refine s_iadd d_Law_230 ?_
  obtain ⟨g8, h⟩ := h
  refine s_ialdX d_Law_231 hX g8 ?_
  refine s_aload_n 0 d_Law_232 rfl rfl ?_
  refine s_iload_n 3 d_Law_233 rfl rfl ?_
  refine s_iconst d_Law_234 ?_
  refine s_iadd d_Law_235 ?_
  obtain ⟨g9, h⟩ := h
  refine s_ialdX d_Law_236 hX g9 ?_
  refine s_aload_n 0 d_Law_237 rfl rfl ?_
  refine s_iload_n 3 d_Law_238 rfl rfl ?_
  refine s_iconst d_Law_239 ?_
  refine s_iadd d_Law_240 ?_
  obtain ⟨g10, h⟩ := h
  refine s_ialdX d_Law_241 hX g10 ?_
  refine s_aload_n 0 d_Law_242 rfl rfl ?_
  refine s_iload_n 3 d_Law_243 rfl rfl ?_
  refine s_iconst d_Law_244 ?_
  refine s_iadd d_Law_245 ?_
  obtain ⟨g11, h⟩ := h
  refine s_ialdX d_Law_246 hX g11 ?_
  refine s_callV (as := [aI (f (Int.toNat (x3 + 1))), aI (f (Int.toNat (x3 + 2))), aI (f (Int.toNat (x3 + 3))), aI (f (Int.toNat (x3 + 4))), aI (f (Int.toNat (x3 + 5)))]) (ci := 10) d_Law_247 ok_M_feed lk_Law_17 io_M_feed so_M_feed (by decide) rfl rfl rfl (Nat.le_of_ble_eq_true rfl) rfl (sf_42 hF6) (WM.mono h ?_)
  rintro _ σ12 ⟨v12, rfl, hp, h⟩
  show WP E m_Law (d + 1) 250 [(0, aP (-7)), (1, aP 1), (2, aP 42), (3, aI x3)] [aI v12, aI v6] σ12 Q
  obtain ⟨g13, h⟩ := h
  obtain ⟨g14, h⟩ := h
  refine s_icmp_eq d_Law_250 rfl g13 g14 (fun c => ?_) (fun c => ?_)
  · have h := h.1 c
    exact h
  · have h := h.2 c
    refine s_iconst d_Law_253 ?_
    exact s_zreturn d_Law_254 rfl (by decide) h
theorem b_Law_255 {E : EV} {d : Nat} {Q : Option AV → St → Prop} {σ : St} {L : Nat} {f : Nat → Int} (hX : XT E (-7) .int L f) (x3 : Int) (hF : Fix σ) (h : (0 ≤ (x3 + 1) ∧ (x3 + 1) < L) ∧ (WMi E m_S_back d [aP 1, aI (f (Int.toNat (x3 + 1)))] σ (fun v2 σ2 => Fix σ2 ∧ (0 ≤ (x3 + 1) ∧ (x3 + 1) < L) ∧ (WMi E m_M_back d [aP 42, aI (f (Int.toNat (x3 + 1)))] σ2 (fun v4 σ4 => (rI v2) ∧ (rI v4) ∧ ((v2 = v4 → WP E m_Law (d + 1) 1552 [(0, aP (-7)), (1, aP 1), (2, aP 42), (3, aI x3)] [] σ4 Q) ∧ (¬ v2 = v4 → Q (some (aI 0)) σ4))))))) : WP E m_Law (d + 1) 255 [(0, aP (-7)), (1, aP 1), (2, aP 42), (3, aI x3)] [] σ Q := by
  refine s_aload_n 1 d_Law_255 rfl rfl ?_
  refine s_aload_n 0 d_Law_256 rfl rfl ?_
  refine s_iload_n 3 d_Law_257 rfl rfl ?_
  refine s_iconst d_Law_258 ?_
  refine s_iadd d_Law_259 ?_
  obtain ⟨g1, h⟩ := h
  refine s_ialdX d_Law_260 hX g1 ?_
  refine s_callV (as := [aI (f (Int.toNat (x3 + 1)))]) (ci := 9) d_Law_261 ok_S_back lk_Law_18 io_S_back so_S_back (by decide) rfl rfl rfl (Nat.le_of_ble_eq_true rfl) rfl (sf_1 hF) (WM.mono h ?_)
  rintro _ σ2 ⟨v2, rfl, hp, h⟩
  obtain ⟨hF2, h⟩ := h
  show WP E m_Law (d + 1) 264 [(0, aP (-7)), (1, aP 1), (2, aP 42), (3, aI x3)] [aI v2] σ2 Q
  refine s_aload_n 2 d_Law_264 rfl rfl ?_
  refine s_aload_n 0 d_Law_265 rfl rfl ?_
  refine s_iload_n 3 d_Law_266 rfl rfl ?_
  refine s_iconst d_Law_267 ?_
  refine s_iadd d_Law_268 ?_
  obtain ⟨g3, h⟩ := h
  refine s_ialdX d_Law_269 hX g3 ?_
  refine s_callV (as := [aI (f (Int.toNat (x3 + 1)))]) (ci := 10) d_Law_270 ok_M_back lk_Law_22 io_M_back so_M_back (by decide) rfl rfl rfl (Nat.le_of_ble_eq_true rfl) rfl (sf_42 hF2) (WM.mono h ?_)
  rintro _ σ4 ⟨v4, rfl, hp, h⟩
  show WP E m_Law (d + 1) 273 [(0, aP (-7)), (1, aP 1), (2, aP 42), (3, aI x3)] [aI v4, aI v2] σ4 Q
  obtain ⟨g5, h⟩ := h
  obtain ⟨g6, h⟩ := h
  refine s_icmp_eq d_Law_273 rfl g5 g6 (fun c => ?_) (fun c => ?_)
  · have h := h.1 c
    exact h
  · have h := h.2 c
    refine s_iconst d_Law_276 ?_
    exact s_zreturn d_Law_277 rfl (by decide) h
theorem b_Law_278 {E : EV} {d : Nat} {Q : Option AV → St → Prop} {σ : St} {L : Nat} {f : Nat → Int} (hX : XT E (-7) .int L f) (x3 : Int) (hF : Fix σ) (h : (WMi E m_S_text d [aP 1] σ (fun v1 σ1 => Fix σ1 ∧ (WMi E m_M_text d [aP 42] σ1 (fun v2 σ2 => (rI v1) ∧ (rI v2) ∧ ((v1 = v2 → WP E m_Law (d + 1) 1552 [(0, aP (-7)), (1, aP 1), (2, aP 42), (3, aI x3)] [] σ2 Q) ∧ (¬ v1 = v2 → Q (some (aI 0)) σ2))))))) : WP E m_Law (d + 1) 278 [(0, aP (-7)), (1, aP 1), (2, aP 42), (3, aI x3)] [] σ Q := by
  refine s_aload_n 1 d_Law_278 rfl rfl ?_
  refine s_callV (as := []) (ci := 9) d_Law_279 ok_S_text lk_Law_23 io_S_text so_S_text (by decide) rfl rfl rfl (Nat.le_of_ble_eq_true rfl) rfl (sf_1 hF) (WM.mono h ?_)
  rintro _ σ1 ⟨v1, rfl, hp, h⟩
  obtain ⟨hF1, h⟩ := h
  show WP E m_Law (d + 1) 282 [(0, aP (-7)), (1, aP 1), (2, aP 42), (3, aI x3)] [aI v1] σ1 Q
  refine s_aload_n 2 d_Law_282 rfl rfl ?_
  refine s_callV (as := []) (ci := 10) d_Law_283 ok_M_text lk_Law_27 io_M_text so_M_text (by decide) rfl rfl rfl (Nat.le_of_ble_eq_true rfl) rfl (sf_42 hF1) (WM.mono h ?_)
  rintro _ σ2 ⟨v2, rfl, hp, h⟩
  show WP E m_Law (d + 1) 286 [(0, aP (-7)), (1, aP 1), (2, aP 42), (3, aI x3)] [aI v2, aI v1] σ2 Q
  obtain ⟨g3, h⟩ := h
  obtain ⟨g4, h⟩ := h
  refine s_icmp_eq d_Law_286 rfl g3 g4 (fun c => ?_) (fun c => ?_)
  · have h := h.1 c
    exact h
  · have h := h.2 c
    refine s_iconst d_Law_289 ?_
    exact s_zreturn d_Law_290 rfl (by decide) h
theorem b_Law_291 {E : EV} {d : Nat} {Q : Option AV → St → Prop} {σ : St} {L : Nat} {f : Nat → Int} (hX : XT E (-7) .int L f) (x3 : Int) (hF : Fix σ) (h : (0 ≤ (x3 + 1) ∧ (x3 + 1) < L) ∧ (0 ≤ (x3 + 2) ∧ (x3 + 2) < L) ∧ (0 ≤ (x3 + 3) ∧ (x3 + 3) < L) ∧ (0 ≤ (x3 + 4) ∧ (x3 + 4) < L) ∧ (WMi E m_S_exchange d [aP 1, aI (f (Int.toNat (x3 + 1))), aI (f (Int.toNat (x3 + 2))), aI (f (Int.toNat (x3 + 3))), aI (f (Int.toNat (x3 + 4)))] σ (fun v5 σ5 => Fix σ5 ∧ (0 ≤ (x3 + 1) ∧ (x3 + 1) < L) ∧ (0 ≤ (x3 + 2) ∧ (x3 + 2) < L) ∧ (0 ≤ (x3 + 3) ∧ (x3 + 3) < L) ∧ (0 ≤ (x3 + 4) ∧ (x3 + 4) < L) ∧ (WMi E m_M_exchange d [aP 42, aI (f (Int.toNat (x3 + 1))), aI (f (Int.toNat (x3 + 2))), aI (f (Int.toNat (x3 + 3))), aI (f (Int.toNat (x3 + 4)))] σ5 (fun v10 σ10 => (rI v5) ∧ (rI v10) ∧ ((v5 = v10 → WP E m_Law (d + 1) 1552 [(0, aP (-7)), (1, aP 1), (2, aP 42), (3, aI x3)] [] σ10 Q) ∧ (¬ v5 = v10 → Q (some (aI 0)) σ10))))))) : WP E m_Law (d + 1) 291 [(0, aP (-7)), (1, aP 1), (2, aP 42), (3, aI x3)] [] σ Q := by
  refine s_aload_n 1 d_Law_291 rfl rfl ?_
  refine s_aload_n 0 d_Law_292 rfl rfl ?_
  refine s_iload_n 3 d_Law_293 rfl rfl ?_
  refine s_iconst d_Law_294 ?_
  refine s_iadd d_Law_295 ?_
  obtain ⟨g1, h⟩ := h
  refine s_ialdX d_Law_296 hX g1 ?_
  refine s_aload_n 0 d_Law_297 rfl rfl ?_
  refine s_iload_n 3 d_Law_298 rfl rfl ?_
  refine s_iconst d_Law_299 ?_
  refine s_iadd d_Law_300 ?_
  obtain ⟨g2, h⟩ := h
  refine s_ialdX d_Law_301 hX g2 ?_
  refine s_aload_n 0 d_Law_302 rfl rfl ?_
  refine s_iload_n 3 d_Law_303 rfl rfl ?_
  refine s_iconst d_Law_304 ?_
  refine s_iadd d_Law_305 ?_
  obtain ⟨g3, h⟩ := h
  refine s_ialdX d_Law_306 hX g3 ?_
  refine s_aload_n 0 d_Law_307 rfl rfl ?_
  refine s_iload_n 3 d_Law_308 rfl rfl ?_
  refine s_iconst d_Law_309 ?_
  refine s_iadd d_Law_310 ?_
  obtain ⟨g4, h⟩ := h
  refine s_ialdX d_Law_311 hX g4 ?_
  refine s_callV (as := [aI (f (Int.toNat (x3 + 1))), aI (f (Int.toNat (x3 + 2))), aI (f (Int.toNat (x3 + 3))), aI (f (Int.toNat (x3 + 4)))]) (ci := 9) d_Law_312 ok_S_exchange lk_Law_28 io_S_exchange so_S_exchange (by decide) rfl rfl rfl (Nat.le_of_ble_eq_true rfl) rfl (sf_1 hF) (WM.mono h ?_)
  rintro _ σ5 ⟨v5, rfl, hp, h⟩
  obtain ⟨hF5, h⟩ := h
  show WP E m_Law (d + 1) 315 [(0, aP (-7)), (1, aP 1), (2, aP 42), (3, aI x3)] [aI v5] σ5 Q
  refine s_aload_n 2 d_Law_315 rfl rfl ?_
  refine s_aload_n 0 d_Law_316 rfl rfl ?_
  refine s_iload_n 3 d_Law_317 rfl rfl ?_
  refine s_iconst d_Law_318 ?_
  refine s_iadd d_Law_319 ?_
  obtain ⟨g6, h⟩ := h
  refine s_ialdX d_Law_320 hX g6 ?_
  refine s_aload_n 0 d_Law_321 rfl rfl ?_
  refine s_iload_n 3 d_Law_322 rfl rfl ?_
  refine s_iconst d_Law_323 ?_
  refine s_iadd d_Law_324 ?_
  obtain ⟨g7, h⟩ := h
  refine s_ialdX d_Law_325 hX g7 ?_
  refine s_aload_n 0 d_Law_326 rfl rfl ?_
  refine s_iload_n 3 d_Law_327 rfl rfl ?_
  refine s_iconst d_Law_328 ?_
  refine s_iadd d_Law_329 ?_
  obtain ⟨g8, h⟩ := h
  refine s_ialdX d_Law_330 hX g8 ?_
  refine s_aload_n 0 d_Law_331 rfl rfl ?_
  refine s_iload_n 3 d_Law_332 rfl rfl ?_
  refine s_iconst d_Law_333 ?_
  refine s_iadd d_Law_334 ?_
  obtain ⟨g9, h⟩ := h
  refine s_ialdX d_Law_335 hX g9 ?_
  refine s_callV (as := [aI (f (Int.toNat (x3 + 1))), aI (f (Int.toNat (x3 + 2))), aI (f (Int.toNat (x3 + 3))), aI (f (Int.toNat (x3 + 4)))]) (ci := 10) d_Law_336 ok_M_exchange lk_Law_32 io_M_exchange so_M_exchange (by decide) rfl rfl rfl (Nat.le_of_ble_eq_true rfl) rfl (sf_42 hF5) (WM.mono h ?_)
  rintro _ σ10 ⟨v10, rfl, hp, h⟩
  show WP E m_Law (d + 1) 339 [(0, aP (-7)), (1, aP 1), (2, aP 42), (3, aI x3)] [aI v10, aI v5] σ10 Q
  obtain ⟨g11, h⟩ := h
  obtain ⟨g12, h⟩ := h
  refine s_icmp_eq d_Law_339 rfl g11 g12 (fun c => ?_) (fun c => ?_)
  · have h := h.1 c
    exact h
  · have h := h.2 c
    refine s_iconst d_Law_342 ?_
    exact s_zreturn d_Law_343 rfl (by decide) h
theorem b_Law_344 {E : EV} {d : Nat} {Q : Option AV → St → Prop} {σ : St} {L : Nat} {f : Nat → Int} (hX : XT E (-7) .int L f) (x3 : Int) (hF : Fix σ) (h : (0 ≤ (x3 + 1) ∧ (x3 + 1) < L) ∧ (0 ≤ (x3 + 2) ∧ (x3 + 2) < L) ∧ (WMi E m_S_turn d [aP 1, aI (f (Int.toNat (x3 + 1))), aI (f (Int.toNat (x3 + 2)))] σ (fun v3 σ3 => Fix σ3 ∧ (0 ≤ (x3 + 1) ∧ (x3 + 1) < L) ∧ (0 ≤ (x3 + 2) ∧ (x3 + 2) < L) ∧ (WMi E m_M_turn d [aP 42, aI (f (Int.toNat (x3 + 1))), aI (f (Int.toNat (x3 + 2)))] σ3 (fun v6 σ6 => (rI v3) ∧ (rI v6) ∧ ((v3 = v6 → WP E m_Law (d + 1) 1552 [(0, aP (-7)), (1, aP 1), (2, aP 42), (3, aI x3)] [] σ6 Q) ∧ (¬ v3 = v6 → Q (some (aI 0)) σ6))))))) : WP E m_Law (d + 1) 344 [(0, aP (-7)), (1, aP 1), (2, aP 42), (3, aI x3)] [] σ Q := by
  refine s_aload_n 1 d_Law_344 rfl rfl ?_
  refine s_aload_n 0 d_Law_345 rfl rfl ?_
  refine s_iload_n 3 d_Law_346 rfl rfl ?_
  refine s_iconst d_Law_347 ?_
  refine s_iadd d_Law_348 ?_
  obtain ⟨g1, h⟩ := h
  refine s_ialdX d_Law_349 hX g1 ?_
  refine s_aload_n 0 d_Law_350 rfl rfl ?_
  refine s_iload_n 3 d_Law_351 rfl rfl ?_
  refine s_iconst d_Law_352 ?_
  refine s_iadd d_Law_353 ?_
  obtain ⟨g2, h⟩ := h
  refine s_ialdX d_Law_354 hX g2 ?_
  refine s_callV (as := [aI (f (Int.toNat (x3 + 1))), aI (f (Int.toNat (x3 + 2)))]) (ci := 9) d_Law_355 ok_S_turn lk_Law_33 io_S_turn so_S_turn (by decide) rfl rfl rfl (Nat.le_of_ble_eq_true rfl) rfl (sf_1 hF) (WM.mono h ?_)
  rintro _ σ3 ⟨v3, rfl, hp, h⟩
  obtain ⟨hF3, h⟩ := h
  show WP E m_Law (d + 1) 358 [(0, aP (-7)), (1, aP 1), (2, aP 42), (3, aI x3)] [aI v3] σ3 Q
  refine s_aload_n 2 d_Law_358 rfl rfl ?_
  refine s_aload_n 0 d_Law_359 rfl rfl ?_
  refine s_iload_n 3 d_Law_360 rfl rfl ?_
  refine s_iconst d_Law_361 ?_
  refine s_iadd d_Law_362 ?_
  obtain ⟨g4, h⟩ := h
  refine s_ialdX d_Law_363 hX g4 ?_
  refine s_aload_n 0 d_Law_364 rfl rfl ?_
  refine s_iload_n 3 d_Law_365 rfl rfl ?_
  refine s_iconst d_Law_366 ?_
  refine s_iadd d_Law_367 ?_
  obtain ⟨g5, h⟩ := h
  refine s_ialdX d_Law_368 hX g5 ?_
  refine s_callV (as := [aI (f (Int.toNat (x3 + 1))), aI (f (Int.toNat (x3 + 2)))]) (ci := 10) d_Law_369 ok_M_turn lk_Law_37 io_M_turn so_M_turn (by decide) rfl rfl rfl (Nat.le_of_ble_eq_true rfl) rfl (sf_42 hF3) (WM.mono h ?_)
  rintro _ σ6 ⟨v6, rfl, hp, h⟩
  show WP E m_Law (d + 1) 372 [(0, aP (-7)), (1, aP 1), (2, aP 42), (3, aI x3)] [aI v6, aI v3] σ6 Q
  obtain ⟨g7, h⟩ := h
  obtain ⟨g8, h⟩ := h
  refine s_icmp_eq d_Law_372 rfl g7 g8 (fun c => ?_) (fun c => ?_)
  · have h := h.1 c
    exact h
  · have h := h.2 c
    refine s_iconst d_Law_375 ?_
    exact s_zreturn d_Law_376 rfl (by decide) h
theorem b_Law_377 {E : EV} {d : Nat} {Q : Option AV → St → Prop} {σ : St} {L : Nat} {f : Nat → Int} (hX : XT E (-7) .int L f) (x3 : Int) (hF : Fix σ) (h : (0 ≤ (x3 + 1) ∧ (x3 + 1) < L) ∧ (0 ≤ (x3 + 2) ∧ (x3 + 2) < L) ∧ (WMi E m_S_join d [aP 1, aI (f (Int.toNat (x3 + 1))), aI (f (Int.toNat (x3 + 2)))] σ (fun v3 σ3 => Fix σ3 ∧ (0 ≤ (x3 + 1) ∧ (x3 + 1) < L) ∧ (0 ≤ (x3 + 2) ∧ (x3 + 2) < L) ∧ (WMi E m_M_join d [aP 42, aI (f (Int.toNat (x3 + 1))), aI (f (Int.toNat (x3 + 2)))] σ3 (fun v6 σ6 => (rI v3) ∧ (rI v6) ∧ ((v3 = v6 → WP E m_Law (d + 1) 1552 [(0, aP (-7)), (1, aP 1), (2, aP 42), (3, aI x3)] [] σ6 Q) ∧ (¬ v3 = v6 → Q (some (aI 0)) σ6))))))) : WP E m_Law (d + 1) 377 [(0, aP (-7)), (1, aP 1), (2, aP 42), (3, aI x3)] [] σ Q := by
  refine s_aload_n 1 d_Law_377 rfl rfl ?_
  refine s_aload_n 0 d_Law_378 rfl rfl ?_
  refine s_iload_n 3 d_Law_379 rfl rfl ?_
  refine s_iconst d_Law_380 ?_
  refine s_iadd d_Law_381 ?_
  obtain ⟨g1, h⟩ := h
  refine s_ialdX d_Law_382 hX g1 ?_
  refine s_aload_n 0 d_Law_383 rfl rfl ?_
  refine s_iload_n 3 d_Law_384 rfl rfl ?_
  refine s_iconst d_Law_385 ?_
  refine s_iadd d_Law_386 ?_
  obtain ⟨g2, h⟩ := h
  refine s_ialdX d_Law_387 hX g2 ?_
  refine s_callV (as := [aI (f (Int.toNat (x3 + 1))), aI (f (Int.toNat (x3 + 2)))]) (ci := 9) d_Law_388 ok_S_join lk_Law_38 io_S_join so_S_join (by decide) rfl rfl rfl (Nat.le_of_ble_eq_true rfl) rfl (sf_1 hF) (WM.mono h ?_)
  rintro _ σ3 ⟨v3, rfl, hp, h⟩
  obtain ⟨hF3, h⟩ := h
  show WP E m_Law (d + 1) 391 [(0, aP (-7)), (1, aP 1), (2, aP 42), (3, aI x3)] [aI v3] σ3 Q
  refine s_aload_n 2 d_Law_391 rfl rfl ?_
  refine s_aload_n 0 d_Law_392 rfl rfl ?_
  refine s_iload_n 3 d_Law_393 rfl rfl ?_
  refine s_iconst d_Law_394 ?_
  refine s_iadd d_Law_395 ?_
  obtain ⟨g4, h⟩ := h
  refine s_ialdX d_Law_396 hX g4 ?_
  refine s_aload_n 0 d_Law_397 rfl rfl ?_
  refine s_iload_n 3 d_Law_398 rfl rfl ?_
  refine s_iconst d_Law_399 ?_
  refine s_iadd d_Law_400 ?_
  obtain ⟨g5, h⟩ := h
  refine s_ialdX d_Law_401 hX g5 ?_
  refine s_callV (as := [aI (f (Int.toNat (x3 + 1))), aI (f (Int.toNat (x3 + 2)))]) (ci := 10) d_Law_402 ok_M_join lk_Law_41 io_M_join so_M_join (by decide) rfl rfl rfl (Nat.le_of_ble_eq_true rfl) rfl (sf_42 hF3) (WM.mono h ?_)
  rintro _ σ6 ⟨v6, rfl, hp, h⟩
  show WP E m_Law (d + 1) 405 [(0, aP (-7)), (1, aP 1), (2, aP 42), (3, aI x3)] [aI v6, aI v3] σ6 Q
  obtain ⟨g7, h⟩ := h
  obtain ⟨g8, h⟩ := h
  refine s_icmp_eq d_Law_405 rfl g7 g8 (fun c => ?_) (fun c => ?_)
  · have h := h.1 c
    exact h
  · have h := h.2 c
    refine s_iconst d_Law_408 ?_
    exact s_zreturn d_Law_409 rfl (by decide) h
theorem b_Law_410 {E : EV} {d : Nat} {Q : Option AV → St → Prop} {σ : St} {L : Nat} {f : Nat → Int} (hX : XT E (-7) .int L f) (x3 : Int) (hF : Fix σ) (h : (0 ≤ (x3 + 1) ∧ (x3 + 1) < L) ∧ (0 ≤ (x3 + 2) ∧ (x3 + 2) < L) ∧ (WMi E m_S_part d [aP 1, aI (f (Int.toNat (x3 + 1))), aI (f (Int.toNat (x3 + 2)))] σ (fun v3 σ3 => Fix σ3 ∧ (0 ≤ (x3 + 1) ∧ (x3 + 1) < L) ∧ (0 ≤ (x3 + 2) ∧ (x3 + 2) < L) ∧ (WMi E m_M_part d [aP 42, aI (f (Int.toNat (x3 + 1))), aI (f (Int.toNat (x3 + 2)))] σ3 (fun v6 σ6 => (rI v3) ∧ (rI v6) ∧ ((v3 = v6 → WP E m_Law (d + 1) 1552 [(0, aP (-7)), (1, aP 1), (2, aP 42), (3, aI x3)] [] σ6 Q) ∧ (¬ v3 = v6 → Q (some (aI 0)) σ6))))))) : WP E m_Law (d + 1) 410 [(0, aP (-7)), (1, aP 1), (2, aP 42), (3, aI x3)] [] σ Q := by
  refine s_aload_n 1 d_Law_410 rfl rfl ?_
  refine s_aload_n 0 d_Law_411 rfl rfl ?_
  refine s_iload_n 3 d_Law_412 rfl rfl ?_
  refine s_iconst d_Law_413 ?_
  refine s_iadd d_Law_414 ?_
  obtain ⟨g1, h⟩ := h
  refine s_ialdX d_Law_415 hX g1 ?_
  refine s_aload_n 0 d_Law_416 rfl rfl ?_
  refine s_iload_n 3 d_Law_417 rfl rfl ?_
  refine s_iconst d_Law_418 ?_
  refine s_iadd d_Law_419 ?_
  obtain ⟨g2, h⟩ := h
  refine s_ialdX d_Law_420 hX g2 ?_
  refine s_callV (as := [aI (f (Int.toNat (x3 + 1))), aI (f (Int.toNat (x3 + 2)))]) (ci := 9) d_Law_421 ok_S_part lk_Law_42 io_S_part so_S_part (by decide) rfl rfl rfl (Nat.le_of_ble_eq_true rfl) rfl (sf_1 hF) (WM.mono h ?_)
  rintro _ σ3 ⟨v3, rfl, hp, h⟩
  obtain ⟨hF3, h⟩ := h
  show WP E m_Law (d + 1) 424 [(0, aP (-7)), (1, aP 1), (2, aP 42), (3, aI x3)] [aI v3] σ3 Q
  refine s_aload_n 2 d_Law_424 rfl rfl ?_
  refine s_aload_n 0 d_Law_425 rfl rfl ?_
  refine s_iload_n 3 d_Law_426 rfl rfl ?_
  refine s_iconst d_Law_427 ?_
  refine s_iadd d_Law_428 ?_
  obtain ⟨g4, h⟩ := h
  refine s_ialdX d_Law_429 hX g4 ?_
  refine s_aload_n 0 d_Law_430 rfl rfl ?_
  refine s_iload_n 3 d_Law_431 rfl rfl ?_
  refine s_iconst d_Law_432 ?_
  refine s_iadd d_Law_433 ?_
  obtain ⟨g5, h⟩ := h
  refine s_ialdX d_Law_434 hX g5 ?_
  refine s_callV (as := [aI (f (Int.toNat (x3 + 1))), aI (f (Int.toNat (x3 + 2)))]) (ci := 10) d_Law_435 ok_M_part lk_Law_45 io_M_part so_M_part (by decide) rfl rfl rfl (Nat.le_of_ble_eq_true rfl) rfl (sf_42 hF3) (WM.mono h ?_)
  rintro _ σ6 ⟨v6, rfl, hp, h⟩
  show WP E m_Law (d + 1) 438 [(0, aP (-7)), (1, aP 1), (2, aP 42), (3, aI x3)] [aI v6, aI v3] σ6 Q
  obtain ⟨g7, h⟩ := h
  obtain ⟨g8, h⟩ := h
  refine s_icmp_eq d_Law_438 rfl g7 g8 (fun c => ?_) (fun c => ?_)
  · have h := h.1 c
    exact h
  · have h := h.2 c
    refine s_iconst d_Law_441 ?_
    exact s_zreturn d_Law_442 rfl (by decide) h
theorem b_Law_443 {E : EV} {d : Nat} {Q : Option AV → St → Prop} {σ : St} {L : Nat} {f : Nat → Int} (hX : XT E (-7) .int L f) (x3 : Int) (hF : Fix σ) (h : (0 ≤ (x3 + 1) ∧ (x3 + 1) < L) ∧ (0 ≤ (x3 + 2) ∧ (x3 + 2) < L) ∧ (0 ≤ (x3 + 3) ∧ (x3 + 3) < L) ∧ (0 ≤ (x3 + 4) ∧ (x3 + 4) < L) ∧ (WMi E m_S_swap d [aP 1, aI (f (Int.toNat (x3 + 1))), aI (f (Int.toNat (x3 + 2))), aI (f (Int.toNat (x3 + 3))), aI (f (Int.toNat (x3 + 4)))] σ (fun v5 σ5 => Fix σ5 ∧ (0 ≤ (x3 + 1) ∧ (x3 + 1) < L) ∧ (0 ≤ (x3 + 2) ∧ (x3 + 2) < L) ∧ (0 ≤ (x3 + 3) ∧ (x3 + 3) < L) ∧ (0 ≤ (x3 + 4) ∧ (x3 + 4) < L) ∧ (WMi E m_M_swap d [aP 42, aI (f (Int.toNat (x3 + 1))), aI (f (Int.toNat (x3 + 2))), aI (f (Int.toNat (x3 + 3))), aI (f (Int.toNat (x3 + 4)))] σ5 (fun v10 σ10 => (rI v5) ∧ (rI v10) ∧ ((v5 = v10 → WP E m_Law (d + 1) 1552 [(0, aP (-7)), (1, aP 1), (2, aP 42), (3, aI x3)] [] σ10 Q) ∧ (¬ v5 = v10 → Q (some (aI 0)) σ10))))))) : WP E m_Law (d + 1) 443 [(0, aP (-7)), (1, aP 1), (2, aP 42), (3, aI x3)] [] σ Q := by
  refine s_aload_n 1 d_Law_443 rfl rfl ?_
  refine s_aload_n 0 d_Law_444 rfl rfl ?_
  refine s_iload_n 3 d_Law_445 rfl rfl ?_
  refine s_iconst d_Law_446 ?_
  refine s_iadd d_Law_447 ?_
  obtain ⟨g1, h⟩ := h
  refine s_ialdX d_Law_448 hX g1 ?_
  refine s_aload_n 0 d_Law_449 rfl rfl ?_
  refine s_iload_n 3 d_Law_450 rfl rfl ?_
  refine s_iconst d_Law_451 ?_
  refine s_iadd d_Law_452 ?_
  obtain ⟨g2, h⟩ := h
  refine s_ialdX d_Law_453 hX g2 ?_
  refine s_aload_n 0 d_Law_454 rfl rfl ?_
  refine s_iload_n 3 d_Law_455 rfl rfl ?_
  refine s_iconst d_Law_456 ?_
  refine s_iadd d_Law_457 ?_
  obtain ⟨g3, h⟩ := h
  refine s_ialdX d_Law_458 hX g3 ?_
  refine s_aload_n 0 d_Law_459 rfl rfl ?_
  refine s_iload_n 3 d_Law_460 rfl rfl ?_
  refine s_iconst d_Law_461 ?_
  refine s_iadd d_Law_462 ?_
  obtain ⟨g4, h⟩ := h
  refine s_ialdX d_Law_463 hX g4 ?_
  refine s_callV (as := [aI (f (Int.toNat (x3 + 1))), aI (f (Int.toNat (x3 + 2))), aI (f (Int.toNat (x3 + 3))), aI (f (Int.toNat (x3 + 4)))]) (ci := 9) d_Law_464 ok_S_swap lk_Law_46 io_S_swap so_S_swap (by decide) rfl rfl rfl (Nat.le_of_ble_eq_true rfl) rfl (sf_1 hF) (WM.mono h ?_)
  rintro _ σ5 ⟨v5, rfl, hp, h⟩
  obtain ⟨hF5, h⟩ := h
  show WP E m_Law (d + 1) 467 [(0, aP (-7)), (1, aP 1), (2, aP 42), (3, aI x3)] [aI v5] σ5 Q
  refine s_aload_n 2 d_Law_467 rfl rfl ?_
  refine s_aload_n 0 d_Law_468 rfl rfl ?_
  refine s_iload_n 3 d_Law_469 rfl rfl ?_
  refine s_iconst d_Law_470 ?_
  refine s_iadd d_Law_471 ?_
  obtain ⟨g6, h⟩ := h
  refine s_ialdX d_Law_472 hX g6 ?_
  refine s_aload_n 0 d_Law_473 rfl rfl ?_
  refine s_iload_n 3 d_Law_474 rfl rfl ?_
  refine s_iconst d_Law_475 ?_
  refine s_iadd d_Law_476 ?_
  obtain ⟨g7, h⟩ := h
  refine s_ialdX d_Law_477 hX g7 ?_
  refine s_aload_n 0 d_Law_478 rfl rfl ?_
  refine s_iload_n 3 d_Law_479 rfl rfl ?_
  refine s_iconst d_Law_480 ?_
  refine s_iadd d_Law_481 ?_
  obtain ⟨g8, h⟩ := h
  refine s_ialdX d_Law_482 hX g8 ?_
  refine s_aload_n 0 d_Law_483 rfl rfl ?_
  refine s_iload_n 3 d_Law_484 rfl rfl ?_
  refine s_iconst d_Law_485 ?_
  refine s_iadd d_Law_486 ?_
  obtain ⟨g9, h⟩ := h
  refine s_ialdX d_Law_487 hX g9 ?_
  refine s_callV (as := [aI (f (Int.toNat (x3 + 1))), aI (f (Int.toNat (x3 + 2))), aI (f (Int.toNat (x3 + 3))), aI (f (Int.toNat (x3 + 4)))]) (ci := 10) d_Law_488 ok_M_swap lk_Law_49 io_M_swap so_M_swap (by decide) rfl rfl rfl (Nat.le_of_ble_eq_true rfl) rfl (sf_42 hF5) (WM.mono h ?_)
  rintro _ σ10 ⟨v10, rfl, hp, h⟩
  show WP E m_Law (d + 1) 491 [(0, aP (-7)), (1, aP 1), (2, aP 42), (3, aI x3)] [aI v10, aI v5] σ10 Q
  obtain ⟨g11, h⟩ := h
  obtain ⟨g12, h⟩ := h
  refine s_icmp_eq d_Law_491 rfl g11 g12 (fun c => ?_) (fun c => ?_)
  · have h := h.1 c
    exact h
  · have h := h.2 c
    refine s_iconst d_Law_494 ?_
    exact s_zreturn d_Law_495 rfl (by decide) h
theorem b_Law_496 {E : EV} {d : Nat} {Q : Option AV → St → Prop} {σ : St} {L : Nat} {f : Nat → Int} (hX : XT E (-7) .int L f) (x3 : Int) (hF : Fix σ) (h : (0 ≤ (x3 + 1) ∧ (x3 + 1) < L) ∧ (0 ≤ (x3 + 2) ∧ (x3 + 2) < L) ∧ (0 ≤ (x3 + 3) ∧ (x3 + 3) < L) ∧ (WMi E m_S_insert d [aP 1, aI (f (Int.toNat (x3 + 1))), aI (f (Int.toNat (x3 + 2))), aI (f (Int.toNat (x3 + 3)))] σ (fun v4 σ4 => Fix σ4 ∧ (0 ≤ (x3 + 1) ∧ (x3 + 1) < L) ∧ (0 ≤ (x3 + 2) ∧ (x3 + 2) < L) ∧ (0 ≤ (x3 + 3) ∧ (x3 + 3) < L) ∧ (WMi E m_M_insert d [aP 42, aI (f (Int.toNat (x3 + 1))), aI (f (Int.toNat (x3 + 2))), aI (f (Int.toNat (x3 + 3)))] σ4 (fun v8 σ8 => (rI v4) ∧ (rI v8) ∧ ((v4 = v8 → WP E m_Law (d + 1) 1552 [(0, aP (-7)), (1, aP 1), (2, aP 42), (3, aI x3)] [] σ8 Q) ∧ (¬ v4 = v8 → Q (some (aI 0)) σ8))))))) : WP E m_Law (d + 1) 496 [(0, aP (-7)), (1, aP 1), (2, aP 42), (3, aI x3)] [] σ Q := by
  refine s_aload_n 1 d_Law_496 rfl rfl ?_
  refine s_aload_n 0 d_Law_497 rfl rfl ?_
  refine s_iload_n 3 d_Law_498 rfl rfl ?_
  refine s_iconst d_Law_499 ?_
  refine s_iadd d_Law_500 ?_
  obtain ⟨g1, h⟩ := h
  refine s_ialdX d_Law_501 hX g1 ?_
  refine s_aload_n 0 d_Law_502 rfl rfl ?_
  refine s_iload_n 3 d_Law_503 rfl rfl ?_
  refine s_iconst d_Law_504 ?_
  refine s_iadd d_Law_505 ?_
  obtain ⟨g2, h⟩ := h
  refine s_ialdX d_Law_506 hX g2 ?_
  refine s_aload_n 0 d_Law_507 rfl rfl ?_
  refine s_iload_n 3 d_Law_508 rfl rfl ?_
  refine s_iconst d_Law_509 ?_
  refine s_iadd d_Law_510 ?_
  obtain ⟨g3, h⟩ := h
  refine s_ialdX d_Law_511 hX g3 ?_
  refine s_callV (as := [aI (f (Int.toNat (x3 + 1))), aI (f (Int.toNat (x3 + 2))), aI (f (Int.toNat (x3 + 3)))]) (ci := 9) d_Law_512 ok_S_insert lk_Law_50 io_S_insert so_S_insert (by decide) rfl rfl rfl (Nat.le_of_ble_eq_true rfl) rfl (sf_1 hF) (WM.mono h ?_)
  rintro _ σ4 ⟨v4, rfl, hp, h⟩
  obtain ⟨hF4, h⟩ := h
  show WP E m_Law (d + 1) 515 [(0, aP (-7)), (1, aP 1), (2, aP 42), (3, aI x3)] [aI v4] σ4 Q
  refine s_aload_n 2 d_Law_515 rfl rfl ?_
  refine s_aload_n 0 d_Law_516 rfl rfl ?_
  refine s_iload_n 3 d_Law_517 rfl rfl ?_
  refine s_iconst d_Law_518 ?_
  refine s_iadd d_Law_519 ?_
  obtain ⟨g5, h⟩ := h
  refine s_ialdX d_Law_520 hX g5 ?_
  refine s_aload_n 0 d_Law_521 rfl rfl ?_
  refine s_iload_n 3 d_Law_522 rfl rfl ?_
  refine s_iconst d_Law_523 ?_
  refine s_iadd d_Law_524 ?_
  obtain ⟨g6, h⟩ := h
  refine s_ialdX d_Law_525 hX g6 ?_
  refine s_aload_n 0 d_Law_526 rfl rfl ?_
  refine s_iload_n 3 d_Law_527 rfl rfl ?_
  refine s_iconst d_Law_528 ?_
  refine s_iadd d_Law_529 ?_
  obtain ⟨g7, h⟩ := h
  refine s_ialdX d_Law_530 hX g7 ?_
  refine s_callV (as := [aI (f (Int.toNat (x3 + 1))), aI (f (Int.toNat (x3 + 2))), aI (f (Int.toNat (x3 + 3)))]) (ci := 10) d_Law_531 ok_M_insert lk_Law_54 io_M_insert so_M_insert (by decide) rfl rfl rfl (Nat.le_of_ble_eq_true rfl) rfl (sf_42 hF4) (WM.mono h ?_)
  rintro _ σ8 ⟨v8, rfl, hp, h⟩
  show WP E m_Law (d + 1) 534 [(0, aP (-7)), (1, aP 1), (2, aP 42), (3, aI x3)] [aI v8, aI v4] σ8 Q
  obtain ⟨g9, h⟩ := h
  obtain ⟨g10, h⟩ := h
  refine s_icmp_eq d_Law_534 rfl g9 g10 (fun c => ?_) (fun c => ?_)
  · have h := h.1 c
    exact h
  · have h := h.2 c
    refine s_iconst d_Law_537 ?_
    exact s_zreturn d_Law_538 rfl (by decide) h
theorem b_Law_539 {E : EV} {d : Nat} {Q : Option AV → St → Prop} {σ : St} {L : Nat} {f : Nat → Int} (hX : XT E (-7) .int L f) (x3 : Int) (hF : Fix σ) (h : (0 ≤ (x3 + 1) ∧ (x3 + 1) < L) ∧ (0 ≤ (x3 + 2) ∧ (x3 + 2) < L) ∧ (0 ≤ (x3 + 3) ∧ (x3 + 3) < L) ∧ (WMi E m_S_release d [aP 1, aI (f (Int.toNat (x3 + 1))), aI (f (Int.toNat (x3 + 2))), aI (f (Int.toNat (x3 + 3)))] σ (fun v4 σ4 => Fix σ4 ∧ (0 ≤ (x3 + 1) ∧ (x3 + 1) < L) ∧ (0 ≤ (x3 + 2) ∧ (x3 + 2) < L) ∧ (0 ≤ (x3 + 3) ∧ (x3 + 3) < L) ∧ (WMi E m_M_release d [aP 42, aI (f (Int.toNat (x3 + 1))), aI (f (Int.toNat (x3 + 2))), aI (f (Int.toNat (x3 + 3)))] σ4 (fun v8 σ8 => (rI v4) ∧ (rI v8) ∧ ((v4 = v8 → WP E m_Law (d + 1) 1552 [(0, aP (-7)), (1, aP 1), (2, aP 42), (3, aI x3)] [] σ8 Q) ∧ (¬ v4 = v8 → Q (some (aI 0)) σ8))))))) : WP E m_Law (d + 1) 539 [(0, aP (-7)), (1, aP 1), (2, aP 42), (3, aI x3)] [] σ Q := by
  refine s_aload_n 1 d_Law_539 rfl rfl ?_
  refine s_aload_n 0 d_Law_540 rfl rfl ?_
  refine s_iload_n 3 d_Law_541 rfl rfl ?_
  refine s_iconst d_Law_542 ?_
  refine s_iadd d_Law_543 ?_
  obtain ⟨g1, h⟩ := h
  refine s_ialdX d_Law_544 hX g1 ?_
  refine s_aload_n 0 d_Law_545 rfl rfl ?_
  refine s_iload_n 3 d_Law_546 rfl rfl ?_
  refine s_iconst d_Law_547 ?_
  refine s_iadd d_Law_548 ?_
  obtain ⟨g2, h⟩ := h
  refine s_ialdX d_Law_549 hX g2 ?_
  refine s_aload_n 0 d_Law_550 rfl rfl ?_
  refine s_iload_n 3 d_Law_551 rfl rfl ?_
  refine s_iconst d_Law_552 ?_
  refine s_iadd d_Law_553 ?_
  obtain ⟨g3, h⟩ := h
  refine s_ialdX d_Law_554 hX g3 ?_
  refine s_callV (as := [aI (f (Int.toNat (x3 + 1))), aI (f (Int.toNat (x3 + 2))), aI (f (Int.toNat (x3 + 3)))]) (ci := 9) d_Law_555 ok_S_release lk_Law_55 io_S_release so_S_release (by decide) rfl rfl rfl (Nat.le_of_ble_eq_true rfl) rfl (sf_1 hF) (WM.mono h ?_)
  rintro _ σ4 ⟨v4, rfl, hp, h⟩
  obtain ⟨hF4, h⟩ := h
  show WP E m_Law (d + 1) 558 [(0, aP (-7)), (1, aP 1), (2, aP 42), (3, aI x3)] [aI v4] σ4 Q
  refine s_aload_n 2 d_Law_558 rfl rfl ?_
  refine s_aload_n 0 d_Law_559 rfl rfl ?_
  refine s_iload_n 3 d_Law_560 rfl rfl ?_
  refine s_iconst d_Law_561 ?_
  refine s_iadd d_Law_562 ?_
  obtain ⟨g5, h⟩ := h
  refine s_ialdX d_Law_563 hX g5 ?_
  refine s_aload_n 0 d_Law_564 rfl rfl ?_
  refine s_iload_n 3 d_Law_565 rfl rfl ?_
  refine s_iconst d_Law_566 ?_
  refine s_iadd d_Law_567 ?_
  obtain ⟨g6, h⟩ := h
  refine s_ialdX d_Law_568 hX g6 ?_
  refine s_aload_n 0 d_Law_569 rfl rfl ?_
  refine s_iload_n 3 d_Law_570 rfl rfl ?_
  refine s_iconst d_Law_571 ?_
  refine s_iadd d_Law_572 ?_
  obtain ⟨g7, h⟩ := h
  refine s_ialdX d_Law_573 hX g7 ?_
  refine s_callV (as := [aI (f (Int.toNat (x3 + 1))), aI (f (Int.toNat (x3 + 2))), aI (f (Int.toNat (x3 + 3)))]) (ci := 10) d_Law_574 ok_M_release lk_Law_58 io_M_release so_M_release (by decide) rfl rfl rfl (Nat.le_of_ble_eq_true rfl) rfl (sf_42 hF4) (WM.mono h ?_)
  rintro _ σ8 ⟨v8, rfl, hp, h⟩
  show WP E m_Law (d + 1) 577 [(0, aP (-7)), (1, aP 1), (2, aP 42), (3, aI x3)] [aI v8, aI v4] σ8 Q
  obtain ⟨g9, h⟩ := h
  obtain ⟨g10, h⟩ := h
  refine s_icmp_eq d_Law_577 rfl g9 g10 (fun c => ?_) (fun c => ?_)
  · have h := h.1 c
    exact h
  · have h := h.2 c
    refine s_iconst d_Law_580 ?_
    exact s_zreturn d_Law_581 rfl (by decide) h
theorem b_Law_582 {E : EV} {d : Nat} {Q : Option AV → St → Prop} {σ : St} {L : Nat} {f : Nat → Int} (hX : XT E (-7) .int L f) (x3 : Int) (hF : Fix σ) (h : (0 ≤ (x3 + 1) ∧ (x3 + 1) < L) ∧ (0 ≤ (x3 + 2) ∧ (x3 + 2) < L) ∧ (0 ≤ (x3 + 3) ∧ (x3 + 3) < L) ∧ (WMi E m_S_move d [aP 1, aI (f (Int.toNat (x3 + 1))), aI (f (Int.toNat (x3 + 2))), aI (f (Int.toNat (x3 + 3)))] σ (fun v4 σ4 => Fix σ4 ∧ (0 ≤ (x3 + 1) ∧ (x3 + 1) < L) ∧ (0 ≤ (x3 + 2) ∧ (x3 + 2) < L) ∧ (0 ≤ (x3 + 3) ∧ (x3 + 3) < L) ∧ (WMi E m_M_move d [aP 42, aI (f (Int.toNat (x3 + 1))), aI (f (Int.toNat (x3 + 2))), aI (f (Int.toNat (x3 + 3)))] σ4 (fun v8 σ8 => (rI v4) ∧ (rI v8) ∧ ((v4 = v8 → WP E m_Law (d + 1) 1552 [(0, aP (-7)), (1, aP 1), (2, aP 42), (3, aI x3)] [] σ8 Q) ∧ (¬ v4 = v8 → Q (some (aI 0)) σ8))))))) : WP E m_Law (d + 1) 582 [(0, aP (-7)), (1, aP 1), (2, aP 42), (3, aI x3)] [] σ Q := by
  refine s_aload_n 1 d_Law_582 rfl rfl ?_
  refine s_aload_n 0 d_Law_583 rfl rfl ?_
  refine s_iload_n 3 d_Law_584 rfl rfl ?_
  refine s_iconst d_Law_585 ?_
  refine s_iadd d_Law_586 ?_
  obtain ⟨g1, h⟩ := h
  refine s_ialdX d_Law_587 hX g1 ?_
  refine s_aload_n 0 d_Law_588 rfl rfl ?_
  refine s_iload_n 3 d_Law_589 rfl rfl ?_
  refine s_iconst d_Law_590 ?_
  refine s_iadd d_Law_591 ?_
  obtain ⟨g2, h⟩ := h
  refine s_ialdX d_Law_592 hX g2 ?_
  refine s_aload_n 0 d_Law_593 rfl rfl ?_
  refine s_iload_n 3 d_Law_594 rfl rfl ?_
  refine s_iconst d_Law_595 ?_
  refine s_iadd d_Law_596 ?_
  obtain ⟨g3, h⟩ := h
  refine s_ialdX d_Law_597 hX g3 ?_
  refine s_callV (as := [aI (f (Int.toNat (x3 + 1))), aI (f (Int.toNat (x3 + 2))), aI (f (Int.toNat (x3 + 3)))]) (ci := 9) d_Law_598 ok_S_move lk_Law_59 io_S_move so_S_move (by decide) rfl rfl rfl (Nat.le_of_ble_eq_true rfl) rfl (sf_1 hF) (WM.mono h ?_)
  rintro _ σ4 ⟨v4, rfl, hp, h⟩
  obtain ⟨hF4, h⟩ := h
  show WP E m_Law (d + 1) 601 [(0, aP (-7)), (1, aP 1), (2, aP 42), (3, aI x3)] [aI v4] σ4 Q
  refine s_aload_n 2 d_Law_601 rfl rfl ?_
  refine s_aload_n 0 d_Law_602 rfl rfl ?_
  refine s_iload_n 3 d_Law_603 rfl rfl ?_
  refine s_iconst d_Law_604 ?_
  refine s_iadd d_Law_605 ?_
  obtain ⟨g5, h⟩ := h
  refine s_ialdX d_Law_606 hX g5 ?_
  refine s_aload_n 0 d_Law_607 rfl rfl ?_
  refine s_iload_n 3 d_Law_608 rfl rfl ?_
  refine s_iconst d_Law_609 ?_
  refine s_iadd d_Law_610 ?_
  obtain ⟨g6, h⟩ := h
  refine s_ialdX d_Law_611 hX g6 ?_
  refine s_aload_n 0 d_Law_612 rfl rfl ?_
  refine s_iload_n 3 d_Law_613 rfl rfl ?_
  refine s_iconst d_Law_614 ?_
  refine s_iadd d_Law_615 ?_
  obtain ⟨g7, h⟩ := h
  refine s_ialdX d_Law_616 hX g7 ?_
  refine s_callV (as := [aI (f (Int.toNat (x3 + 1))), aI (f (Int.toNat (x3 + 2))), aI (f (Int.toNat (x3 + 3)))]) (ci := 10) d_Law_617 ok_M_move lk_Law_62 io_M_move so_M_move (by decide) rfl rfl rfl (Nat.le_of_ble_eq_true rfl) rfl (sf_42 hF4) (WM.mono h ?_)
  rintro _ σ8 ⟨v8, rfl, hp, h⟩
  show WP E m_Law (d + 1) 620 [(0, aP (-7)), (1, aP 1), (2, aP 42), (3, aI x3)] [aI v8, aI v4] σ8 Q
  obtain ⟨g9, h⟩ := h
  obtain ⟨g10, h⟩ := h
  refine s_icmp_eq d_Law_620 rfl g9 g10 (fun c => ?_) (fun c => ?_)
  · have h := h.1 c
    exact h
  · have h := h.2 c
    refine s_iconst d_Law_623 ?_
    exact s_zreturn d_Law_624 rfl (by decide) h
theorem b_Law_625 {E : EV} {d : Nat} {Q : Option AV → St → Prop} {σ : St} {L : Nat} {f : Nat → Int} (hX : XT E (-7) .int L f) (x3 : Int) (hF : Fix σ) (h : (0 ≤ (x3 + 1) ∧ (x3 + 1) < L) ∧ (WMi E m_S_mirror d [aP 1, aI (f (Int.toNat (x3 + 1)))] σ (fun v2 σ2 => Fix σ2 ∧ (0 ≤ (x3 + 1) ∧ (x3 + 1) < L) ∧ (WMi E m_M_mirror d [aP 42, aI (f (Int.toNat (x3 + 1)))] σ2 (fun v4 σ4 => (rI v2) ∧ (rI v4) ∧ ((v2 = v4 → WP E m_Law (d + 1) 1552 [(0, aP (-7)), (1, aP 1), (2, aP 42), (3, aI x3)] [] σ4 Q) ∧ (¬ v2 = v4 → Q (some (aI 0)) σ4))))))) : WP E m_Law (d + 1) 625 [(0, aP (-7)), (1, aP 1), (2, aP 42), (3, aI x3)] [] σ Q := by
  refine s_aload_n 1 d_Law_625 rfl rfl ?_
  refine s_aload_n 0 d_Law_626 rfl rfl ?_
  refine s_iload_n 3 d_Law_627 rfl rfl ?_
  refine s_iconst d_Law_628 ?_
  refine s_iadd d_Law_629 ?_
  obtain ⟨g1, h⟩ := h
  refine s_ialdX d_Law_630 hX g1 ?_
  refine s_callV (as := [aI (f (Int.toNat (x3 + 1)))]) (ci := 9) d_Law_631 ok_S_mirror lk_Law_63 io_S_mirror so_S_mirror (by decide) rfl rfl rfl (Nat.le_of_ble_eq_true rfl) rfl (sf_1 hF) (WM.mono h ?_)
  rintro _ σ2 ⟨v2, rfl, hp, h⟩
  obtain ⟨hF2, h⟩ := h
  show WP E m_Law (d + 1) 634 [(0, aP (-7)), (1, aP 1), (2, aP 42), (3, aI x3)] [aI v2] σ2 Q
  refine s_aload_n 2 d_Law_634 rfl rfl ?_
  refine s_aload_n 0 d_Law_635 rfl rfl ?_
  refine s_iload_n 3 d_Law_636 rfl rfl ?_
  refine s_iconst d_Law_637 ?_
  refine s_iadd d_Law_638 ?_
  obtain ⟨g3, h⟩ := h
  refine s_ialdX d_Law_639 hX g3 ?_
  refine s_callV (as := [aI (f (Int.toNat (x3 + 1)))]) (ci := 10) d_Law_640 ok_M_mirror lk_Law_67 io_M_mirror so_M_mirror (by decide) rfl rfl rfl (Nat.le_of_ble_eq_true rfl) rfl (sf_42 hF2) (WM.mono h ?_)
  rintro _ σ4 ⟨v4, rfl, hp, h⟩
  show WP E m_Law (d + 1) 643 [(0, aP (-7)), (1, aP 1), (2, aP 42), (3, aI x3)] [aI v4, aI v2] σ4 Q
  obtain ⟨g5, h⟩ := h
  obtain ⟨g6, h⟩ := h
  refine s_icmp_eq d_Law_643 rfl g5 g6 (fun c => ?_) (fun c => ?_)
  · have h := h.1 c
    exact h
  · have h := h.2 c
    refine s_iconst d_Law_646 ?_
    exact s_zreturn d_Law_647 rfl (by decide) h
theorem b_Law_648 {E : EV} {d : Nat} {Q : Option AV → St → Prop} {σ : St} {L : Nat} {f : Nat → Int} (hX : XT E (-7) .int L f) (x3 : Int) (hF : Fix σ) (h : (0 ≤ (x3 + 1) ∧ (x3 + 1) < L) ∧ (0 ≤ (x3 + 2) ∧ (x3 + 2) < L) ∧ (WMi E m_S_arrange d [aP 1, aI (f (Int.toNat (x3 + 1))), aI (f (Int.toNat (x3 + 2)))] σ (fun v3 σ3 => Fix σ3 ∧ (0 ≤ (x3 + 1) ∧ (x3 + 1) < L) ∧ (0 ≤ (x3 + 2) ∧ (x3 + 2) < L) ∧ (WMi E m_M_arrange d [aP 42, aI (f (Int.toNat (x3 + 1))), aI (f (Int.toNat (x3 + 2)))] σ3 (fun v6 σ6 => (rI v3) ∧ (rI v6) ∧ ((v3 = v6 → WP E m_Law (d + 1) 1552 [(0, aP (-7)), (1, aP 1), (2, aP 42), (3, aI x3)] [] σ6 Q) ∧ (¬ v3 = v6 → Q (some (aI 0)) σ6))))))) : WP E m_Law (d + 1) 648 [(0, aP (-7)), (1, aP 1), (2, aP 42), (3, aI x3)] [] σ Q := by
  refine s_aload_n 1 d_Law_648 rfl rfl ?_
  refine s_aload_n 0 d_Law_649 rfl rfl ?_
  refine s_iload_n 3 d_Law_650 rfl rfl ?_
  refine s_iconst d_Law_651 ?_
  refine s_iadd d_Law_652 ?_
  obtain ⟨g1, h⟩ := h
  refine s_ialdX d_Law_653 hX g1 ?_
  refine s_aload_n 0 d_Law_654 rfl rfl ?_
  refine s_iload_n 3 d_Law_655 rfl rfl ?_
  refine s_iconst d_Law_656 ?_
  refine s_iadd d_Law_657 ?_
  obtain ⟨g2, h⟩ := h
  refine s_ialdX d_Law_658 hX g2 ?_
  refine s_callV (as := [aI (f (Int.toNat (x3 + 1))), aI (f (Int.toNat (x3 + 2)))]) (ci := 9) d_Law_659 ok_S_arrange lk_Law_68 io_S_arrange so_S_arrange (by decide) rfl rfl rfl (Nat.le_of_ble_eq_true rfl) rfl (sf_1 hF) (WM.mono h ?_)
  rintro _ σ3 ⟨v3, rfl, hp, h⟩
  obtain ⟨hF3, h⟩ := h
  show WP E m_Law (d + 1) 662 [(0, aP (-7)), (1, aP 1), (2, aP 42), (3, aI x3)] [aI v3] σ3 Q
  refine s_aload_n 2 d_Law_662 rfl rfl ?_
  refine s_aload_n 0 d_Law_663 rfl rfl ?_
  refine s_iload_n 3 d_Law_664 rfl rfl ?_
  refine s_iconst d_Law_665 ?_
  refine s_iadd d_Law_666 ?_
  obtain ⟨g4, h⟩ := h
  refine s_ialdX d_Law_667 hX g4 ?_
  refine s_aload_n 0 d_Law_668 rfl rfl ?_
  refine s_iload_n 3 d_Law_669 rfl rfl ?_
  refine s_iconst d_Law_670 ?_
  refine s_iadd d_Law_671 ?_
  obtain ⟨g5, h⟩ := h
  refine s_ialdX d_Law_672 hX g5 ?_
  refine s_callV (as := [aI (f (Int.toNat (x3 + 1))), aI (f (Int.toNat (x3 + 2)))]) (ci := 10) d_Law_673 ok_M_arrange lk_Law_71 io_M_arrange so_M_arrange (by decide) rfl rfl rfl (Nat.le_of_ble_eq_true rfl) rfl (sf_42 hF3) (WM.mono h ?_)
  rintro _ σ6 ⟨v6, rfl, hp, h⟩
  show WP E m_Law (d + 1) 676 [(0, aP (-7)), (1, aP 1), (2, aP 42), (3, aI x3)] [aI v6, aI v3] σ6 Q
  obtain ⟨g7, h⟩ := h
  obtain ⟨g8, h⟩ := h
  refine s_icmp_eq d_Law_676 rfl g7 g8 (fun c => ?_) (fun c => ?_)
  · have h := h.1 c
    exact h
  · have h := h.2 c
    refine s_iconst d_Law_679 ?_
    exact s_zreturn d_Law_680 rfl (by decide) h
theorem b_Law_681 {E : EV} {d : Nat} {Q : Option AV → St → Prop} {σ : St} {L : Nat} {f : Nat → Int} (hX : XT E (-7) .int L f) (x3 : Int) (hF : Fix σ) (h : (0 ≤ (x3 + 1) ∧ (x3 + 1) < L) ∧ (WMi E m_S_side d [aP 1, aI (f (Int.toNat (x3 + 1)))] σ (fun v2 σ2 => Fix σ2 ∧ (0 ≤ (x3 + 1) ∧ (x3 + 1) < L) ∧ (WMi E m_M_side d [aP 42, aI (f (Int.toNat (x3 + 1)))] σ2 (fun v4 σ4 => (rI v2) ∧ (rI v4) ∧ ((v2 = v4 → WP E m_Law (d + 1) 1552 [(0, aP (-7)), (1, aP 1), (2, aP 42), (3, aI x3)] [] σ4 Q) ∧ (¬ v2 = v4 → Q (some (aI 0)) σ4))))))) : WP E m_Law (d + 1) 681 [(0, aP (-7)), (1, aP 1), (2, aP 42), (3, aI x3)] [] σ Q := by
  refine s_aload_n 1 d_Law_681 rfl rfl ?_
  refine s_aload_n 0 d_Law_682 rfl rfl ?_
  refine s_iload_n 3 d_Law_683 rfl rfl ?_
  refine s_iconst d_Law_684 ?_
  refine s_iadd d_Law_685 ?_
  obtain ⟨g1, h⟩ := h
  refine s_ialdX d_Law_686 hX g1 ?_
  refine s_callV (as := [aI (f (Int.toNat (x3 + 1)))]) (ci := 9) d_Law_687 ok_S_side lk_Law_72 io_S_side so_S_side (by decide) rfl rfl rfl (Nat.le_of_ble_eq_true rfl) rfl (sf_1 hF) (WM.mono h ?_)
  rintro _ σ2 ⟨v2, rfl, hp, h⟩
  obtain ⟨hF2, h⟩ := h
  show WP E m_Law (d + 1) 690 [(0, aP (-7)), (1, aP 1), (2, aP 42), (3, aI x3)] [aI v2] σ2 Q
  refine s_aload_n 2 d_Law_690 rfl rfl ?_
  refine s_aload_n 0 d_Law_691 rfl rfl ?_
  refine s_iload_n 3 d_Law_692 rfl rfl ?_
  refine s_iconst d_Law_693 ?_
  refine s_iadd d_Law_694 ?_
  obtain ⟨g3, h⟩ := h
  refine s_ialdX d_Law_695 hX g3 ?_
  refine s_callV (as := [aI (f (Int.toNat (x3 + 1)))]) (ci := 10) d_Law_696 ok_M_side lk_Law_75 io_M_side so_M_side (by decide) rfl rfl rfl (Nat.le_of_ble_eq_true rfl) rfl (sf_42 hF2) (WM.mono h ?_)
  rintro _ σ4 ⟨v4, rfl, hp, h⟩
  show WP E m_Law (d + 1) 699 [(0, aP (-7)), (1, aP 1), (2, aP 42), (3, aI x3)] [aI v4, aI v2] σ4 Q
  obtain ⟨g5, h⟩ := h
  obtain ⟨g6, h⟩ := h
  refine s_icmp_eq d_Law_699 rfl g5 g6 (fun c => ?_) (fun c => ?_)
  · have h := h.1 c
    exact h
  · have h := h.2 c
    refine s_iconst d_Law_702 ?_
    exact s_zreturn d_Law_703 rfl (by decide) h
theorem b_Law_704 {E : EV} {d : Nat} {Q : Option AV → St → Prop} {σ : St} {L : Nat} {f : Nat → Int} (hX : XT E (-7) .int L f) (x3 : Int) (hF : Fix σ) (h : (0 ≤ (x3 + 1) ∧ (x3 + 1) < L) ∧ (WMi E m_S_gap d [aP 1, aI (f (Int.toNat (x3 + 1)))] σ (fun v2 σ2 => Fix σ2 ∧ (0 ≤ (x3 + 1) ∧ (x3 + 1) < L) ∧ (WMi E m_M_gap d [aP 42, aI (f (Int.toNat (x3 + 1)))] σ2 (fun v4 σ4 => (rI v2) ∧ (rI v4) ∧ ((v2 = v4 → WP E m_Law (d + 1) 1552 [(0, aP (-7)), (1, aP 1), (2, aP 42), (3, aI x3)] [] σ4 Q) ∧ (¬ v2 = v4 → Q (some (aI 0)) σ4))))))) : WP E m_Law (d + 1) 704 [(0, aP (-7)), (1, aP 1), (2, aP 42), (3, aI x3)] [] σ Q := by
  refine s_aload_n 1 d_Law_704 rfl rfl ?_
  refine s_aload_n 0 d_Law_705 rfl rfl ?_
  refine s_iload_n 3 d_Law_706 rfl rfl ?_
  refine s_iconst d_Law_707 ?_
  refine s_iadd d_Law_708 ?_
  obtain ⟨g1, h⟩ := h
  refine s_ialdX d_Law_709 hX g1 ?_
  refine s_callV (as := [aI (f (Int.toNat (x3 + 1)))]) (ci := 9) d_Law_710 ok_S_gap lk_Law_76 io_S_gap so_S_gap (by decide) rfl rfl rfl (Nat.le_of_ble_eq_true rfl) rfl (sf_1 hF) (WM.mono h ?_)
  rintro _ σ2 ⟨v2, rfl, hp, h⟩
  obtain ⟨hF2, h⟩ := h
  show WP E m_Law (d + 1) 713 [(0, aP (-7)), (1, aP 1), (2, aP 42), (3, aI x3)] [aI v2] σ2 Q
  refine s_aload_n 2 d_Law_713 rfl rfl ?_
  refine s_aload_n 0 d_Law_714 rfl rfl ?_
  refine s_iload_n 3 d_Law_715 rfl rfl ?_
  refine s_iconst d_Law_716 ?_
  refine s_iadd d_Law_717 ?_
  obtain ⟨g3, h⟩ := h
  refine s_ialdX d_Law_718 hX g3 ?_
  refine s_callV (as := [aI (f (Int.toNat (x3 + 1)))]) (ci := 10) d_Law_719 ok_M_gap lk_Law_79 io_M_gap so_M_gap (by decide) rfl rfl rfl (Nat.le_of_ble_eq_true rfl) rfl (sf_42 hF2) (WM.mono h ?_)
  rintro _ σ4 ⟨v4, rfl, hp, h⟩
  show WP E m_Law (d + 1) 722 [(0, aP (-7)), (1, aP 1), (2, aP 42), (3, aI x3)] [aI v4, aI v2] σ4 Q
  obtain ⟨g5, h⟩ := h
  obtain ⟨g6, h⟩ := h
  refine s_icmp_eq d_Law_722 rfl g5 g6 (fun c => ?_) (fun c => ?_)
  · have h := h.1 c
    exact h
  · have h := h.2 c
    refine s_iconst d_Law_725 ?_
    exact s_zreturn d_Law_726 rfl (by decide) h
theorem b_Law_727 {E : EV} {d : Nat} {Q : Option AV → St → Prop} {σ : St} {L : Nat} {f : Nat → Int} (hX : XT E (-7) .int L f) (x3 : Int) (hF : Fix σ) (h : (WMi E m_S_undo d [aP 1] σ (fun v1 σ1 => Fix σ1 ∧ (WMi E m_M_undo d [aP 42] σ1 (fun v2 σ2 => (rI v1) ∧ (rI v2) ∧ ((v1 = v2 → WP E m_Law (d + 1) 1552 [(0, aP (-7)), (1, aP 1), (2, aP 42), (3, aI x3)] [] σ2 Q) ∧ (¬ v1 = v2 → Q (some (aI 0)) σ2))))))) : WP E m_Law (d + 1) 727 [(0, aP (-7)), (1, aP 1), (2, aP 42), (3, aI x3)] [] σ Q := by
  refine s_aload_n 1 d_Law_727 rfl rfl ?_
  refine s_callV (as := []) (ci := 9) d_Law_728 ok_S_undo lk_Law_80 io_S_undo so_S_undo (by decide) rfl rfl rfl (Nat.le_of_ble_eq_true rfl) rfl (sf_1 hF) (WM.mono h ?_)
  rintro _ σ1 ⟨v1, rfl, hp, h⟩
  obtain ⟨hF1, h⟩ := h
  show WP E m_Law (d + 1) 731 [(0, aP (-7)), (1, aP 1), (2, aP 42), (3, aI x3)] [aI v1] σ1 Q
  refine s_aload_n 2 d_Law_731 rfl rfl ?_
  refine s_callV (as := []) (ci := 10) d_Law_732 ok_M_undo lk_Law_83 io_M_undo so_M_undo (by decide) rfl rfl rfl (Nat.le_of_ble_eq_true rfl) rfl (sf_42 hF1) (WM.mono h ?_)
  rintro _ σ2 ⟨v2, rfl, hp, h⟩
  show WP E m_Law (d + 1) 735 [(0, aP (-7)), (1, aP 1), (2, aP 42), (3, aI x3)] [aI v2, aI v1] σ2 Q
  obtain ⟨g3, h⟩ := h
  obtain ⟨g4, h⟩ := h
  refine s_icmp_eq d_Law_735 rfl g3 g4 (fun c => ?_) (fun c => ?_)
  · have h := h.1 c
    exact h
  · have h := h.2 c
    refine s_iconst d_Law_738 ?_
    exact s_zreturn d_Law_739 rfl (by decide) h
theorem b_Law_740 {E : EV} {d : Nat} {Q : Option AV → St → Prop} {σ : St} {L : Nat} {f : Nat → Int} (hX : XT E (-7) .int L f) (x3 : Int) (hF : Fix σ) (h : (0 ≤ (x3 + 1) ∧ (x3 + 1) < L) ∧ (0 ≤ (x3 + 2) ∧ (x3 + 2) < L) ∧ (WMi E m_S_sign d [aP 1, aI (f (Int.toNat (x3 + 1))), aI (f (Int.toNat (x3 + 2)))] σ (fun v3 σ3 => Fix σ3 ∧ (0 ≤ (x3 + 1) ∧ (x3 + 1) < L) ∧ (0 ≤ (x3 + 2) ∧ (x3 + 2) < L) ∧ (WMi E m_M_sign d [aP 42, aI (f (Int.toNat (x3 + 1))), aI (f (Int.toNat (x3 + 2)))] σ3 (fun v6 σ6 => (rI v3) ∧ (rI v6) ∧ ((v3 = v6 → WP E m_Law (d + 1) 1552 [(0, aP (-7)), (1, aP 1), (2, aP 42), (3, aI x3)] [] σ6 Q) ∧ (¬ v3 = v6 → Q (some (aI 0)) σ6))))))) : WP E m_Law (d + 1) 740 [(0, aP (-7)), (1, aP 1), (2, aP 42), (3, aI x3)] [] σ Q := by
  refine s_aload_n 1 d_Law_740 rfl rfl ?_
  refine s_aload_n 0 d_Law_741 rfl rfl ?_
  refine s_iload_n 3 d_Law_742 rfl rfl ?_
  refine s_iconst d_Law_743 ?_
  refine s_iadd d_Law_744 ?_
  obtain ⟨g1, h⟩ := h
  refine s_ialdX d_Law_745 hX g1 ?_
  refine s_aload_n 0 d_Law_746 rfl rfl ?_
  refine s_iload_n 3 d_Law_747 rfl rfl ?_
  refine s_iconst d_Law_748 ?_
  refine s_iadd d_Law_749 ?_
  obtain ⟨g2, h⟩ := h
  refine s_ialdX d_Law_750 hX g2 ?_
  refine s_callV (as := [aI (f (Int.toNat (x3 + 1))), aI (f (Int.toNat (x3 + 2)))]) (ci := 9) d_Law_751 ok_S_sign lk_Law_84 io_S_sign so_S_sign (by decide) rfl rfl rfl (Nat.le_of_ble_eq_true rfl) rfl (sf_1 hF) (WM.mono h ?_)
  rintro _ σ3 ⟨v3, rfl, hp, h⟩
  obtain ⟨hF3, h⟩ := h
  show WP E m_Law (d + 1) 754 [(0, aP (-7)), (1, aP 1), (2, aP 42), (3, aI x3)] [aI v3] σ3 Q
  refine s_aload_n 2 d_Law_754 rfl rfl ?_
  refine s_aload_n 0 d_Law_755 rfl rfl ?_
  refine s_iload_n 3 d_Law_756 rfl rfl ?_
  refine s_iconst d_Law_757 ?_
  refine s_iadd d_Law_758 ?_
  obtain ⟨g4, h⟩ := h
  refine s_ialdX d_Law_759 hX g4 ?_
  refine s_aload_n 0 d_Law_760 rfl rfl ?_
  refine s_iload_n 3 d_Law_761 rfl rfl ?_
  refine s_iconst d_Law_762 ?_
  refine s_iadd d_Law_763 ?_
  obtain ⟨g5, h⟩ := h
  refine s_ialdX d_Law_764 hX g5 ?_
  refine s_callV (as := [aI (f (Int.toNat (x3 + 1))), aI (f (Int.toNat (x3 + 2)))]) (ci := 10) d_Law_765 ok_M_sign lk_Law_88 io_M_sign so_M_sign (by decide) rfl rfl rfl (Nat.le_of_ble_eq_true rfl) rfl (sf_42 hF3) (WM.mono h ?_)
  rintro _ σ6 ⟨v6, rfl, hp, h⟩
  show WP E m_Law (d + 1) 768 [(0, aP (-7)), (1, aP 1), (2, aP 42), (3, aI x3)] [aI v6, aI v3] σ6 Q
  obtain ⟨g7, h⟩ := h
  obtain ⟨g8, h⟩ := h
  refine s_icmp_eq d_Law_768 rfl g7 g8 (fun c => ?_) (fun c => ?_)
  · have h := h.1 c
    exact h
  · have h := h.2 c
    refine s_iconst d_Law_771 ?_
    exact s_zreturn d_Law_772 rfl (by decide) h
theorem b_Law_773 {E : EV} {d : Nat} {Q : Option AV → St → Prop} {σ : St} {L : Nat} {f : Nat → Int} (hX : XT E (-7) .int L f) (x3 : Int) (hF : Fix σ) (h : (0 ≤ (x3 + 1) ∧ (x3 + 1) < L) ∧ (0 ≤ (x3 + 2) ∧ (x3 + 2) < L) ∧ (WMi E m_S_line d [aP 1, aI (f (Int.toNat (x3 + 1))), aI (f (Int.toNat (x3 + 2)))] σ (fun v3 σ3 => Fix σ3 ∧ (0 ≤ (x3 + 1) ∧ (x3 + 1) < L) ∧ (0 ≤ (x3 + 2) ∧ (x3 + 2) < L) ∧ (WMi E m_M_line d [aP 42, aI (f (Int.toNat (x3 + 1))), aI (f (Int.toNat (x3 + 2)))] σ3 (fun v6 σ6 => (rI v3) ∧ (rI v6) ∧ ((v3 = v6 → WP E m_Law (d + 1) 1552 [(0, aP (-7)), (1, aP 1), (2, aP 42), (3, aI x3)] [] σ6 Q) ∧ (¬ v3 = v6 → Q (some (aI 0)) σ6))))))) : WP E m_Law (d + 1) 773 [(0, aP (-7)), (1, aP 1), (2, aP 42), (3, aI x3)] [] σ Q := by
  refine s_aload_n 1 d_Law_773 rfl rfl ?_
  refine s_aload_n 0 d_Law_774 rfl rfl ?_
  refine s_iload_n 3 d_Law_775 rfl rfl ?_
  refine s_iconst d_Law_776 ?_
  refine s_iadd d_Law_777 ?_
  obtain ⟨g1, h⟩ := h
  refine s_ialdX d_Law_778 hX g1 ?_
  refine s_aload_n 0 d_Law_779 rfl rfl ?_
  refine s_iload_n 3 d_Law_780 rfl rfl ?_
  refine s_iconst d_Law_781 ?_
  refine s_iadd d_Law_782 ?_
  obtain ⟨g2, h⟩ := h
  refine s_ialdX d_Law_783 hX g2 ?_
  refine s_callV (as := [aI (f (Int.toNat (x3 + 1))), aI (f (Int.toNat (x3 + 2)))]) (ci := 9) d_Law_784 ok_S_line lk_Law_89 io_S_line so_S_line (by decide) rfl rfl rfl (Nat.le_of_ble_eq_true rfl) rfl (sf_1 hF) (WM.mono h ?_)
  rintro _ σ3 ⟨v3, rfl, hp, h⟩
  obtain ⟨hF3, h⟩ := h
  show WP E m_Law (d + 1) 787 [(0, aP (-7)), (1, aP 1), (2, aP 42), (3, aI x3)] [aI v3] σ3 Q
  refine s_aload_n 2 d_Law_787 rfl rfl ?_
  refine s_aload_n 0 d_Law_788 rfl rfl ?_
  refine s_iload_n 3 d_Law_789 rfl rfl ?_
  refine s_iconst d_Law_790 ?_
  refine s_iadd d_Law_791 ?_
  obtain ⟨g4, h⟩ := h
  refine s_ialdX d_Law_792 hX g4 ?_
  refine s_aload_n 0 d_Law_793 rfl rfl ?_
  refine s_iload_n 3 d_Law_794 rfl rfl ?_
  refine s_iconst d_Law_795 ?_
  refine s_iadd d_Law_796 ?_
  obtain ⟨g5, h⟩ := h
  refine s_ialdX d_Law_797 hX g5 ?_
  refine s_callV (as := [aI (f (Int.toNat (x3 + 1))), aI (f (Int.toNat (x3 + 2)))]) (ci := 10) d_Law_798 ok_M_line lk_Law_92 io_M_line so_M_line (by decide) rfl rfl rfl (Nat.le_of_ble_eq_true rfl) rfl (sf_42 hF3) (WM.mono h ?_)
  rintro _ σ6 ⟨v6, rfl, hp, h⟩
  show WP E m_Law (d + 1) 801 [(0, aP (-7)), (1, aP 1), (2, aP 42), (3, aI x3)] [aI v6, aI v3] σ6 Q
  obtain ⟨g7, h⟩ := h
  obtain ⟨g8, h⟩ := h
  refine s_icmp_eq d_Law_801 rfl g7 g8 (fun c => ?_) (fun c => ?_)
  · have h := h.1 c
    exact h
  · have h := h.2 c
    refine s_iconst d_Law_804 ?_
    exact s_zreturn d_Law_805 rfl (by decide) h
theorem b_Law_806 {E : EV} {d : Nat} {Q : Option AV → St → Prop} {σ : St} {L : Nat} {f : Nat → Int} (hX : XT E (-7) .int L f) (x3 : Int) (hF : Fix σ) (h : (0 ≤ (x3 + 1) ∧ (x3 + 1) < L) ∧ (0 ≤ (x3 + 2) ∧ (x3 + 2) < L) ∧ (0 ≤ (x3 + 3) ∧ (x3 + 3) < L) ∧ (WMi E m_S_square d [aP 1, aI (f (Int.toNat (x3 + 1))), aI (f (Int.toNat (x3 + 2))), aI (f (Int.toNat (x3 + 3)))] σ (fun v4 σ4 => Fix σ4 ∧ (0 ≤ (x3 + 1) ∧ (x3 + 1) < L) ∧ (0 ≤ (x3 + 2) ∧ (x3 + 2) < L) ∧ (0 ≤ (x3 + 3) ∧ (x3 + 3) < L) ∧ (WMi E m_M_square d [aP 42, aI (f (Int.toNat (x3 + 1))), aI (f (Int.toNat (x3 + 2))), aI (f (Int.toNat (x3 + 3)))] σ4 (fun v8 σ8 => (rI v4) ∧ (rI v8) ∧ ((v4 = v8 → WP E m_Law (d + 1) 1552 [(0, aP (-7)), (1, aP 1), (2, aP 42), (3, aI x3)] [] σ8 Q) ∧ (¬ v4 = v8 → Q (some (aI 0)) σ8))))))) : WP E m_Law (d + 1) 806 [(0, aP (-7)), (1, aP 1), (2, aP 42), (3, aI x3)] [] σ Q := by
  refine s_aload_n 1 d_Law_806 rfl rfl ?_
  refine s_aload_n 0 d_Law_807 rfl rfl ?_
  refine s_iload_n 3 d_Law_808 rfl rfl ?_
  refine s_iconst d_Law_809 ?_
  refine s_iadd d_Law_810 ?_
  obtain ⟨g1, h⟩ := h
  refine s_ialdX d_Law_811 hX g1 ?_
  refine s_aload_n 0 d_Law_812 rfl rfl ?_
  refine s_iload_n 3 d_Law_813 rfl rfl ?_
  refine s_iconst d_Law_814 ?_
  refine s_iadd d_Law_815 ?_
  obtain ⟨g2, h⟩ := h
  refine s_ialdX d_Law_816 hX g2 ?_
  refine s_aload_n 0 d_Law_817 rfl rfl ?_
  refine s_iload_n 3 d_Law_818 rfl rfl ?_
  refine s_iconst d_Law_819 ?_
  refine s_iadd d_Law_820 ?_
  obtain ⟨g3, h⟩ := h
  refine s_ialdX d_Law_821 hX g3 ?_
  refine s_callV (as := [aI (f (Int.toNat (x3 + 1))), aI (f (Int.toNat (x3 + 2))), aI (f (Int.toNat (x3 + 3)))]) (ci := 9) d_Law_822 ok_S_square lk_Law_93 io_S_square so_S_square (by decide) rfl rfl rfl (Nat.le_of_ble_eq_true rfl) rfl (sf_1 hF) (WM.mono h ?_)
  rintro _ σ4 ⟨v4, rfl, hp, h⟩
  obtain ⟨hF4, h⟩ := h
  show WP E m_Law (d + 1) 825 [(0, aP (-7)), (1, aP 1), (2, aP 42), (3, aI x3)] [aI v4] σ4 Q
  refine s_aload_n 2 d_Law_825 rfl rfl ?_
  refine s_aload_n 0 d_Law_826 rfl rfl ?_
  refine s_iload_n 3 d_Law_827 rfl rfl ?_
  refine s_iconst d_Law_828 ?_
  refine s_iadd d_Law_829 ?_
  obtain ⟨g5, h⟩ := h
  refine s_ialdX d_Law_830 hX g5 ?_
  refine s_aload_n 0 d_Law_831 rfl rfl ?_
  refine s_iload_n 3 d_Law_832 rfl rfl ?_
  refine s_iconst d_Law_833 ?_
  refine s_iadd d_Law_834 ?_
  obtain ⟨g6, h⟩ := h
  refine s_ialdX d_Law_835 hX g6 ?_
  refine s_aload_n 0 d_Law_836 rfl rfl ?_
  refine s_iload_n 3 d_Law_837 rfl rfl ?_
  refine s_iconst d_Law_838 ?_
  refine s_iadd d_Law_839 ?_
  obtain ⟨g7, h⟩ := h
  refine s_ialdX d_Law_840 hX g7 ?_
  refine s_callV (as := [aI (f (Int.toNat (x3 + 1))), aI (f (Int.toNat (x3 + 2))), aI (f (Int.toNat (x3 + 3)))]) (ci := 10) d_Law_841 ok_M_square lk_Law_97 io_M_square so_M_square (by decide) rfl rfl rfl (Nat.le_of_ble_eq_true rfl) rfl (sf_42 hF4) (WM.mono h ?_)
  rintro _ σ8 ⟨v8, rfl, hp, h⟩
  show WP E m_Law (d + 1) 844 [(0, aP (-7)), (1, aP 1), (2, aP 42), (3, aI x3)] [aI v8, aI v4] σ8 Q
  obtain ⟨g9, h⟩ := h
  obtain ⟨g10, h⟩ := h
  refine s_icmp_eq d_Law_844 rfl g9 g10 (fun c => ?_) (fun c => ?_)
  · have h := h.1 c
    exact h
  · have h := h.2 c
    refine s_iconst d_Law_847 ?_
    exact s_zreturn d_Law_848 rfl (by decide) h
theorem b_Law_849 {E : EV} {d : Nat} {Q : Option AV → St → Prop} {σ : St} {L : Nat} {f : Nat → Int} (hX : XT E (-7) .int L f) (x3 : Int) (hF : Fix σ) (h : (0 ≤ (x3 + 1) ∧ (x3 + 1) < L) ∧ (0 ≤ (x3 + 2) ∧ (x3 + 2) < L) ∧ (0 ≤ (x3 + 3) ∧ (x3 + 3) < L) ∧ (WMi E m_S_scale d [aP 1, aI (f (Int.toNat (x3 + 1))), aI (f (Int.toNat (x3 + 2))), aI (f (Int.toNat (x3 + 3)))] σ (fun v4 σ4 => Fix σ4 ∧ (0 ≤ (x3 + 1) ∧ (x3 + 1) < L) ∧ (0 ≤ (x3 + 2) ∧ (x3 + 2) < L) ∧ (0 ≤ (x3 + 3) ∧ (x3 + 3) < L) ∧ (WMi E m_M_scale d [aP 42, aI (f (Int.toNat (x3 + 1))), aI (f (Int.toNat (x3 + 2))), aI (f (Int.toNat (x3 + 3)))] σ4 (fun v8 σ8 => (rI v4) ∧ (rI v8) ∧ ((v4 = v8 → WP E m_Law (d + 1) 1552 [(0, aP (-7)), (1, aP 1), (2, aP 42), (3, aI x3)] [] σ8 Q) ∧ (¬ v4 = v8 → Q (some (aI 0)) σ8))))))) : WP E m_Law (d + 1) 849 [(0, aP (-7)), (1, aP 1), (2, aP 42), (3, aI x3)] [] σ Q := by
  refine s_aload_n 1 d_Law_849 rfl rfl ?_
  refine s_aload_n 0 d_Law_850 rfl rfl ?_
  refine s_iload_n 3 d_Law_851 rfl rfl ?_
  refine s_iconst d_Law_852 ?_
  refine s_iadd d_Law_853 ?_
  obtain ⟨g1, h⟩ := h
  refine s_ialdX d_Law_854 hX g1 ?_
  refine s_aload_n 0 d_Law_855 rfl rfl ?_
  refine s_iload_n 3 d_Law_856 rfl rfl ?_
  refine s_iconst d_Law_857 ?_
  refine s_iadd d_Law_858 ?_
  obtain ⟨g2, h⟩ := h
  refine s_ialdX d_Law_859 hX g2 ?_
  refine s_aload_n 0 d_Law_860 rfl rfl ?_
  refine s_iload_n 3 d_Law_861 rfl rfl ?_
  refine s_iconst d_Law_862 ?_
  refine s_iadd d_Law_863 ?_
  obtain ⟨g3, h⟩ := h
  refine s_ialdX d_Law_864 hX g3 ?_
  refine s_callV (as := [aI (f (Int.toNat (x3 + 1))), aI (f (Int.toNat (x3 + 2))), aI (f (Int.toNat (x3 + 3)))]) (ci := 9) d_Law_865 ok_S_scale lk_Law_98 io_S_scale so_S_scale (by decide) rfl rfl rfl (Nat.le_of_ble_eq_true rfl) rfl (sf_1 hF) (WM.mono h ?_)
  rintro _ σ4 ⟨v4, rfl, hp, h⟩
  obtain ⟨hF4, h⟩ := h
  show WP E m_Law (d + 1) 868 [(0, aP (-7)), (1, aP 1), (2, aP 42), (3, aI x3)] [aI v4] σ4 Q
  refine s_aload_n 2 d_Law_868 rfl rfl ?_
  refine s_aload_n 0 d_Law_869 rfl rfl ?_
  refine s_iload_n 3 d_Law_870 rfl rfl ?_
  refine s_iconst d_Law_871 ?_
  refine s_iadd d_Law_872 ?_
  obtain ⟨g5, h⟩ := h
  refine s_ialdX d_Law_873 hX g5 ?_
  refine s_aload_n 0 d_Law_874 rfl rfl ?_
  refine s_iload_n 3 d_Law_875 rfl rfl ?_
  refine s_iconst d_Law_876 ?_
  refine s_iadd d_Law_877 ?_
  obtain ⟨g6, h⟩ := h
  refine s_ialdX d_Law_878 hX g6 ?_
  refine s_aload_n 0 d_Law_879 rfl rfl ?_
  refine s_iload_n 3 d_Law_880 rfl rfl ?_
  refine s_iconst d_Law_881 ?_
  refine s_iadd d_Law_882 ?_
  obtain ⟨g7, h⟩ := h
  refine s_ialdX d_Law_883 hX g7 ?_
  refine s_callV (as := [aI (f (Int.toNat (x3 + 1))), aI (f (Int.toNat (x3 + 2))), aI (f (Int.toNat (x3 + 3)))]) (ci := 10) d_Law_884 ok_M_scale lk_Law_101 io_M_scale so_M_scale (by decide) rfl rfl rfl (Nat.le_of_ble_eq_true rfl) rfl (sf_42 hF4) (WM.mono h ?_)
  rintro _ σ8 ⟨v8, rfl, hp, h⟩
  show WP E m_Law (d + 1) 887 [(0, aP (-7)), (1, aP 1), (2, aP 42), (3, aI x3)] [aI v8, aI v4] σ8 Q
  obtain ⟨g9, h⟩ := h
  obtain ⟨g10, h⟩ := h
  refine s_icmp_eq d_Law_887 rfl g9 g10 (fun c => ?_) (fun c => ?_)
  · have h := h.1 c
    exact h
  · have h := h.2 c
    refine s_iconst d_Law_890 ?_
    exact s_zreturn d_Law_891 rfl (by decide) h
theorem b_Law_892 {E : EV} {d : Nat} {Q : Option AV → St → Prop} {σ : St} {L : Nat} {f : Nat → Int} (hX : XT E (-7) .int L f) (x3 : Int) (hF : Fix σ) (h : (0 ≤ (x3 + 1) ∧ (x3 + 1) < L) ∧ (0 ≤ (x3 + 2) ∧ (x3 + 2) < L) ∧ (0 ≤ (x3 + 3) ∧ (x3 + 3) < L) ∧ (WMi E m_S_letter d [aP 1, aI (f (Int.toNat (x3 + 1))), aI (f (Int.toNat (x3 + 2))), aI (f (Int.toNat (x3 + 3)))] σ (fun v4 σ4 => Fix σ4 ∧ (0 ≤ (x3 + 1) ∧ (x3 + 1) < L) ∧ (0 ≤ (x3 + 2) ∧ (x3 + 2) < L) ∧ (0 ≤ (x3 + 3) ∧ (x3 + 3) < L) ∧ (WMi E m_M_letter d [aP 42, aI (f (Int.toNat (x3 + 1))), aI (f (Int.toNat (x3 + 2))), aI (f (Int.toNat (x3 + 3)))] σ4 (fun v8 σ8 => (rI v4) ∧ (rI v8) ∧ ((v4 = v8 → WP E m_Law (d + 1) 1552 [(0, aP (-7)), (1, aP 1), (2, aP 42), (3, aI x3)] [] σ8 Q) ∧ (¬ v4 = v8 → Q (some (aI 0)) σ8))))))) : WP E m_Law (d + 1) 892 [(0, aP (-7)), (1, aP 1), (2, aP 42), (3, aI x3)] [] σ Q := by
  refine s_aload_n 1 d_Law_892 rfl rfl ?_
  refine s_aload_n 0 d_Law_893 rfl rfl ?_
  refine s_iload_n 3 d_Law_894 rfl rfl ?_
  refine s_iconst d_Law_895 ?_
  refine s_iadd d_Law_896 ?_
  obtain ⟨g1, h⟩ := h
  refine s_ialdX d_Law_897 hX g1 ?_
  refine s_aload_n 0 d_Law_898 rfl rfl ?_
  refine s_iload_n 3 d_Law_899 rfl rfl ?_
  refine s_iconst d_Law_900 ?_
  refine s_iadd d_Law_901 ?_
  obtain ⟨g2, h⟩ := h
  refine s_ialdX d_Law_902 hX g2 ?_
  refine s_aload_n 0 d_Law_903 rfl rfl ?_
  refine s_iload_n 3 d_Law_904 rfl rfl ?_
  refine s_iconst d_Law_905 ?_
  refine s_iadd d_Law_906 ?_
  obtain ⟨g3, h⟩ := h
  refine s_ialdX d_Law_907 hX g3 ?_
  refine s_callV (as := [aI (f (Int.toNat (x3 + 1))), aI (f (Int.toNat (x3 + 2))), aI (f (Int.toNat (x3 + 3)))]) (ci := 9) d_Law_908 ok_S_letter lk_Law_102 io_S_letter so_S_letter (by decide) rfl rfl rfl (Nat.le_of_ble_eq_true rfl) rfl (sf_1 hF) (WM.mono h ?_)
  rintro _ σ4 ⟨v4, rfl, hp, h⟩
  obtain ⟨hF4, h⟩ := h
  show WP E m_Law (d + 1) 911 [(0, aP (-7)), (1, aP 1), (2, aP 42), (3, aI x3)] [aI v4] σ4 Q
  refine s_aload_n 2 d_Law_911 rfl rfl ?_
  refine s_aload_n 0 d_Law_912 rfl rfl ?_
  refine s_iload_n 3 d_Law_913 rfl rfl ?_
  refine s_iconst d_Law_914 ?_
  refine s_iadd d_Law_915 ?_
  obtain ⟨g5, h⟩ := h
  refine s_ialdX d_Law_916 hX g5 ?_
  refine s_aload_n 0 d_Law_917 rfl rfl ?_
  refine s_iload_n 3 d_Law_918 rfl rfl ?_
  refine s_iconst d_Law_919 ?_
  refine s_iadd d_Law_920 ?_
  obtain ⟨g6, h⟩ := h
  refine s_ialdX d_Law_921 hX g6 ?_
  refine s_aload_n 0 d_Law_922 rfl rfl ?_
  refine s_iload_n 3 d_Law_923 rfl rfl ?_
  refine s_iconst d_Law_924 ?_
  refine s_iadd d_Law_925 ?_
  obtain ⟨g7, h⟩ := h
  refine s_ialdX d_Law_926 hX g7 ?_
  refine s_callV (as := [aI (f (Int.toNat (x3 + 1))), aI (f (Int.toNat (x3 + 2))), aI (f (Int.toNat (x3 + 3)))]) (ci := 10) d_Law_927 ok_M_letter lk_Law_105 io_M_letter so_M_letter (by decide) rfl rfl rfl (Nat.le_of_ble_eq_true rfl) rfl (sf_42 hF4) (WM.mono h ?_)
  rintro _ σ8 ⟨v8, rfl, hp, h⟩
  show WP E m_Law (d + 1) 930 [(0, aP (-7)), (1, aP 1), (2, aP 42), (3, aI x3)] [aI v8, aI v4] σ8 Q
  obtain ⟨g9, h⟩ := h
  obtain ⟨g10, h⟩ := h
  refine s_icmp_eq d_Law_930 rfl g9 g10 (fun c => ?_) (fun c => ?_)
  · have h := h.1 c
    exact h
  · have h := h.2 c
    refine s_iconst d_Law_933 ?_
    exact s_zreturn d_Law_934 rfl (by decide) h
theorem b_Law_935 {E : EV} {d : Nat} {Q : Option AV → St → Prop} {σ : St} {L : Nat} {f : Nat → Int} (hX : XT E (-7) .int L f) (x3 : Int) (hF : Fix σ) (h : (0 ≤ (x3 + 1) ∧ (x3 + 1) < L) ∧ (0 ≤ (x3 + 2) ∧ (x3 + 2) < L) ∧ (0 ≤ (x3 + 3) ∧ (x3 + 3) < L) ∧ (WMi E m_S_inside d [aP 1, aI (f (Int.toNat (x3 + 1))), aI (f (Int.toNat (x3 + 2))), aI (f (Int.toNat (x3 + 3)))] σ (fun v4 σ4 => Fix σ4 ∧ (0 ≤ (x3 + 1) ∧ (x3 + 1) < L) ∧ (0 ≤ (x3 + 2) ∧ (x3 + 2) < L) ∧ (0 ≤ (x3 + 3) ∧ (x3 + 3) < L) ∧ (WMi E m_M_inside d [aP 42, aI (f (Int.toNat (x3 + 1))), aI (f (Int.toNat (x3 + 2))), aI (f (Int.toNat (x3 + 3)))] σ4 (fun v8 σ8 => (rI v4) ∧ (rI v8) ∧ ((v4 = v8 → WP E m_Law (d + 1) 1552 [(0, aP (-7)), (1, aP 1), (2, aP 42), (3, aI x3)] [] σ8 Q) ∧ (¬ v4 = v8 → Q (some (aI 0)) σ8))))))) : WP E m_Law (d + 1) 935 [(0, aP (-7)), (1, aP 1), (2, aP 42), (3, aI x3)] [] σ Q := by
  refine s_aload_n 1 d_Law_935 rfl rfl ?_
  refine s_aload_n 0 d_Law_936 rfl rfl ?_
  refine s_iload_n 3 d_Law_937 rfl rfl ?_
  refine s_iconst d_Law_938 ?_
  refine s_iadd d_Law_939 ?_
  obtain ⟨g1, h⟩ := h
  refine s_ialdX d_Law_940 hX g1 ?_
  refine s_aload_n 0 d_Law_941 rfl rfl ?_
  refine s_iload_n 3 d_Law_942 rfl rfl ?_
  refine s_iconst d_Law_943 ?_
  refine s_iadd d_Law_944 ?_
  obtain ⟨g2, h⟩ := h
  refine s_ialdX d_Law_945 hX g2 ?_
  refine s_aload_n 0 d_Law_946 rfl rfl ?_
  refine s_iload_n 3 d_Law_947 rfl rfl ?_
  refine s_iconst d_Law_948 ?_
  refine s_iadd d_Law_949 ?_
  obtain ⟨g3, h⟩ := h
  refine s_ialdX d_Law_950 hX g3 ?_
  refine s_callV (as := [aI (f (Int.toNat (x3 + 1))), aI (f (Int.toNat (x3 + 2))), aI (f (Int.toNat (x3 + 3)))]) (ci := 9) d_Law_951 ok_S_inside lk_Law_106 io_S_inside so_S_inside (by decide) rfl rfl rfl (Nat.le_of_ble_eq_true rfl) rfl (sf_1 hF) (WM.mono h ?_)
  rintro _ σ4 ⟨v4, rfl, hp, h⟩
  obtain ⟨hF4, h⟩ := h
  show WP E m_Law (d + 1) 954 [(0, aP (-7)), (1, aP 1), (2, aP 42), (3, aI x3)] [aI v4] σ4 Q
  refine s_aload_n 2 d_Law_954 rfl rfl ?_
  refine s_aload_n 0 d_Law_955 rfl rfl ?_
  refine s_iload_n 3 d_Law_956 rfl rfl ?_
  refine s_iconst d_Law_957 ?_
  refine s_iadd d_Law_958 ?_
  obtain ⟨g5, h⟩ := h
  refine s_ialdX d_Law_959 hX g5 ?_
  refine s_aload_n 0 d_Law_960 rfl rfl ?_
  refine s_iload_n 3 d_Law_961 rfl rfl ?_
  refine s_iconst d_Law_962 ?_
  refine s_iadd d_Law_963 ?_
  obtain ⟨g6, h⟩ := h
  refine s_ialdX d_Law_964 hX g6 ?_
  refine s_aload_n 0 d_Law_965 rfl rfl ?_
  refine s_iload_n 3 d_Law_966 rfl rfl ?_
  refine s_iconst d_Law_967 ?_
  refine s_iadd d_Law_968 ?_
  obtain ⟨g7, h⟩ := h
  refine s_ialdX d_Law_969 hX g7 ?_
  refine s_callV (as := [aI (f (Int.toNat (x3 + 1))), aI (f (Int.toNat (x3 + 2))), aI (f (Int.toNat (x3 + 3)))]) (ci := 10) d_Law_970 ok_M_inside lk_Law_109 io_M_inside so_M_inside (by decide) rfl rfl rfl (Nat.le_of_ble_eq_true rfl) rfl (sf_42 hF4) (WM.mono h ?_)
  rintro _ σ8 ⟨v8, rfl, hp, h⟩
  show WP E m_Law (d + 1) 973 [(0, aP (-7)), (1, aP 1), (2, aP 42), (3, aI x3)] [aI v8, aI v4] σ8 Q
  obtain ⟨g9, h⟩ := h
  obtain ⟨g10, h⟩ := h
  refine s_icmp_eq d_Law_973 rfl g9 g10 (fun c => ?_) (fun c => ?_)
  · have h := h.1 c
    exact h
  · have h := h.2 c
    refine s_iconst d_Law_976 ?_
    exact s_zreturn d_Law_977 rfl (by decide) h
theorem b_Law_978 {E : EV} {d : Nat} {Q : Option AV → St → Prop} {σ : St} {L : Nat} {f : Nat → Int} (hX : XT E (-7) .int L f) (x3 : Int) (hF : Fix σ) (h : (0 ≤ (x3 + 1) ∧ (x3 + 1) < L) ∧ (0 ≤ (x3 + 2) ∧ (x3 + 2) < L) ∧ (0 ≤ (x3 + 3) ∧ (x3 + 3) < L) ∧ (0 ≤ (x3 + 4) ∧ (x3 + 4) < L) ∧ (0 ≤ (x3 + 5) ∧ (x3 + 5) < L) ∧ (WMl E m_S_box d [aP 1, aI (f (Int.toNat (x3 + 1))), aI (f (Int.toNat (x3 + 2))), aI (f (Int.toNat (x3 + 3))), aI (f (Int.toNat (x3 + 4))), aI (f (Int.toNat (x3 + 5)))] σ (fun v6 σ6 => Fix σ6 ∧ (0 ≤ (x3 + 1) ∧ (x3 + 1) < L) ∧ (0 ≤ (x3 + 2) ∧ (x3 + 2) < L) ∧ (0 ≤ (x3 + 3) ∧ (x3 + 3) < L) ∧ (0 ≤ (x3 + 4) ∧ (x3 + 4) < L) ∧ (0 ≤ (x3 + 5) ∧ (x3 + 5) < L) ∧ (WMl E m_M_box d [aP 42, aI (f (Int.toNat (x3 + 1))), aI (f (Int.toNat (x3 + 2))), aI (f (Int.toNat (x3 + 3))), aI (f (Int.toNat (x3 + 4))), aI (f (Int.toNat (x3 + 5)))] σ6 (fun v12 σ12 => (rL v6) ∧ (rL v12) ∧ ((v6 = v12 → WP E m_Law (d + 1) 1552 [(0, aP (-7)), (1, aP 1), (2, aP 42), (3, aI x3)] [] σ12 Q) ∧ (¬ v6 = v12 → Q (some (aI 0)) σ12))))))) : WP E m_Law (d + 1) 978 [(0, aP (-7)), (1, aP 1), (2, aP 42), (3, aI x3)] [] σ Q := by
  refine s_aload_n 1 d_Law_978 rfl rfl ?_
  refine s_aload_n 0 d_Law_979 rfl rfl ?_
  refine s_iload_n 3 d_Law_980 rfl rfl ?_
  refine s_iconst d_Law_981 ?_
  refine s_iadd d_Law_982 ?_
  obtain ⟨g1, h⟩ := h
  refine s_ialdX d_Law_983 hX g1 ?_
  refine s_aload_n 0 d_Law_984 rfl rfl ?_
  refine s_iload_n 3 d_Law_985 rfl rfl ?_
  refine s_iconst d_Law_986 ?_
  refine s_iadd d_Law_987 ?_
  obtain ⟨g2, h⟩ := h
  refine s_ialdX d_Law_988 hX g2 ?_
  refine s_aload_n 0 d_Law_989 rfl rfl ?_
  refine s_iload_n 3 d_Law_990 rfl rfl ?_
  refine s_iconst d_Law_991 ?_
  refine s_iadd d_Law_992 ?_
  obtain ⟨g3, h⟩ := h
  refine s_ialdX d_Law_993 hX g3 ?_
  refine s_aload_n 0 d_Law_994 rfl rfl ?_
  refine s_iload_n 3 d_Law_995 rfl rfl ?_
  refine s_iconst d_Law_996 ?_
  refine s_iadd d_Law_997 ?_
  obtain ⟨g4, h⟩ := h
  refine s_ialdX d_Law_998 hX g4 ?_
  refine s_aload_n 0 d_Law_999 rfl rfl ?_
  refine s_iload_n 3 d_Law_1000 rfl rfl ?_
  refine s_iconst d_Law_1001 ?_
  refine s_iadd d_Law_1002 ?_
  obtain ⟨g5, h⟩ := h
  refine s_ialdX d_Law_1003 hX g5 ?_
  refine s_callV (as := [aI (f (Int.toNat (x3 + 1))), aI (f (Int.toNat (x3 + 2))), aI (f (Int.toNat (x3 + 3))), aI (f (Int.toNat (x3 + 4))), aI (f (Int.toNat (x3 + 5)))]) (ci := 9) d_Law_1004 ok_S_box lk_Law_110 io_S_box so_S_box (by decide) rfl rfl rfl (Nat.le_of_ble_eq_true rfl) rfl (sf_1 hF) (WM.mono h ?_)
  rintro _ σ6 ⟨v6, rfl, hp, h⟩
  obtain ⟨hF6, h⟩ := h
  show WP E m_Law (d + 1) 1007 [(0, aP (-7)), (1, aP 1), (2, aP 42), (3, aI x3)] [aL v6] σ6 Q
  refine s_aload_n 2 d_Law_1007 rfl rfl ?_
  refine s_aload_n 0 d_Law_1008 rfl rfl ?_
  refine s_iload_n 3 d_Law_1009 rfl rfl ?_
  refine s_iconst d_Law_1010 ?_
  refine s_iadd d_Law_1011 ?_
  obtain ⟨g7, h⟩ := h
  refine s_ialdX d_Law_1012 hX g7 ?_
  refine s_aload_n 0 d_Law_1013 rfl rfl ?_
  refine s_iload_n 3 d_Law_1014 rfl rfl ?_
  refine s_iconst d_Law_1015 ?_
  refine s_iadd d_Law_1016 ?_
  obtain ⟨g8, h⟩ := h
  refine s_ialdX d_Law_1017 hX g8 ?_
  refine s_aload_n 0 d_Law_1018 rfl rfl ?_
  refine s_iload_n 3 d_Law_1019 rfl rfl ?_
  refine s_iconst d_Law_1020 ?_
  refine s_iadd d_Law_1021 ?_
  obtain ⟨g9, h⟩ := h
  refine s_ialdX d_Law_1022 hX g9 ?_
  refine s_aload_n 0 d_Law_1023 rfl rfl ?_
  refine s_iload_n 3 d_Law_1024 rfl rfl ?_
  refine s_iconst d_Law_1025 ?_
  refine s_iadd d_Law_1026 ?_
  obtain ⟨g10, h⟩ := h
  refine s_ialdX d_Law_1027 hX g10 ?_
  refine s_aload_n 0 d_Law_1028 rfl rfl ?_
  refine s_iload_n 3 d_Law_1029 rfl rfl ?_
  refine s_iconst d_Law_1030 ?_
  refine s_iadd d_Law_1031 ?_
  obtain ⟨g11, h⟩ := h
  refine s_ialdX d_Law_1032 hX g11 ?_
  refine s_callV (as := [aI (f (Int.toNat (x3 + 1))), aI (f (Int.toNat (x3 + 2))), aI (f (Int.toNat (x3 + 3))), aI (f (Int.toNat (x3 + 4))), aI (f (Int.toNat (x3 + 5)))]) (ci := 10) d_Law_1033 ok_M_box lk_Law_114 io_M_box so_M_box (by decide) rfl rfl rfl (Nat.le_of_ble_eq_true rfl) rfl (sf_42 hF6) (WM.mono h ?_)
  rintro _ σ12 ⟨v12, rfl, hp, h⟩
  show WP E m_Law (d + 1) 1036 [(0, aP (-7)), (1, aP 1), (2, aP 42), (3, aI x3)] [aL v12, aL v6] σ12 Q
  obtain ⟨g13, h⟩ := h
  obtain ⟨g14, h⟩ := h
  refine s_lcmp d_Law_1036 g13 g14 ?_
  refine s_if_eq d_Law_1037 rfl (lcmp_r _ _) (fun c => ?_) (fun c => ?_)
  · have h := h.1 (lcmp_eq.mp c)
    exact h
  · have h := h.2 (nlcmp_eq c)
    refine s_iconst d_Law_1040 ?_
    exact s_zreturn d_Law_1041 rfl (by decide) h
theorem b_Law_1042 {E : EV} {d : Nat} {Q : Option AV → St → Prop} {σ : St} {L : Nat} {f : Nat → Int} (hX : XT E (-7) .int L f) (x3 : Int) (hF : Fix σ) (h : (0 ≤ (x3 + 1) ∧ (x3 + 1) < L) ∧ (0 ≤ (x3 + 2) ∧ (x3 + 2) < L) ∧ (0 ≤ (x3 + 3) ∧ (x3 + 3) < L) ∧ (0 ≤ (x3 + 4) ∧ (x3 + 4) < L) ∧ (0 ≤ (x3 + 5) ∧ (x3 + 5) < L) ∧ (WMi E m_S_at d [aP 1, aI (f (Int.toNat (x3 + 1))), aI (f (Int.toNat (x3 + 2))), aI (f (Int.toNat (x3 + 3))), aI (f (Int.toNat (x3 + 4))), aI (f (Int.toNat (x3 + 5)))] σ (fun v6 σ6 => Fix σ6 ∧ (0 ≤ (x3 + 1) ∧ (x3 + 1) < L) ∧ (0 ≤ (x3 + 2) ∧ (x3 + 2) < L) ∧ (0 ≤ (x3 + 3) ∧ (x3 + 3) < L) ∧ (0 ≤ (x3 + 4) ∧ (x3 + 4) < L) ∧ (0 ≤ (x3 + 5) ∧ (x3 + 5) < L) ∧ (WMi E m_M_at d [aP 42, aI (f (Int.toNat (x3 + 1))), aI (f (Int.toNat (x3 + 2))), aI (f (Int.toNat (x3 + 3))), aI (f (Int.toNat (x3 + 4))), aI (f (Int.toNat (x3 + 5)))] σ6 (fun v12 σ12 => (rI v6) ∧ (rI v12) ∧ ((v6 = v12 → WP E m_Law (d + 1) 1552 [(0, aP (-7)), (1, aP 1), (2, aP 42), (3, aI x3)] [] σ12 Q) ∧ (¬ v6 = v12 → Q (some (aI 0)) σ12))))))) : WP E m_Law (d + 1) 1042 [(0, aP (-7)), (1, aP 1), (2, aP 42), (3, aI x3)] [] σ Q := by
  refine s_aload_n 1 d_Law_1042 rfl rfl ?_
  refine s_aload_n 0 d_Law_1043 rfl rfl ?_
  refine s_iload_n 3 d_Law_1044 rfl rfl ?_
  refine s_iconst d_Law_1045 ?_
  refine s_iadd d_Law_1046 ?_
  obtain ⟨g1, h⟩ := h
  refine s_ialdX d_Law_1047 hX g1 ?_
  refine s_aload_n 0 d_Law_1048 rfl rfl ?_
  refine s_iload_n 3 d_Law_1049 rfl rfl ?_
  refine s_iconst d_Law_1050 ?_
  refine s_iadd d_Law_1051 ?_
  obtain ⟨g2, h⟩ := h
  refine s_ialdX d_Law_1052 hX g2 ?_
  refine s_aload_n 0 d_Law_1053 rfl rfl ?_
  refine s_iload_n 3 d_Law_1054 rfl rfl ?_
  refine s_iconst d_Law_1055 ?_
  refine s_iadd d_Law_1056 ?_
  obtain ⟨g3, h⟩ := h
  refine s_ialdX d_Law_1057 hX g3 ?_
  refine s_aload_n 0 d_Law_1058 rfl rfl ?_
  refine s_iload_n 3 d_Law_1059 rfl rfl ?_
  refine s_iconst d_Law_1060 ?_
  refine s_iadd d_Law_1061 ?_
  obtain ⟨g4, h⟩ := h
  refine s_ialdX d_Law_1062 hX g4 ?_
  refine s_aload_n 0 d_Law_1063 rfl rfl ?_
  refine s_iload_n 3 d_Law_1064 rfl rfl ?_
  refine s_iconst d_Law_1065 ?_
  refine s_iadd d_Law_1066 ?_
  obtain ⟨g5, h⟩ := h
  refine s_ialdX d_Law_1067 hX g5 ?_
  refine s_callV (as := [aI (f (Int.toNat (x3 + 1))), aI (f (Int.toNat (x3 + 2))), aI (f (Int.toNat (x3 + 3))), aI (f (Int.toNat (x3 + 4))), aI (f (Int.toNat (x3 + 5)))]) (ci := 9) d_Law_1068 ok_S_at lk_Law_115 io_S_at so_S_at (by decide) rfl rfl rfl (Nat.le_of_ble_eq_true rfl) rfl (sf_1 hF) (WM.mono h ?_)
  rintro _ σ6 ⟨v6, rfl, hp, h⟩
  obtain ⟨hF6, h⟩ := h
  show WP E m_Law (d + 1) 1071 [(0, aP (-7)), (1, aP 1), (2, aP 42), (3, aI x3)] [aI v6] σ6 Q
  refine s_aload_n 2 d_Law_1071 rfl rfl ?_
  refine s_aload_n 0 d_Law_1072 rfl rfl ?_
  refine s_iload_n 3 d_Law_1073 rfl rfl ?_
  refine s_iconst d_Law_1074 ?_
  refine s_iadd d_Law_1075 ?_
  obtain ⟨g7, h⟩ := h
  refine s_ialdX d_Law_1076 hX g7 ?_
  refine s_aload_n 0 d_Law_1077 rfl rfl ?_
  refine s_iload_n 3 d_Law_1078 rfl rfl ?_
  refine s_iconst d_Law_1079 ?_
  refine s_iadd d_Law_1080 ?_
  obtain ⟨g8, h⟩ := h
  refine s_ialdX d_Law_1081 hX g8 ?_
  refine s_aload_n 0 d_Law_1082 rfl rfl ?_
  refine s_iload_n 3 d_Law_1083 rfl rfl ?_
  refine s_iconst d_Law_1084 ?_
  refine s_iadd d_Law_1085 ?_
  obtain ⟨g9, h⟩ := h
  refine s_ialdX d_Law_1086 hX g9 ?_
  refine s_aload_n 0 d_Law_1087 rfl rfl ?_
  refine s_iload_n 3 d_Law_1088 rfl rfl ?_
  refine s_iconst d_Law_1089 ?_
  refine s_iadd d_Law_1090 ?_
  obtain ⟨g10, h⟩ := h
  refine s_ialdX d_Law_1091 hX g10 ?_
  refine s_aload_n 0 d_Law_1092 rfl rfl ?_
  refine s_iload_n 3 d_Law_1093 rfl rfl ?_
  refine s_iconst d_Law_1094 ?_
  refine s_iadd d_Law_1095 ?_
  obtain ⟨g11, h⟩ := h
  refine s_ialdX d_Law_1096 hX g11 ?_
  refine s_callV (as := [aI (f (Int.toNat (x3 + 1))), aI (f (Int.toNat (x3 + 2))), aI (f (Int.toNat (x3 + 3))), aI (f (Int.toNat (x3 + 4))), aI (f (Int.toNat (x3 + 5)))]) (ci := 10) d_Law_1097 ok_M_at lk_Law_118 io_M_at so_M_at (by decide) rfl rfl rfl (Nat.le_of_ble_eq_true rfl) rfl (sf_42 hF6) (WM.mono h ?_)
  rintro _ σ12 ⟨v12, rfl, hp, h⟩
  show WP E m_Law (d + 1) 1100 [(0, aP (-7)), (1, aP 1), (2, aP 42), (3, aI x3)] [aI v12, aI v6] σ12 Q
  obtain ⟨g13, h⟩ := h
  obtain ⟨g14, h⟩ := h
  refine s_icmp_eq d_Law_1100 rfl g13 g14 (fun c => ?_) (fun c => ?_)
  · have h := h.1 c
    exact h
  · have h := h.2 c
    refine s_iconst d_Law_1103 ?_
    exact s_zreturn d_Law_1104 rfl (by decide) h
theorem b_Law_1105 {E : EV} {d : Nat} {Q : Option AV → St → Prop} {σ : St} {L : Nat} {f : Nat → Int} (hX : XT E (-7) .int L f) (x3 : Int) (hF : Fix σ) (h : (0 ≤ (x3 + 1) ∧ (x3 + 1) < L) ∧ (0 ≤ (x3 + 2) ∧ (x3 + 2) < L) ∧ (WMi E m_S_column d [aP 1, aI (f (Int.toNat (x3 + 1))), aI (f (Int.toNat (x3 + 2)))] σ (fun v3 σ3 => Fix σ3 ∧ (0 ≤ (x3 + 1) ∧ (x3 + 1) < L) ∧ (0 ≤ (x3 + 2) ∧ (x3 + 2) < L) ∧ (WMi E m_M_column d [aP 42, aI (f (Int.toNat (x3 + 1))), aI (f (Int.toNat (x3 + 2)))] σ3 (fun v6 σ6 => (rI v3) ∧ (rI v6) ∧ ((v3 = v6 → WP E m_Law (d + 1) 1552 [(0, aP (-7)), (1, aP 1), (2, aP 42), (3, aI x3)] [] σ6 Q) ∧ (¬ v3 = v6 → Q (some (aI 0)) σ6))))))) : WP E m_Law (d + 1) 1105 [(0, aP (-7)), (1, aP 1), (2, aP 42), (3, aI x3)] [] σ Q := by
  refine s_aload_n 1 d_Law_1105 rfl rfl ?_
  refine s_aload_n 0 d_Law_1106 rfl rfl ?_
  refine s_iload_n 3 d_Law_1107 rfl rfl ?_
  refine s_iconst d_Law_1108 ?_
  refine s_iadd d_Law_1109 ?_
  obtain ⟨g1, h⟩ := h
  refine s_ialdX d_Law_1110 hX g1 ?_
  refine s_aload_n 0 d_Law_1111 rfl rfl ?_
  refine s_iload_n 3 d_Law_1112 rfl rfl ?_
  refine s_iconst d_Law_1113 ?_
  refine s_iadd d_Law_1114 ?_
  obtain ⟨g2, h⟩ := h
  refine s_ialdX d_Law_1115 hX g2 ?_
  refine s_callV (as := [aI (f (Int.toNat (x3 + 1))), aI (f (Int.toNat (x3 + 2)))]) (ci := 9) d_Law_1116 ok_S_column lk_Law_119 io_S_column so_S_column (by decide) rfl rfl rfl (Nat.le_of_ble_eq_true rfl) rfl (sf_1 hF) (WM.mono h ?_)
  rintro _ σ3 ⟨v3, rfl, hp, h⟩
  obtain ⟨hF3, h⟩ := h
  show WP E m_Law (d + 1) 1119 [(0, aP (-7)), (1, aP 1), (2, aP 42), (3, aI x3)] [aI v3] σ3 Q
  refine s_aload_n 2 d_Law_1119 rfl rfl ?_
  refine s_aload_n 0 d_Law_1120 rfl rfl ?_
  refine s_iload_n 3 d_Law_1121 rfl rfl ?_
  refine s_iconst d_Law_1122 ?_
  refine s_iadd d_Law_1123 ?_
  obtain ⟨g4, h⟩ := h
  refine s_ialdX d_Law_1124 hX g4 ?_
  refine s_aload_n 0 d_Law_1125 rfl rfl ?_
  refine s_iload_n 3 d_Law_1126 rfl rfl ?_
  refine s_iconst d_Law_1127 ?_
  refine s_iadd d_Law_1128 ?_
  obtain ⟨g5, h⟩ := h
  refine s_ialdX d_Law_1129 hX g5 ?_
  refine s_callV (as := [aI (f (Int.toNat (x3 + 1))), aI (f (Int.toNat (x3 + 2)))]) (ci := 10) d_Law_1130 ok_M_column lk_Law_122 io_M_column so_M_column (by decide) rfl rfl rfl (Nat.le_of_ble_eq_true rfl) rfl (sf_42 hF3) (WM.mono h ?_)
  rintro _ σ6 ⟨v6, rfl, hp, h⟩
  show WP E m_Law (d + 1) 1133 [(0, aP (-7)), (1, aP 1), (2, aP 42), (3, aI x3)] [aI v6, aI v3] σ6 Q
  obtain ⟨g7, h⟩ := h
  obtain ⟨g8, h⟩ := h
  refine s_icmp_eq d_Law_1133 rfl g7 g8 (fun c => ?_) (fun c => ?_)
  · have h := h.1 c
    exact h
  · have h := h.2 c
    refine s_iconst d_Law_1136 ?_
    exact s_zreturn d_Law_1137 rfl (by decide) h
theorem b_Law_1138 {E : EV} {d : Nat} {Q : Option AV → St → Prop} {σ : St} {L : Nat} {f : Nat → Int} (hX : XT E (-7) .int L f) (x3 : Int) (hF : Fix σ) (h : (0 ≤ (x3 + 1) ∧ (x3 + 1) < L) ∧ (0 ≤ (x3 + 2) ∧ (x3 + 2) < L) ∧ (0 ≤ (x3 + 3) ∧ (x3 + 3) < L) ∧ (WMl E m_S_covered d [aP 1, aI (f (Int.toNat (x3 + 1))), aI (f (Int.toNat (x3 + 2))), aI (f (Int.toNat (x3 + 3)))] σ (fun v4 σ4 => Fix σ4 ∧ (0 ≤ (x3 + 1) ∧ (x3 + 1) < L) ∧ (0 ≤ (x3 + 2) ∧ (x3 + 2) < L) ∧ (0 ≤ (x3 + 3) ∧ (x3 + 3) < L) ∧ (WMl E m_M_covered d [aP 42, aI (f (Int.toNat (x3 + 1))), aI (f (Int.toNat (x3 + 2))), aI (f (Int.toNat (x3 + 3)))] σ4 (fun v8 σ8 => (rL v4) ∧ (rL v8) ∧ ((v4 = v8 → WP E m_Law (d + 1) 1552 [(0, aP (-7)), (1, aP 1), (2, aP 42), (3, aI x3)] [] σ8 Q) ∧ (¬ v4 = v8 → Q (some (aI 0)) σ8))))))) : WP E m_Law (d + 1) 1138 [(0, aP (-7)), (1, aP 1), (2, aP 42), (3, aI x3)] [] σ Q := by
  refine s_aload_n 1 d_Law_1138 rfl rfl ?_
  refine s_aload_n 0 d_Law_1139 rfl rfl ?_
  refine s_iload_n 3 d_Law_1140 rfl rfl ?_
  refine s_iconst d_Law_1141 ?_
  refine s_iadd d_Law_1142 ?_
  obtain ⟨g1, h⟩ := h
  refine s_ialdX d_Law_1143 hX g1 ?_
  refine s_aload_n 0 d_Law_1144 rfl rfl ?_
  refine s_iload_n 3 d_Law_1145 rfl rfl ?_
  refine s_iconst d_Law_1146 ?_
  refine s_iadd d_Law_1147 ?_
  obtain ⟨g2, h⟩ := h
  refine s_ialdX d_Law_1148 hX g2 ?_
  refine s_aload_n 0 d_Law_1149 rfl rfl ?_
  refine s_iload_n 3 d_Law_1150 rfl rfl ?_
  refine s_iconst d_Law_1151 ?_
  refine s_iadd d_Law_1152 ?_
  obtain ⟨g3, h⟩ := h
  refine s_ialdX d_Law_1153 hX g3 ?_
  refine s_callV (as := [aI (f (Int.toNat (x3 + 1))), aI (f (Int.toNat (x3 + 2))), aI (f (Int.toNat (x3 + 3)))]) (ci := 9) d_Law_1154 ok_S_covered lk_Law_123 io_S_covered so_S_covered (by decide) rfl rfl rfl (Nat.le_of_ble_eq_true rfl) rfl (sf_1 hF) (WM.mono h ?_)
  rintro _ σ4 ⟨v4, rfl, hp, h⟩
  obtain ⟨hF4, h⟩ := h
  show WP E m_Law (d + 1) 1157 [(0, aP (-7)), (1, aP 1), (2, aP 42), (3, aI x3)] [aL v4] σ4 Q
  refine s_aload_n 2 d_Law_1157 rfl rfl ?_
  refine s_aload_n 0 d_Law_1158 rfl rfl ?_
  refine s_iload_n 3 d_Law_1159 rfl rfl ?_
  refine s_iconst d_Law_1160 ?_
  refine s_iadd d_Law_1161 ?_
  obtain ⟨g5, h⟩ := h
  refine s_ialdX d_Law_1162 hX g5 ?_
  refine s_aload_n 0 d_Law_1163 rfl rfl ?_
  refine s_iload_n 3 d_Law_1164 rfl rfl ?_
  refine s_iconst d_Law_1165 ?_
  refine s_iadd d_Law_1166 ?_
  obtain ⟨g6, h⟩ := h
  refine s_ialdX d_Law_1167 hX g6 ?_
  refine s_aload_n 0 d_Law_1168 rfl rfl ?_
  refine s_iload_n 3 d_Law_1169 rfl rfl ?_
  refine s_iconst d_Law_1170 ?_
  refine s_iadd d_Law_1171 ?_
  obtain ⟨g7, h⟩ := h
  refine s_ialdX d_Law_1172 hX g7 ?_
  refine s_callV (as := [aI (f (Int.toNat (x3 + 1))), aI (f (Int.toNat (x3 + 2))), aI (f (Int.toNat (x3 + 3)))]) (ci := 10) d_Law_1173 ok_M_covered lk_Law_127 io_M_covered so_M_covered (by decide) rfl rfl rfl (Nat.le_of_ble_eq_true rfl) rfl (sf_42 hF4) (WM.mono h ?_)
  rintro _ σ8 ⟨v8, rfl, hp, h⟩
  show WP E m_Law (d + 1) 1176 [(0, aP (-7)), (1, aP 1), (2, aP 42), (3, aI x3)] [aL v8, aL v4] σ8 Q
  obtain ⟨g9, h⟩ := h
  obtain ⟨g10, h⟩ := h
  refine s_lcmp d_Law_1176 g9 g10 ?_
  refine s_if_eq d_Law_1177 rfl (lcmp_r _ _) (fun c => ?_) (fun c => ?_)
  · have h := h.1 (lcmp_eq.mp c)
    exact h
  · have h := h.2 (nlcmp_eq c)
    refine s_iconst d_Law_1180 ?_
    exact s_zreturn d_Law_1181 rfl (by decide) h
theorem b_Law_1182 {E : EV} {d : Nat} {Q : Option AV → St → Prop} {σ : St} {L : Nat} {f : Nat → Int} (hX : XT E (-7) .int L f) (x3 : Int) (hF : Fix σ) (h : (0 ≤ (x3 + 1) ∧ (x3 + 1) < L) ∧ (0 ≤ (x3 + 2) ∧ (x3 + 2) < L) ∧ (WMi E m_S_smallest d [aP 1, aI (f (Int.toNat (x3 + 1))), aI (f (Int.toNat (x3 + 2)))] σ (fun v3 σ3 => Fix σ3 ∧ (0 ≤ (x3 + 1) ∧ (x3 + 1) < L) ∧ (0 ≤ (x3 + 2) ∧ (x3 + 2) < L) ∧ (WMi E m_M_smallest d [aP 42, aI (f (Int.toNat (x3 + 1))), aI (f (Int.toNat (x3 + 2)))] σ3 (fun v6 σ6 => (rI v3) ∧ (rI v6) ∧ ((v3 = v6 → WP E m_Law (d + 1) 1552 [(0, aP (-7)), (1, aP 1), (2, aP 42), (3, aI x3)] [] σ6 Q) ∧ (¬ v3 = v6 → Q (some (aI 0)) σ6))))))) : WP E m_Law (d + 1) 1182 [(0, aP (-7)), (1, aP 1), (2, aP 42), (3, aI x3)] [] σ Q := by
  refine s_aload_n 1 d_Law_1182 rfl rfl ?_
  refine s_aload_n 0 d_Law_1183 rfl rfl ?_
  refine s_iload_n 3 d_Law_1184 rfl rfl ?_
  refine s_iconst d_Law_1185 ?_
  refine s_iadd d_Law_1186 ?_
  obtain ⟨g1, h⟩ := h
  refine s_ialdX d_Law_1187 hX g1 ?_
  refine s_aload_n 0 d_Law_1188 rfl rfl ?_
  refine s_iload_n 3 d_Law_1189 rfl rfl ?_
  refine s_iconst d_Law_1190 ?_
  refine s_iadd d_Law_1191 ?_
  obtain ⟨g2, h⟩ := h
  refine s_ialdX d_Law_1192 hX g2 ?_
  refine s_callV (as := [aI (f (Int.toNat (x3 + 1))), aI (f (Int.toNat (x3 + 2)))]) (ci := 9) d_Law_1193 ok_S_smallest lk_Law_128 io_S_smallest so_S_smallest (by decide) rfl rfl rfl (Nat.le_of_ble_eq_true rfl) rfl (sf_1 hF) (WM.mono h ?_)
  rintro _ σ3 ⟨v3, rfl, hp, h⟩
  obtain ⟨hF3, h⟩ := h
  show WP E m_Law (d + 1) 1196 [(0, aP (-7)), (1, aP 1), (2, aP 42), (3, aI x3)] [aI v3] σ3 Q
  refine s_aload_n 2 d_Law_1196 rfl rfl ?_
  refine s_aload_n 0 d_Law_1197 rfl rfl ?_
  refine s_iload_n 3 d_Law_1198 rfl rfl ?_
  refine s_iconst d_Law_1199 ?_
  refine s_iadd d_Law_1200 ?_
  obtain ⟨g4, h⟩ := h
  refine s_ialdX d_Law_1201 hX g4 ?_
  refine s_aload_n 0 d_Law_1202 rfl rfl ?_
  refine s_iload_n 3 d_Law_1203 rfl rfl ?_
  refine s_iconst d_Law_1204 ?_
  refine s_iadd d_Law_1205 ?_
  obtain ⟨g5, h⟩ := h
  refine s_ialdX d_Law_1206 hX g5 ?_
  refine s_callV (as := [aI (f (Int.toNat (x3 + 1))), aI (f (Int.toNat (x3 + 2)))]) (ci := 10) d_Law_1207 ok_M_smallest lk_Law_131 io_M_smallest so_M_smallest (by decide) rfl rfl rfl (Nat.le_of_ble_eq_true rfl) rfl (sf_42 hF3) (WM.mono h ?_)
  rintro _ σ6 ⟨v6, rfl, hp, h⟩
  show WP E m_Law (d + 1) 1210 [(0, aP (-7)), (1, aP 1), (2, aP 42), (3, aI x3)] [aI v6, aI v3] σ6 Q
  obtain ⟨g7, h⟩ := h
  obtain ⟨g8, h⟩ := h
  refine s_icmp_eq d_Law_1210 rfl g7 g8 (fun c => ?_) (fun c => ?_)
  · have h := h.1 c
    exact h
  · have h := h.2 c
    refine s_iconst d_Law_1213 ?_
    exact s_zreturn d_Law_1214 rfl (by decide) h
theorem b_Law_1215 {E : EV} {d : Nat} {Q : Option AV → St → Prop} {σ : St} {L : Nat} {f : Nat → Int} (hX : XT E (-7) .int L f) (x3 : Int) (hF : Fix σ) (h : (0 ≤ (x3 + 1) ∧ (x3 + 1) < L) ∧ (0 ≤ (x3 + 2) ∧ (x3 + 2) < L) ∧ (0 ≤ (x3 + 3) ∧ (x3 + 3) < L) ∧ (0 ≤ (x3 + 4) ∧ (x3 + 4) < L) ∧ (WMi E m_S_same d [aP 1, aI (f (Int.toNat (x3 + 1))), aI (f (Int.toNat (x3 + 2))), aI (f (Int.toNat (x3 + 3))), aI (f (Int.toNat (x3 + 4)))] σ (fun v5 σ5 => Fix σ5 ∧ (0 ≤ (x3 + 1) ∧ (x3 + 1) < L) ∧ (0 ≤ (x3 + 2) ∧ (x3 + 2) < L) ∧ (0 ≤ (x3 + 3) ∧ (x3 + 3) < L) ∧ (0 ≤ (x3 + 4) ∧ (x3 + 4) < L) ∧ (WMi E m_M_same d [aP 42, aI (f (Int.toNat (x3 + 1))), aI (f (Int.toNat (x3 + 2))), aI (f (Int.toNat (x3 + 3))), aI (f (Int.toNat (x3 + 4)))] σ5 (fun v10 σ10 => (rI v5) ∧ (rI v10) ∧ ((v5 = v10 → WP E m_Law (d + 1) 1552 [(0, aP (-7)), (1, aP 1), (2, aP 42), (3, aI x3)] [] σ10 Q) ∧ (¬ v5 = v10 → Q (some (aI 0)) σ10))))))) : WP E m_Law (d + 1) 1215 [(0, aP (-7)), (1, aP 1), (2, aP 42), (3, aI x3)] [] σ Q := by
  refine s_aload_n 1 d_Law_1215 rfl rfl ?_
  refine s_aload_n 0 d_Law_1216 rfl rfl ?_
  refine s_iload_n 3 d_Law_1217 rfl rfl ?_
  refine s_iconst d_Law_1218 ?_
  refine s_iadd d_Law_1219 ?_
  obtain ⟨g1, h⟩ := h
  refine s_ialdX d_Law_1220 hX g1 ?_
  refine s_aload_n 0 d_Law_1221 rfl rfl ?_
  refine s_iload_n 3 d_Law_1222 rfl rfl ?_
  refine s_iconst d_Law_1223 ?_
  refine s_iadd d_Law_1224 ?_
  obtain ⟨g2, h⟩ := h
  refine s_ialdX d_Law_1225 hX g2 ?_
  refine s_aload_n 0 d_Law_1226 rfl rfl ?_
  refine s_iload_n 3 d_Law_1227 rfl rfl ?_
  refine s_iconst d_Law_1228 ?_
  refine s_iadd d_Law_1229 ?_
  obtain ⟨g3, h⟩ := h
  refine s_ialdX d_Law_1230 hX g3 ?_
  refine s_aload_n 0 d_Law_1231 rfl rfl ?_
  refine s_iload_n 3 d_Law_1232 rfl rfl ?_
  refine s_iconst d_Law_1233 ?_
  refine s_iadd d_Law_1234 ?_
  obtain ⟨g4, h⟩ := h
  refine s_ialdX d_Law_1235 hX g4 ?_
  refine s_callV (as := [aI (f (Int.toNat (x3 + 1))), aI (f (Int.toNat (x3 + 2))), aI (f (Int.toNat (x3 + 3))), aI (f (Int.toNat (x3 + 4)))]) (ci := 9) d_Law_1236 ok_S_same lk_Law_132 io_S_same so_S_same (by decide) rfl rfl rfl (Nat.le_of_ble_eq_true rfl) rfl (sf_1 hF) (WM.mono h ?_)
  rintro _ σ5 ⟨v5, rfl, hp, h⟩
  obtain ⟨hF5, h⟩ := h
  show WP E m_Law (d + 1) 1239 [(0, aP (-7)), (1, aP 1), (2, aP 42), (3, aI x3)] [aI v5] σ5 Q
  refine s_aload_n 2 d_Law_1239 rfl rfl ?_
  refine s_aload_n 0 d_Law_1240 rfl rfl ?_
  refine s_iload_n 3 d_Law_1241 rfl rfl ?_
  refine s_iconst d_Law_1242 ?_
  refine s_iadd d_Law_1243 ?_
  obtain ⟨g6, h⟩ := h
  refine s_ialdX d_Law_1244 hX g6 ?_
  refine s_aload_n 0 d_Law_1245 rfl rfl ?_
  refine s_iload_n 3 d_Law_1246 rfl rfl ?_
  refine s_iconst d_Law_1247 ?_
  refine s_iadd d_Law_1248 ?_
  obtain ⟨g7, h⟩ := h
  refine s_ialdX d_Law_1249 hX g7 ?_
  refine s_aload_n 0 d_Law_1250 rfl rfl ?_
  refine s_iload_n 3 d_Law_1251 rfl rfl ?_
  refine s_iconst d_Law_1252 ?_
  refine s_iadd d_Law_1253 ?_
  obtain ⟨g8, h⟩ := h
  refine s_ialdX d_Law_1254 hX g8 ?_
  refine s_aload_n 0 d_Law_1255 rfl rfl ?_
  refine s_iload_n 3 d_Law_1256 rfl rfl ?_
  refine s_iconst d_Law_1257 ?_
  refine s_iadd d_Law_1258 ?_
  obtain ⟨g9, h⟩ := h
  refine s_ialdX d_Law_1259 hX g9 ?_
  refine s_callV (as := [aI (f (Int.toNat (x3 + 1))), aI (f (Int.toNat (x3 + 2))), aI (f (Int.toNat (x3 + 3))), aI (f (Int.toNat (x3 + 4)))]) (ci := 10) d_Law_1260 ok_M_same lk_Law_136 io_M_same so_M_same (by decide) rfl rfl rfl (Nat.le_of_ble_eq_true rfl) rfl (sf_42 hF5) (WM.mono h ?_)
  rintro _ σ10 ⟨v10, rfl, hp, h⟩
  show WP E m_Law (d + 1) 1263 [(0, aP (-7)), (1, aP 1), (2, aP 42), (3, aI x3)] [aI v10, aI v5] σ10 Q
  obtain ⟨g11, h⟩ := h
  obtain ⟨g12, h⟩ := h
  refine s_icmp_eq d_Law_1263 rfl g11 g12 (fun c => ?_) (fun c => ?_)
  · have h := h.1 c
    exact h
  · have h := h.2 c
    refine s_iconst d_Law_1266 ?_
    exact s_zreturn d_Law_1267 rfl (by decide) h
theorem b_Law_1268 {E : EV} {d : Nat} {Q : Option AV → St → Prop} {σ : St} {L : Nat} {f : Nat → Int} (hX : XT E (-7) .int L f) (x3 : Int) (hF : Fix σ) (h : (0 ≤ (x3 + 1) ∧ (x3 + 1) < L) ∧ (WMi E m_S_tightest d [aP 1, aI (f (Int.toNat (x3 + 1)))] σ (fun v2 σ2 => Fix σ2 ∧ (0 ≤ (x3 + 1) ∧ (x3 + 1) < L) ∧ (WMi E m_M_tightest d [aP 42, aI (f (Int.toNat (x3 + 1)))] σ2 (fun v4 σ4 => (rI v2) ∧ (rI v4) ∧ ((v2 = v4 → WP E m_Law (d + 1) 1552 [(0, aP (-7)), (1, aP 1), (2, aP 42), (3, aI x3)] [] σ4 Q) ∧ (¬ v2 = v4 → Q (some (aI 0)) σ4))))))) : WP E m_Law (d + 1) 1268 [(0, aP (-7)), (1, aP 1), (2, aP 42), (3, aI x3)] [] σ Q := by
  refine s_aload_n 1 d_Law_1268 rfl rfl ?_
  refine s_aload_n 0 d_Law_1269 rfl rfl ?_
  refine s_iload_n 3 d_Law_1270 rfl rfl ?_
  refine s_iconst d_Law_1271 ?_
  refine s_iadd d_Law_1272 ?_
  obtain ⟨g1, h⟩ := h
  refine s_ialdX d_Law_1273 hX g1 ?_
  refine s_callV (as := [aI (f (Int.toNat (x3 + 1)))]) (ci := 9) d_Law_1274 ok_S_tightest lk_Law_137 io_S_tightest so_S_tightest (by decide) rfl rfl rfl (Nat.le_of_ble_eq_true rfl) rfl (sf_1 hF) (WM.mono h ?_)
  rintro _ σ2 ⟨v2, rfl, hp, h⟩
  obtain ⟨hF2, h⟩ := h
  show WP E m_Law (d + 1) 1277 [(0, aP (-7)), (1, aP 1), (2, aP 42), (3, aI x3)] [aI v2] σ2 Q
  refine s_aload_n 2 d_Law_1277 rfl rfl ?_
  refine s_aload_n 0 d_Law_1278 rfl rfl ?_
  refine s_iload_n 3 d_Law_1279 rfl rfl ?_
  refine s_iconst d_Law_1280 ?_
  refine s_iadd d_Law_1281 ?_
  obtain ⟨g3, h⟩ := h
  refine s_ialdX d_Law_1282 hX g3 ?_
  refine s_callV (as := [aI (f (Int.toNat (x3 + 1)))]) (ci := 10) d_Law_1283 ok_M_tightest lk_Law_140 io_M_tightest so_M_tightest (by decide) rfl rfl rfl (Nat.le_of_ble_eq_true rfl) rfl (sf_42 hF2) (WM.mono h ?_)
  rintro _ σ4 ⟨v4, rfl, hp, h⟩
  show WP E m_Law (d + 1) 1286 [(0, aP (-7)), (1, aP 1), (2, aP 42), (3, aI x3)] [aI v4, aI v2] σ4 Q
  obtain ⟨g5, h⟩ := h
  obtain ⟨g6, h⟩ := h
  refine s_icmp_eq d_Law_1286 rfl g5 g6 (fun c => ?_) (fun c => ?_)
  · have h := h.1 c
    exact h
  · have h := h.2 c
    refine s_iconst d_Law_1289 ?_
    exact s_zreturn d_Law_1290 rfl (by decide) h
theorem b_Law_1291 {E : EV} {d : Nat} {Q : Option AV → St → Prop} {σ : St} {L : Nat} {f : Nat → Int} (hX : XT E (-7) .int L f) (x3 : Int) (hF : Fix σ) (h : (0 ≤ (x3 + 1) ∧ (x3 + 1) < L) ∧ (0 ≤ (x3 + 2) ∧ (x3 + 2) < L) ∧ (WMi E m_S_least d [aP 1, aI (f (Int.toNat (x3 + 1))), aI (f (Int.toNat (x3 + 2)))] σ (fun v3 σ3 => Fix σ3 ∧ (0 ≤ (x3 + 1) ∧ (x3 + 1) < L) ∧ (0 ≤ (x3 + 2) ∧ (x3 + 2) < L) ∧ (WMi E m_M_least d [aP 42, aI (f (Int.toNat (x3 + 1))), aI (f (Int.toNat (x3 + 2)))] σ3 (fun v6 σ6 => (rI v3) ∧ (rI v6) ∧ ((v3 = v6 → WP E m_Law (d + 1) 1552 [(0, aP (-7)), (1, aP 1), (2, aP 42), (3, aI x3)] [] σ6 Q) ∧ (¬ v3 = v6 → Q (some (aI 0)) σ6))))))) : WP E m_Law (d + 1) 1291 [(0, aP (-7)), (1, aP 1), (2, aP 42), (3, aI x3)] [] σ Q := by
  refine s_aload_n 1 d_Law_1291 rfl rfl ?_
  refine s_aload_n 0 d_Law_1292 rfl rfl ?_
  refine s_iload_n 3 d_Law_1293 rfl rfl ?_
  refine s_iconst d_Law_1294 ?_
  refine s_iadd d_Law_1295 ?_
  obtain ⟨g1, h⟩ := h
  refine s_ialdX d_Law_1296 hX g1 ?_
  refine s_aload_n 0 d_Law_1297 rfl rfl ?_
  refine s_iload_n 3 d_Law_1298 rfl rfl ?_
  refine s_iconst d_Law_1299 ?_
  refine s_iadd d_Law_1300 ?_
  obtain ⟨g2, h⟩ := h
  refine s_ialdX d_Law_1301 hX g2 ?_
  refine s_callV (as := [aI (f (Int.toNat (x3 + 1))), aI (f (Int.toNat (x3 + 2)))]) (ci := 9) d_Law_1302 ok_S_least lk_Law_141 io_S_least so_S_least (by decide) rfl rfl rfl (Nat.le_of_ble_eq_true rfl) rfl (sf_1 hF) (WM.mono h ?_)
  rintro _ σ3 ⟨v3, rfl, hp, h⟩
  obtain ⟨hF3, h⟩ := h
  show WP E m_Law (d + 1) 1305 [(0, aP (-7)), (1, aP 1), (2, aP 42), (3, aI x3)] [aI v3] σ3 Q
  refine s_aload_n 2 d_Law_1305 rfl rfl ?_
  refine s_aload_n 0 d_Law_1306 rfl rfl ?_
  refine s_iload_n 3 d_Law_1307 rfl rfl ?_
  refine s_iconst d_Law_1308 ?_
  refine s_iadd d_Law_1309 ?_
  obtain ⟨g4, h⟩ := h
  refine s_ialdX d_Law_1310 hX g4 ?_
  refine s_aload_n 0 d_Law_1311 rfl rfl ?_
  refine s_iload_n 3 d_Law_1312 rfl rfl ?_
  refine s_iconst d_Law_1313 ?_
  refine s_iadd d_Law_1314 ?_
  obtain ⟨g5, h⟩ := h
  refine s_ialdX d_Law_1315 hX g5 ?_
  refine s_callV (as := [aI (f (Int.toNat (x3 + 1))), aI (f (Int.toNat (x3 + 2)))]) (ci := 10) d_Law_1316 ok_M_least lk_Law_144 io_M_least so_M_least (by decide) rfl rfl rfl (Nat.le_of_ble_eq_true rfl) rfl (sf_42 hF3) (WM.mono h ?_)
  rintro _ σ6 ⟨v6, rfl, hp, h⟩
  show WP E m_Law (d + 1) 1319 [(0, aP (-7)), (1, aP 1), (2, aP 42), (3, aI x3)] [aI v6, aI v3] σ6 Q
  obtain ⟨g7, h⟩ := h
  obtain ⟨g8, h⟩ := h
  refine s_icmp_eq d_Law_1319 rfl g7 g8 (fun c => ?_) (fun c => ?_)
  · have h := h.1 c
    exact h
  · have h := h.2 c
    refine s_iconst d_Law_1322 ?_
    exact s_zreturn d_Law_1323 rfl (by decide) h
theorem b_Law_1324 {E : EV} {d : Nat} {Q : Option AV → St → Prop} {σ : St} {L : Nat} {f : Nat → Int} (hX : XT E (-7) .int L f) (x3 : Int) (hF : Fix σ) (h : (0 ≤ (x3 + 1) ∧ (x3 + 1) < L) ∧ (0 ≤ (x3 + 2) ∧ (x3 + 2) < L) ∧ (WMi E m_S_ways d [aP 1, aI (f (Int.toNat (x3 + 1))), aI (f (Int.toNat (x3 + 2)))] σ (fun v3 σ3 => Fix σ3 ∧ (0 ≤ (x3 + 1) ∧ (x3 + 1) < L) ∧ (0 ≤ (x3 + 2) ∧ (x3 + 2) < L) ∧ (WMi E m_M_ways d [aP 42, aI (f (Int.toNat (x3 + 1))), aI (f (Int.toNat (x3 + 2)))] σ3 (fun v6 σ6 => (rI v3) ∧ (rI v6) ∧ ((v3 = v6 → WP E m_Law (d + 1) 1552 [(0, aP (-7)), (1, aP 1), (2, aP 42), (3, aI x3)] [] σ6 Q) ∧ (¬ v3 = v6 → Q (some (aI 0)) σ6))))))) : WP E m_Law (d + 1) 1324 [(0, aP (-7)), (1, aP 1), (2, aP 42), (3, aI x3)] [] σ Q := by
  refine s_aload_n 1 d_Law_1324 rfl rfl ?_
  refine s_aload_n 0 d_Law_1325 rfl rfl ?_
  refine s_iload_n 3 d_Law_1326 rfl rfl ?_
  refine s_iconst d_Law_1327 ?_
  refine s_iadd d_Law_1328 ?_
  obtain ⟨g1, h⟩ := h
  refine s_ialdX d_Law_1329 hX g1 ?_
  refine s_aload_n 0 d_Law_1330 rfl rfl ?_
  refine s_iload_n 3 d_Law_1331 rfl rfl ?_
  refine s_iconst d_Law_1332 ?_
  refine s_iadd d_Law_1333 ?_
  obtain ⟨g2, h⟩ := h
  refine s_ialdX d_Law_1334 hX g2 ?_
  refine s_callV (as := [aI (f (Int.toNat (x3 + 1))), aI (f (Int.toNat (x3 + 2)))]) (ci := 9) d_Law_1335 ok_S_ways lk_Law_145 io_S_ways so_S_ways (by decide) rfl rfl rfl (Nat.le_of_ble_eq_true rfl) rfl (sf_1 hF) (WM.mono h ?_)
  rintro _ σ3 ⟨v3, rfl, hp, h⟩
  obtain ⟨hF3, h⟩ := h
  show WP E m_Law (d + 1) 1338 [(0, aP (-7)), (1, aP 1), (2, aP 42), (3, aI x3)] [aI v3] σ3 Q
  refine s_aload_n 2 d_Law_1338 rfl rfl ?_
  refine s_aload_n 0 d_Law_1339 rfl rfl ?_
  refine s_iload_n 3 d_Law_1340 rfl rfl ?_
  refine s_iconst d_Law_1341 ?_
  refine s_iadd d_Law_1342 ?_
  obtain ⟨g4, h⟩ := h
  refine s_ialdX d_Law_1343 hX g4 ?_
  refine s_aload_n 0 d_Law_1344 rfl rfl ?_
  refine s_iload_n 3 d_Law_1345 rfl rfl ?_
  refine s_iconst d_Law_1346 ?_
  refine s_iadd d_Law_1347 ?_
  obtain ⟨g5, h⟩ := h
  refine s_ialdX d_Law_1348 hX g5 ?_
  refine s_callV (as := [aI (f (Int.toNat (x3 + 1))), aI (f (Int.toNat (x3 + 2)))]) (ci := 10) d_Law_1349 ok_M_ways lk_Law_148 io_M_ways so_M_ways (by decide) rfl rfl rfl (Nat.le_of_ble_eq_true rfl) rfl (sf_42 hF3) (WM.mono h ?_)
  rintro _ σ6 ⟨v6, rfl, hp, h⟩
  show WP E m_Law (d + 1) 1352 [(0, aP (-7)), (1, aP 1), (2, aP 42), (3, aI x3)] [aI v6, aI v3] σ6 Q
  obtain ⟨g7, h⟩ := h
  obtain ⟨g8, h⟩ := h
  refine s_icmp_eq d_Law_1352 rfl g7 g8 (fun c => ?_) (fun c => ?_)
  · have h := h.1 c
    exact h
  · have h := h.2 c
    refine s_iconst d_Law_1355 ?_
    exact s_zreturn d_Law_1356 rfl (by decide) h
theorem b_Law_1357 {E : EV} {d : Nat} {Q : Option AV → St → Prop} {σ : St} {L : Nat} {f : Nat → Int} (hX : XT E (-7) .int L f) (x3 : Int) (hF : Fix σ) (h : (0 ≤ (x3 + 1) ∧ (x3 + 1) < L) ∧ (0 ≤ (x3 + 2) ∧ (x3 + 2) < L) ∧ (0 ≤ (x3 + 3) ∧ (x3 + 3) < L) ∧ (WMi E m_S_best d [aP 1, aI (f (Int.toNat (x3 + 1))), aI (f (Int.toNat (x3 + 2))), aI (f (Int.toNat (x3 + 3)))] σ (fun v4 σ4 => Fix σ4 ∧ (0 ≤ (x3 + 1) ∧ (x3 + 1) < L) ∧ (0 ≤ (x3 + 2) ∧ (x3 + 2) < L) ∧ (0 ≤ (x3 + 3) ∧ (x3 + 3) < L) ∧ (WMi E m_M_best d [aP 42, aI (f (Int.toNat (x3 + 1))), aI (f (Int.toNat (x3 + 2))), aI (f (Int.toNat (x3 + 3)))] σ4 (fun v8 σ8 => (rI v4) ∧ (rI v8) ∧ ((v4 = v8 → WP E m_Law (d + 1) 1552 [(0, aP (-7)), (1, aP 1), (2, aP 42), (3, aI x3)] [] σ8 Q) ∧ (¬ v4 = v8 → Q (some (aI 0)) σ8))))))) : WP E m_Law (d + 1) 1357 [(0, aP (-7)), (1, aP 1), (2, aP 42), (3, aI x3)] [] σ Q := by
  refine s_aload_n 1 d_Law_1357 rfl rfl ?_
  refine s_aload_n 0 d_Law_1358 rfl rfl ?_
  refine s_iload_n 3 d_Law_1359 rfl rfl ?_
  refine s_iconst d_Law_1360 ?_
  refine s_iadd d_Law_1361 ?_
  obtain ⟨g1, h⟩ := h
  refine s_ialdX d_Law_1362 hX g1 ?_
  refine s_aload_n 0 d_Law_1363 rfl rfl ?_
  refine s_iload_n 3 d_Law_1364 rfl rfl ?_
  refine s_iconst d_Law_1365 ?_
  refine s_iadd d_Law_1366 ?_
  obtain ⟨g2, h⟩ := h
  refine s_ialdX d_Law_1367 hX g2 ?_
  refine s_aload_n 0 d_Law_1368 rfl rfl ?_
  refine s_iload_n 3 d_Law_1369 rfl rfl ?_
  refine s_iconst d_Law_1370 ?_
  refine s_iadd d_Law_1371 ?_
  obtain ⟨g3, h⟩ := h
  refine s_ialdX d_Law_1372 hX g3 ?_
  refine s_callV (as := [aI (f (Int.toNat (x3 + 1))), aI (f (Int.toNat (x3 + 2))), aI (f (Int.toNat (x3 + 3)))]) (ci := 9) d_Law_1373 ok_S_best lk_Law_149 io_S_best so_S_best (by decide) rfl rfl rfl (Nat.le_of_ble_eq_true rfl) rfl (sf_1 hF) (WM.mono h ?_)
  rintro _ σ4 ⟨v4, rfl, hp, h⟩
  obtain ⟨hF4, h⟩ := h
  show WP E m_Law (d + 1) 1376 [(0, aP (-7)), (1, aP 1), (2, aP 42), (3, aI x3)] [aI v4] σ4 Q
  refine s_aload_n 2 d_Law_1376 rfl rfl ?_
  refine s_aload_n 0 d_Law_1377 rfl rfl ?_
  refine s_iload_n 3 d_Law_1378 rfl rfl ?_
  refine s_iconst d_Law_1379 ?_
  refine s_iadd d_Law_1380 ?_
  obtain ⟨g5, h⟩ := h
  refine s_ialdX d_Law_1381 hX g5 ?_
  refine s_aload_n 0 d_Law_1382 rfl rfl ?_
  refine s_iload_n 3 d_Law_1383 rfl rfl ?_
  refine s_iconst d_Law_1384 ?_
  refine s_iadd d_Law_1385 ?_
  obtain ⟨g6, h⟩ := h
  refine s_ialdX d_Law_1386 hX g6 ?_
  refine s_aload_n 0 d_Law_1387 rfl rfl ?_
  refine s_iload_n 3 d_Law_1388 rfl rfl ?_
  refine s_iconst d_Law_1389 ?_
  refine s_iadd d_Law_1390 ?_
  obtain ⟨g7, h⟩ := h
  refine s_ialdX d_Law_1391 hX g7 ?_
  refine s_callV (as := [aI (f (Int.toNat (x3 + 1))), aI (f (Int.toNat (x3 + 2))), aI (f (Int.toNat (x3 + 3)))]) (ci := 10) d_Law_1392 ok_M_best lk_Law_152 io_M_best so_M_best (by decide) rfl rfl rfl (Nat.le_of_ble_eq_true rfl) rfl (sf_42 hF4) (WM.mono h ?_)
  rintro _ σ8 ⟨v8, rfl, hp, h⟩
  show WP E m_Law (d + 1) 1395 [(0, aP (-7)), (1, aP 1), (2, aP 42), (3, aI x3)] [aI v8, aI v4] σ8 Q
  obtain ⟨g9, h⟩ := h
  obtain ⟨g10, h⟩ := h
  refine s_icmp_eq d_Law_1395 rfl g9 g10 (fun c => ?_) (fun c => ?_)
  · have h := h.1 c
    exact h
  · have h := h.2 c
    refine s_iconst d_Law_1398 ?_
    exact s_zreturn d_Law_1399 rfl (by decide) h
theorem b_Law_1400 {E : EV} {d : Nat} {Q : Option AV → St → Prop} {σ : St} {L : Nat} {f : Nat → Int} (hX : XT E (-7) .int L f) (x3 : Int) (hF : Fix σ) (h : (0 ≤ (x3 + 1) ∧ (x3 + 1) < L) ∧ (0 ≤ (x3 + 2) ∧ (x3 + 2) < L) ∧ (0 ≤ (x3 + 3) ∧ (x3 + 3) < L) ∧ (WMi E m_S_bestText d [aP 1, aI (f (Int.toNat (x3 + 1))), aI (f (Int.toNat (x3 + 2))), aI (f (Int.toNat (x3 + 3)))] σ (fun v4 σ4 => Fix σ4 ∧ (0 ≤ (x3 + 1) ∧ (x3 + 1) < L) ∧ (0 ≤ (x3 + 2) ∧ (x3 + 2) < L) ∧ (0 ≤ (x3 + 3) ∧ (x3 + 3) < L) ∧ (WMi E m_M_bestText d [aP 42, aI (f (Int.toNat (x3 + 1))), aI (f (Int.toNat (x3 + 2))), aI (f (Int.toNat (x3 + 3)))] σ4 (fun v8 σ8 => (rI v4) ∧ (rI v8) ∧ ((v4 = v8 → WP E m_Law (d + 1) 1552 [(0, aP (-7)), (1, aP 1), (2, aP 42), (3, aI x3)] [] σ8 Q) ∧ (¬ v4 = v8 → Q (some (aI 0)) σ8))))))) : WP E m_Law (d + 1) 1400 [(0, aP (-7)), (1, aP 1), (2, aP 42), (3, aI x3)] [] σ Q := by
  refine s_aload_n 1 d_Law_1400 rfl rfl ?_
  refine s_aload_n 0 d_Law_1401 rfl rfl ?_
  refine s_iload_n 3 d_Law_1402 rfl rfl ?_
  refine s_iconst d_Law_1403 ?_
  refine s_iadd d_Law_1404 ?_
  obtain ⟨g1, h⟩ := h
  refine s_ialdX d_Law_1405 hX g1 ?_
  refine s_aload_n 0 d_Law_1406 rfl rfl ?_
  refine s_iload_n 3 d_Law_1407 rfl rfl ?_
  refine s_iconst d_Law_1408 ?_
  refine s_iadd d_Law_1409 ?_
  obtain ⟨g2, h⟩ := h
  refine s_ialdX d_Law_1410 hX g2 ?_
  refine s_aload_n 0 d_Law_1411 rfl rfl ?_
  refine s_iload_n 3 d_Law_1412 rfl rfl ?_
  refine s_iconst d_Law_1413 ?_
  refine s_iadd d_Law_1414 ?_
  obtain ⟨g3, h⟩ := h
  refine s_ialdX d_Law_1415 hX g3 ?_
  refine s_callV (as := [aI (f (Int.toNat (x3 + 1))), aI (f (Int.toNat (x3 + 2))), aI (f (Int.toNat (x3 + 3)))]) (ci := 9) d_Law_1416 ok_S_bestText lk_Law_153 io_S_bestText so_S_bestText (by decide) rfl rfl rfl (Nat.le_of_ble_eq_true rfl) rfl (sf_1 hF) (WM.mono h ?_)
  rintro _ σ4 ⟨v4, rfl, hp, h⟩
  obtain ⟨hF4, h⟩ := h
  show WP E m_Law (d + 1) 1419 [(0, aP (-7)), (1, aP 1), (2, aP 42), (3, aI x3)] [aI v4] σ4 Q
  refine s_aload_n 2 d_Law_1419 rfl rfl ?_
  refine s_aload_n 0 d_Law_1420 rfl rfl ?_
  refine s_iload_n 3 d_Law_1421 rfl rfl ?_
  refine s_iconst d_Law_1422 ?_
  refine s_iadd d_Law_1423 ?_
  obtain ⟨g5, h⟩ := h
  refine s_ialdX d_Law_1424 hX g5 ?_
  refine s_aload_n 0 d_Law_1425 rfl rfl ?_
  refine s_iload_n 3 d_Law_1426 rfl rfl ?_
  refine s_iconst d_Law_1427 ?_
  refine s_iadd d_Law_1428 ?_
  obtain ⟨g6, h⟩ := h
  refine s_ialdX d_Law_1429 hX g6 ?_
  refine s_aload_n 0 d_Law_1430 rfl rfl ?_
  refine s_iload_n 3 d_Law_1431 rfl rfl ?_
  refine s_iconst d_Law_1432 ?_
  refine s_iadd d_Law_1433 ?_
  obtain ⟨g7, h⟩ := h
  refine s_ialdX d_Law_1434 hX g7 ?_
  refine s_callV (as := [aI (f (Int.toNat (x3 + 1))), aI (f (Int.toNat (x3 + 2))), aI (f (Int.toNat (x3 + 3)))]) (ci := 10) d_Law_1435 ok_M_bestText lk_Law_156 io_M_bestText so_M_bestText (by decide) rfl rfl rfl (Nat.le_of_ble_eq_true rfl) rfl (sf_42 hF4) (WM.mono h ?_)
  rintro _ σ8 ⟨v8, rfl, hp, h⟩
  show WP E m_Law (d + 1) 1438 [(0, aP (-7)), (1, aP 1), (2, aP 42), (3, aI x3)] [aI v8, aI v4] σ8 Q
  obtain ⟨g9, h⟩ := h
  obtain ⟨g10, h⟩ := h
  refine s_icmp_eq d_Law_1438 rfl g9 g10 (fun c => ?_) (fun c => ?_)
  · have h := h.1 c
    exact h
  · have h := h.2 c
    refine s_iconst d_Law_1441 ?_
    exact s_zreturn d_Law_1442 rfl (by decide) h
theorem b_Law_1443 {E : EV} {d : Nat} {Q : Option AV → St → Prop} {σ : St} {L : Nat} {f : Nat → Int} (hX : XT E (-7) .int L f) (x3 : Int) (hF : Fix σ) (h : (0 ≤ (x3 + 1) ∧ (x3 + 1) < L) ∧ (0 ≤ (x3 + 2) ∧ (x3 + 2) < L) ∧ (0 ≤ (x3 + 3) ∧ (x3 + 3) < L) ∧ (WMi E m_S_joined d [aP 1, aI (f (Int.toNat (x3 + 1))), aI (f (Int.toNat (x3 + 2))), aI (f (Int.toNat (x3 + 3)))] σ (fun v4 σ4 => Fix σ4 ∧ (0 ≤ (x3 + 1) ∧ (x3 + 1) < L) ∧ (0 ≤ (x3 + 2) ∧ (x3 + 2) < L) ∧ (0 ≤ (x3 + 3) ∧ (x3 + 3) < L) ∧ (WMi E m_M_joined d [aP 42, aI (f (Int.toNat (x3 + 1))), aI (f (Int.toNat (x3 + 2))), aI (f (Int.toNat (x3 + 3)))] σ4 (fun v8 σ8 => (rI v4) ∧ (rI v8) ∧ ((v4 = v8 → WP E m_Law (d + 1) 1552 [(0, aP (-7)), (1, aP 1), (2, aP 42), (3, aI x3)] [] σ8 Q) ∧ (¬ v4 = v8 → Q (some (aI 0)) σ8))))))) : WP E m_Law (d + 1) 1443 [(0, aP (-7)), (1, aP 1), (2, aP 42), (3, aI x3)] [] σ Q := by
  refine s_aload_n 1 d_Law_1443 rfl rfl ?_
  refine s_aload_n 0 d_Law_1444 rfl rfl ?_
  refine s_iload_n 3 d_Law_1445 rfl rfl ?_
  refine s_iconst d_Law_1446 ?_
  refine s_iadd d_Law_1447 ?_
  obtain ⟨g1, h⟩ := h
  refine s_ialdX d_Law_1448 hX g1 ?_
  refine s_aload_n 0 d_Law_1449 rfl rfl ?_
  refine s_iload_n 3 d_Law_1450 rfl rfl ?_
  refine s_iconst d_Law_1451 ?_
  refine s_iadd d_Law_1452 ?_
  obtain ⟨g2, h⟩ := h
  refine s_ialdX d_Law_1453 hX g2 ?_
  refine s_aload_n 0 d_Law_1454 rfl rfl ?_
  refine s_iload_n 3 d_Law_1455 rfl rfl ?_
  refine s_iconst d_Law_1456 ?_
  refine s_iadd d_Law_1457 ?_
  obtain ⟨g3, h⟩ := h
  refine s_ialdX d_Law_1458 hX g3 ?_
  refine s_callV (as := [aI (f (Int.toNat (x3 + 1))), aI (f (Int.toNat (x3 + 2))), aI (f (Int.toNat (x3 + 3)))]) (ci := 9) d_Law_1459 ok_S_joined lk_Law_157 io_S_joined so_S_joined (by decide) rfl rfl rfl (Nat.le_of_ble_eq_true rfl) rfl (sf_1 hF) (WM.mono h ?_)
  rintro _ σ4 ⟨v4, rfl, hp, h⟩
  obtain ⟨hF4, h⟩ := h
  show WP E m_Law (d + 1) 1462 [(0, aP (-7)), (1, aP 1), (2, aP 42), (3, aI x3)] [aI v4] σ4 Q
  refine s_aload_n 2 d_Law_1462 rfl rfl ?_
  refine s_aload_n 0 d_Law_1463 rfl rfl ?_
  refine s_iload_n 3 d_Law_1464 rfl rfl ?_
  refine s_iconst d_Law_1465 ?_
  refine s_iadd d_Law_1466 ?_
  obtain ⟨g5, h⟩ := h
  refine s_ialdX d_Law_1467 hX g5 ?_
  refine s_aload_n 0 d_Law_1468 rfl rfl ?_
  refine s_iload_n 3 d_Law_1469 rfl rfl ?_
  refine s_iconst d_Law_1470 ?_
  refine s_iadd d_Law_1471 ?_
  obtain ⟨g6, h⟩ := h
  refine s_ialdX d_Law_1472 hX g6 ?_
  refine s_aload_n 0 d_Law_1473 rfl rfl ?_
  refine s_iload_n 3 d_Law_1474 rfl rfl ?_
  refine s_iconst d_Law_1475 ?_
  refine s_iadd d_Law_1476 ?_
  obtain ⟨g7, h⟩ := h
  refine s_ialdX d_Law_1477 hX g7 ?_
  refine s_callV (as := [aI (f (Int.toNat (x3 + 1))), aI (f (Int.toNat (x3 + 2))), aI (f (Int.toNat (x3 + 3)))]) (ci := 10) d_Law_1478 ok_M_joined lk_Law_160 io_M_joined so_M_joined (by decide) rfl rfl rfl (Nat.le_of_ble_eq_true rfl) rfl (sf_42 hF4) (WM.mono h ?_)
  rintro _ σ8 ⟨v8, rfl, hp, h⟩
  show WP E m_Law (d + 1) 1481 [(0, aP (-7)), (1, aP 1), (2, aP 42), (3, aI x3)] [aI v8, aI v4] σ8 Q
  obtain ⟨g9, h⟩ := h
  obtain ⟨g10, h⟩ := h
  refine s_icmp_eq d_Law_1481 rfl g9 g10 (fun c => ?_) (fun c => ?_)
  · have h := h.1 c
    exact h
  · have h := h.2 c
    refine s_iconst d_Law_1484 ?_
    exact s_zreturn d_Law_1485 rfl (by decide) h
theorem b_Law_1486 {E : EV} {d : Nat} {Q : Option AV → St → Prop} {σ : St} {L : Nat} {f : Nat → Int} (hX : XT E (-7) .int L f) (x3 : Int) (hF : Fix σ) (h : (0 ≤ (x3 + 1) ∧ (x3 + 1) < L) ∧ (0 ≤ (x3 + 2) ∧ (x3 + 2) < L) ∧ (0 ≤ (x3 + 3) ∧ (x3 + 3) < L) ∧ (WMi E m_S_spell d [aP 1, aI (f (Int.toNat (x3 + 1))), aI (f (Int.toNat (x3 + 2))), aI (f (Int.toNat (x3 + 3)))] σ (fun v4 σ4 => Fix σ4 ∧ (0 ≤ (x3 + 1) ∧ (x3 + 1) < L) ∧ (0 ≤ (x3 + 2) ∧ (x3 + 2) < L) ∧ (0 ≤ (x3 + 3) ∧ (x3 + 3) < L) ∧ (WMi E m_M_spell d [aP 42, aI (f (Int.toNat (x3 + 1))), aI (f (Int.toNat (x3 + 2))), aI (f (Int.toNat (x3 + 3)))] σ4 (fun v8 σ8 => (rI v4) ∧ (rI v8) ∧ ((v4 = v8 → WP E m_Law (d + 1) 1552 [(0, aP (-7)), (1, aP 1), (2, aP 42), (3, aI x3)] [] σ8 Q) ∧ (¬ v4 = v8 → Q (some (aI 0)) σ8))))))) : WP E m_Law (d + 1) 1486 [(0, aP (-7)), (1, aP 1), (2, aP 42), (3, aI x3)] [] σ Q := by
  refine s_aload_n 1 d_Law_1486 rfl rfl ?_
  refine s_aload_n 0 d_Law_1487 rfl rfl ?_
  refine s_iload_n 3 d_Law_1488 rfl rfl ?_
  refine s_iconst d_Law_1489 ?_
  refine s_iadd d_Law_1490 ?_
  obtain ⟨g1, h⟩ := h
  refine s_ialdX d_Law_1491 hX g1 ?_
  refine s_aload_n 0 d_Law_1492 rfl rfl ?_
  refine s_iload_n 3 d_Law_1493 rfl rfl ?_
  refine s_iconst d_Law_1494 ?_
  refine s_iadd d_Law_1495 ?_
  obtain ⟨g2, h⟩ := h
  refine s_ialdX d_Law_1496 hX g2 ?_
  refine s_aload_n 0 d_Law_1497 rfl rfl ?_
  refine s_iload_n 3 d_Law_1498 rfl rfl ?_
  refine s_iconst d_Law_1499 ?_
  refine s_iadd d_Law_1500 ?_
  obtain ⟨g3, h⟩ := h
  refine s_ialdX d_Law_1501 hX g3 ?_
  refine s_callV (as := [aI (f (Int.toNat (x3 + 1))), aI (f (Int.toNat (x3 + 2))), aI (f (Int.toNat (x3 + 3)))]) (ci := 9) d_Law_1502 ok_S_spell lk_Law_161 io_S_spell so_S_spell (by decide) rfl rfl rfl (Nat.le_of_ble_eq_true rfl) rfl (sf_1 hF) (WM.mono h ?_)
  rintro _ σ4 ⟨v4, rfl, hp, h⟩
  obtain ⟨hF4, h⟩ := h
  show WP E m_Law (d + 1) 1505 [(0, aP (-7)), (1, aP 1), (2, aP 42), (3, aI x3)] [aI v4] σ4 Q
  refine s_aload_n 2 d_Law_1505 rfl rfl ?_
  refine s_aload_n 0 d_Law_1506 rfl rfl ?_
  refine s_iload_n 3 d_Law_1507 rfl rfl ?_
  refine s_iconst d_Law_1508 ?_
  refine s_iadd d_Law_1509 ?_
  obtain ⟨g5, h⟩ := h
  refine s_ialdX d_Law_1510 hX g5 ?_
  refine s_aload_n 0 d_Law_1511 rfl rfl ?_
  refine s_iload_n 3 d_Law_1512 rfl rfl ?_
  refine s_iconst d_Law_1513 ?_
  refine s_iadd d_Law_1514 ?_
  obtain ⟨g6, h⟩ := h
  refine s_ialdX d_Law_1515 hX g6 ?_
  refine s_aload_n 0 d_Law_1516 rfl rfl ?_
  refine s_iload_n 3 d_Law_1517 rfl rfl ?_
  refine s_iconst d_Law_1518 ?_
  refine s_iadd d_Law_1519 ?_
  obtain ⟨g7, h⟩ := h
  refine s_ialdX d_Law_1520 hX g7 ?_
  refine s_callV (as := [aI (f (Int.toNat (x3 + 1))), aI (f (Int.toNat (x3 + 2))), aI (f (Int.toNat (x3 + 3)))]) (ci := 10) d_Law_1521 ok_M_spell lk_Law_164 io_M_spell so_M_spell (by decide) rfl rfl rfl (Nat.le_of_ble_eq_true rfl) rfl (sf_42 hF4) (WM.mono h ?_)
  rintro _ σ8 ⟨v8, rfl, hp, h⟩
  show WP E m_Law (d + 1) 1524 [(0, aP (-7)), (1, aP 1), (2, aP 42), (3, aI x3)] [aI v8, aI v4] σ8 Q
  obtain ⟨g9, h⟩ := h
  obtain ⟨g10, h⟩ := h
  refine s_icmp_eq d_Law_1524 rfl g9 g10 (fun c => ?_) (fun c => ?_)
  · have h := h.1 c
    exact h
  · have h := h.2 c
    refine s_iconst d_Law_1527 ?_
    exact s_zreturn d_Law_1528 rfl (by decide) h
theorem b_Law_1529 {E : EV} {d : Nat} {Q : Option AV → St → Prop} {σ : St} {L : Nat} {f : Nat → Int} (hX : XT E (-7) .int L f) (x3 : Int) (hF : Fix σ) (h : (0 ≤ (x3 + 1) ∧ (x3 + 1) < L) ∧ (WMi E m_S_count d [aP 1, aI (f (Int.toNat (x3 + 1)))] σ (fun v2 σ2 => Fix σ2 ∧ (0 ≤ (x3 + 1) ∧ (x3 + 1) < L) ∧ (WMi E m_M_count d [aP 42, aI (f (Int.toNat (x3 + 1)))] σ2 (fun v4 σ4 => (rI v2) ∧ (rI v4) ∧ ((v2 = v4 → WP E m_Law (d + 1) 1552 [(0, aP (-7)), (1, aP 1), (2, aP 42), (3, aI x3)] [] σ4 Q) ∧ (¬ v2 = v4 → Q (some (aI 0)) σ4))))))) : WP E m_Law (d + 1) 1529 [(0, aP (-7)), (1, aP 1), (2, aP 42), (3, aI x3)] [] σ Q := by
  refine s_aload_n 1 d_Law_1529 rfl rfl ?_
  refine s_aload_n 0 d_Law_1530 rfl rfl ?_
  refine s_iload_n 3 d_Law_1531 rfl rfl ?_
  refine s_iconst d_Law_1532 ?_
  refine s_iadd d_Law_1533 ?_
  obtain ⟨g1, h⟩ := h
  refine s_ialdX d_Law_1534 hX g1 ?_
  refine s_callV (as := [aI (f (Int.toNat (x3 + 1)))]) (ci := 9) d_Law_1535 ok_S_count lk_Law_165 io_S_count so_S_count (by decide) rfl rfl rfl (Nat.le_of_ble_eq_true rfl) rfl (sf_1 hF) (WM.mono h ?_)
  rintro _ σ2 ⟨v2, rfl, hp, h⟩
  obtain ⟨hF2, h⟩ := h
  show WP E m_Law (d + 1) 1538 [(0, aP (-7)), (1, aP 1), (2, aP 42), (3, aI x3)] [aI v2] σ2 Q
  refine s_aload_n 2 d_Law_1538 rfl rfl ?_
  refine s_aload_n 0 d_Law_1539 rfl rfl ?_
  refine s_iload_n 3 d_Law_1540 rfl rfl ?_
  refine s_iconst d_Law_1541 ?_
  refine s_iadd d_Law_1542 ?_
  obtain ⟨g3, h⟩ := h
  refine s_ialdX d_Law_1543 hX g3 ?_
  refine s_callV (as := [aI (f (Int.toNat (x3 + 1)))]) (ci := 10) d_Law_1544 ok_M_count lk_Law_168 io_M_count so_M_count (by decide) rfl rfl rfl (Nat.le_of_ble_eq_true rfl) rfl (sf_42 hF2) (WM.mono h ?_)
  rintro _ σ4 ⟨v4, rfl, hp, h⟩
  show WP E m_Law (d + 1) 1547 [(0, aP (-7)), (1, aP 1), (2, aP 42), (3, aI x3)] [aI v4, aI v2] σ4 Q
  obtain ⟨g5, h⟩ := h
  obtain ⟨g6, h⟩ := h
  refine s_icmp_eq d_Law_1547 rfl g5 g6 (fun c => ?_) (fun c => ?_)
  · have h := h.1 c
    exact h
  · have h := h.2 c
    refine s_iconst d_Law_1550 ?_
    exact s_zreturn d_Law_1551 rfl (by decide) h
theorem b_Law_1552 {E : EV} {d : Nat} {Q : Option AV → St → Prop} {σ : St} {L : Nat} {f : Nat → Int} (hX : XT E (-7) .int L f) (x3 : Int) (h : WP E m_Law (d + 1) 18 [(0, aP (-7)), (1, aP 1), (2, aP 42), (3, aI (x3 + 6))] [] σ Q) : WP E m_Law (d + 1) 1552 [(0, aP (-7)), (1, aP 1), (2, aP 42), (3, aI x3)] [] σ Q := by
  refine s_iinc 3 d_Law_1552 rfl (by decide) rfl ?_
  refine s_goto d_Law_1555 rfl ?_
  refine wp_drop [1, 2, 3, 0] rfl ?_
  exact h
